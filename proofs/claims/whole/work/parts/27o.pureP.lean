/-! images: the class's copies -/
theorem gc_it {k j : Nat} (hd : j + 2 < k ∨ k + 2 < j) (τ : St) : ∀ N, (∀ q, q ≠ k + 1 → q ≠ k + 2 → itr (gcst k j) N τ q = τ q) ∧ ∀ n, n < N → itr (gcst k j) N τ (k + 1) n = τ (j + 1) n ∧ itr (gcst k j) N τ (k + 2) n = τ (j + 2) n
  | 0 => ⟨fun _ _ _ => rfl, fun n h => absurd h (Nat.not_lt_zero n)⟩
  | N + 1 => by
    obtain ⟨ih1, ih2⟩ := gc_it hd τ N
    have e : itr (gcst k j) (N + 1) τ = gcst k j N (itr (gcst k j) N τ) := rfl
    rw [e]
    generalize itr (gcst k j) N τ = ρ at ih1 ih2 ⊢
    unfold gcst
    refine ⟨fun q h1 h2 => ?_, fun n hn => ?_⟩
    · rw [cpA_ne h2, cpA_ne h1]; exact ih1 q h1 h2
    · rw [cpA_ne (show k + 1 ≠ k + 2 by omega)]
      by_cases en : n = N
      · subst en
        rw [cpA_at, cpA_at, cpA_ne (show j + 2 ≠ k + 1 by omega), ih1 (j + 1) (by omega) (by omega), ih1 (j + 2) (by omega) (by omega)]
        exact ⟨rfl, rfl⟩
      · rw [cpA_j en, cpA_j en, cpA_ne (show k + 2 ≠ k + 1 by omega)]; exact ih2 n (by omega)
theorem gcopy_v (σ : St) {k j : Nat} (hd : j + 2 < k ∨ k + 2 < j) : gcopy σ k j k 2 = σ j 2 ∧ (∀ n, n < 8 → gcopy σ k j (k + 1) n = σ (j + 1) n ∧ gcopy σ k j (k + 2) n = σ (j + 2) n) ∧ ∀ q, q ≠ k → q ≠ k + 1 → q ≠ k + 2 → gcopy σ k j q = σ q := by
  obtain ⟨h1, h2⟩ := gc_it hd (gcp0 σ k j) 8
  have g : ∀ q, q ≠ k → gcp0 σ k j q = σ q := fun q hq => by unfold gcp0; exact ups_other hq
  unfold gcopy
  refine ⟨?_, fun n hn => ?_, fun q a b c => ?_⟩
  · rw [h1 k (by omega) (by omega)]; unfold gcp0; rw [ups_s]
  · have := h2 n hn
    rw [g (j + 1) (by omega), g (j + 2) (by omega)] at this
    exact this
  · rw [h1 q b c, g q a]
/-- a train and its sights, copied: the core goes along -/
theorem core_copy {σ σ' : St} {k s k' s' : Nat} {len min gua fin tun sc : Int32} {fr to se pu bi sg : Nat → Int32} (h : Core σ k s len min gua fin tun sc fr to se pu bi sg)
    (e0 : σ' k' 0 = σ k 0) (e1 : σ' k' 1 = σ k 1) (e2 : σ' k' 2 = σ k 2) (e3 : σ' k' 3 = σ k 3) (e5 : σ' k' 5 = σ k 5) (es : σ' s' 2 = σ s 2)
    (ea : ∀ n, n < 6 → σ' (k' + 1) n = σ (k + 1) n ∧ σ' (k' + 2) n = σ (k + 2) n ∧ σ' (k' + 3) n = σ (k + 3) n ∧ σ' (k' + 4) n = σ (k + 4) n ∧ σ' (k' + 5) n = σ (k + 5) n)
    (eg : ∀ n, n < 8 → σ' (s' + 1) n = σ (s + 1) n ∧ σ' (s' + 2) n = σ (s + 2) n) : Core σ' k' s' len min gua fin tun sc fr to se pu bi sg := by
  obtain ⟨c, ca, cs, rL, rF, rS, r4, r5, r6⟩ := h
  refine ⟨?_, fun n hn => ?_, fun n hn => ?_, ?_, ?_, ?_, fun n hn => ?_, fun n hn => ?_, fun n hn => ?_⟩
  · rw [e0, e1, e2, e3, e5, es]; exact c
  · obtain ⟨a1, a2, a3, a4, a5⟩ := ea n hn
    rw [a1, a2, a3, a4, a5]; exact ca n hn
  · rw [(eg n hn).1, (eg n hn).2]; exact cs n hn
  · rw [e0, e1]; exact rL
  · rw [e3]; exact rF
  · rw [es]; exact rS
  · rw [(ea n hn).1, (ea n hn).2.1]; exact r4 n hn
  · rw [(ea n hn).2.2.1]; exact r5 n hn
  · rw [(eg n hn).2]; exact r6 n hn
/-- the same core under equal names -/
theorem core_names {σ : St} {k s : Nat} {len min gua fin tun sc len' min' gua' fin' tun' sc' : Int32} {fr to se pu bi sg fr' to' se' pu' bi' sg' : Nat → Int32} (h : Core σ k s len min gua fin tun sc fr to se pu bi sg)
    (e : len' = len ∧ min' = min ∧ gua' = gua ∧ fin' = fin ∧ tun' = tun ∧ sc' = sc) (ea : ∀ n, n < 6 → fr' n = fr n ∧ to' n = to n ∧ se' n = se n ∧ pu' n = pu n ∧ bi' n = bi n) (eg : ∀ n, n < 16 → sg' n = sg n) : Core σ k s len' min' gua' fin' tun' sc' fr' to' se' pu' bi' sg' := by
  obtain ⟨c, ca, cs, r⟩ := h
  obtain ⟨e1, e2, e3, e4, e5, e6⟩ := e
  refine ⟨?_, fun n hn => ?_, fun n hn => ?_, r⟩
  · rw [e1, e2, e3, e4, e5, e6]; exact c
  · obtain ⟨a1, a2, a3, a4, a5⟩ := ea n hn
    rw [a1, a2, a3, a4, a5]; exact ca n hn
  · rw [eg (2 * n) (by omega), eg (2 * n + 1) (by omega)]; exact cs n hn
/-! the reference's copies -/
theorem ixP {i : Nat} (hi : i < 2) {c : Nat} (hc : c < 70) : ix (70 * nI i + nI c) = 70 * i + c := by
  rw [show (70 : Int32) * nI i = nI (70 * i) from pk_mul 70 i, nI_add]; exact ix_nI (by omega)
theorem ixP2 {i : Nat} (hi : i < 2) {b c : Nat} (hc : b + c < 70) : ix (70 * nI i + nI b + nI c) = 70 * i + b + c := by
  rw [Int32.add_assoc, nI_add, ixP hi hc]; omega
theorem im6_v {i : Nat} (hi : i < 2) (μ : St) : ∀ N, N ≤ 6 → (∀ q, q ≠ 55 → itr (im6 (nI i)) N μ q = μ q) ∧ (∀ x, (x < 70 * i ∨ 70 * i + 30 ≤ x) → itr (im6 (nI i)) N μ 55 x = μ 55 x) ∧ ∀ n, n < N → itr (im6 (nI i)) N μ 55 (70 * i + n) = μ 43 n ∧ itr (im6 (nI i)) N μ 55 (70 * i + 6 + n) = μ 44 n ∧ itr (im6 (nI i)) N μ 55 (70 * i + 12 + n) = μ 45 n ∧ itr (im6 (nI i)) N μ 55 (70 * i + 18 + n) = μ 46 n ∧ itr (im6 (nI i)) N μ 55 (70 * i + 24 + n) = μ 47 n
  | 0, _ => ⟨fun _ _ => rfl, fun _ _ => rfl, fun n h => absurd h (Nat.not_lt_zero n)⟩
  | N + 1, hN => by
    obtain ⟨ih1, ih2, ih3⟩ := im6_v hi μ N (by omega)
    have e : itr (im6 (nI i)) (N + 1) μ = im6 (nI i) N (itr (im6 (nI i)) N μ) := rfl
    rw [e]
    generalize itr (im6 (nI i)) N μ = ρ at ih1 ih2 ih3 ⊢
    have e0 := ixP hi (c := N) (by omega)
    have e6 : ix (70 * nI i + 6 + nI N) = 70 * i + 6 + N := ixP2 hi (b := 6) (by omega)
    have e12 : ix (70 * nI i + 12 + nI N) = 70 * i + 12 + N := ixP2 hi (b := 12) (by omega)
    have e18 : ix (70 * nI i + 18 + nI N) = 70 * i + 18 + N := ixP2 hi (b := 18) (by omega)
    have e24 : ix (70 * nI i + 24 + nI N) = 70 * i + 24 + N := ixP2 hi (b := 24) (by omega)
    unfold im6 imP
    rw [e0, e6, e12, e18, e24]
    simp only [ups_other (show (44 : Nat) ≠ 55 by decide), ups_other (show (45 : Nat) ≠ 55 by decide), ups_other (show (46 : Nat) ≠ 55 by decide), ups_other (show (47 : Nat) ≠ 55 by decide)]
    rw [ih1 43 (by decide), ih1 44 (by decide), ih1 45 (by decide), ih1 46 (by decide), ih1 47 (by decide)]
    refine ⟨fun q hq => ?_, fun x hx => ?_, fun n hn => ?_⟩
    · rw [ups_other hq, ups_other hq, ups_other hq, ups_other hq, ups_other hq]; exact ih1 q hq
    · rw [ups_j (by omega), ups_j (by omega), ups_j (by omega), ups_j (by omega), ups_j (by omega)]; exact ih2 x hx
    · by_cases en : n = N
      · subst en
        refine ⟨?_, ?_, ?_, ?_, ?_⟩
        · rw [ups_j (by omega), ups_j (by omega), ups_j (by omega), ups_j (by omega), ups_s]
        · rw [ups_j (by omega), ups_j (by omega), ups_j (by omega), ups_s]
        · rw [ups_j (by omega), ups_j (by omega), ups_s]
        · rw [ups_j (by omega), ups_s]
        · rw [ups_s]
      · obtain ⟨a1, a2, a3, a4, a5⟩ := ih3 n (by omega)
        refine ⟨?_, ?_, ?_, ?_, ?_⟩
        · rw [ups_j (by omega), ups_j (by omega), ups_j (by omega), ups_j (by omega), ups_j (by omega)]; exact a1
        · rw [ups_j (by omega), ups_j (by omega), ups_j (by omega), ups_j (by omega), ups_j (by omega)]; exact a2
        · rw [ups_j (by omega), ups_j (by omega), ups_j (by omega), ups_j (by omega), ups_j (by omega)]; exact a3
        · rw [ups_j (by omega), ups_j (by omega), ups_j (by omega), ups_j (by omega), ups_j (by omega)]; exact a4
        · rw [ups_j (by omega), ups_j (by omega), ups_j (by omega), ups_j (by omega), ups_j (by omega)]; exact a5
theorem im16_v {i : Nat} (hi : i < 2) (μ : St) : ∀ N, N ≤ 16 → (∀ q, q ≠ 55 → itr (im16 (nI i)) N μ q = μ q) ∧ (∀ x, (x < 70 * i + 30 ∨ 70 * i + 46 ≤ x) → itr (im16 (nI i)) N μ 55 x = μ 55 x) ∧ ∀ n, n < N → itr (im16 (nI i)) N μ 55 (70 * i + 30 + n) = μ 48 n
  | 0, _ => ⟨fun _ _ => rfl, fun _ _ => rfl, fun n h => absurd h (Nat.not_lt_zero n)⟩
  | N + 1, hN => by
    obtain ⟨ih1, ih2, ih3⟩ := im16_v hi μ N (by omega)
    have e : itr (im16 (nI i)) (N + 1) μ = im16 (nI i) N (itr (im16 (nI i)) N μ) := rfl
    rw [e]
    generalize itr (im16 (nI i)) N μ = ρ at ih1 ih2 ih3 ⊢
    have e30 : ix (70 * nI i + 30 + nI N) = 70 * i + 30 + N := ixP2 hi (b := 30) (by omega)
    unfold im16 imP
    rw [e30, ih1 48 (by decide)]
    refine ⟨fun q hq => ?_, fun x hx => ?_, fun n hn => ?_⟩
    · rw [ups_other hq]; exact ih1 q hq
    · rw [ups_j (by omega)]; exact ih2 x hx
    · by_cases en : n = N
      · subst en; rw [ups_s]
      · rw [ups_j (by omega)]; exact ih3 n (by omega)
theorem imA_v {i : Nat} (hi : i < 2) (μ : St) : (∀ q, q ≠ 55 → imA μ (nI i) q = μ q) ∧ (∀ x, (x < 70 * i ∨ 70 * i + 56 ≤ x) → imA μ (nI i) 55 x = μ 55 x) ∧
    (∀ n, n < 6 → imA μ (nI i) 55 (70 * i + n) = μ 43 n ∧ imA μ (nI i) 55 (70 * i + 6 + n) = μ 44 n ∧ imA μ (nI i) 55 (70 * i + 12 + n) = μ 45 n ∧ imA μ (nI i) 55 (70 * i + 18 + n) = μ 46 n ∧ imA μ (nI i) 55 (70 * i + 24 + n) = μ 47 n) ∧ (∀ n, n < 16 → imA μ (nI i) 55 (70 * i + 30 + n) = μ 48 n) ∧
    imA μ (nI i) 55 (70 * i + 50) = μ 42 0 ∧ imA μ (nI i) 55 (70 * i + 51) = μ 42 1 ∧ imA μ (nI i) 55 (70 * i + 52) = μ 42 7 ∧ imA μ (nI i) 55 (70 * i + 53) = μ 42 8 ∧ imA μ (nI i) 55 (70 * i + 54) = μ 42 9 ∧ imA μ (nI i) 55 (70 * i + 55) = μ 42 10 := by
  obtain ⟨a1, a2, a3⟩ := im6_v hi μ 6 (by decide)
  obtain ⟨b1, b2, b3⟩ := im16_v hi (itr (im6 (nI i)) 6 μ) 16 (by decide)
  unfold imA imP
  generalize itr (im16 (nI i)) 16 (itr (im6 (nI i)) 6 μ) = ρ at b1 b2 b3 ⊢
  have e50 : ix (70 * nI i + 50) = 70 * i + 50 := ixP hi (c := 50) (by decide)
  have e51 : ix (70 * nI i + 51) = 70 * i + 51 := ixP hi (c := 51) (by decide)
  have e52 : ix (70 * nI i + 52) = 70 * i + 52 := ixP hi (c := 52) (by decide)
  have e53 : ix (70 * nI i + 53) = 70 * i + 53 := ixP hi (c := 53) (by decide)
  have e54 : ix (70 * nI i + 54) = 70 * i + 54 := ixP hi (c := 54) (by decide)
  have e55 : ix (70 * nI i + 55) = 70 * i + 55 := ixP hi (c := 55) (by decide)
  rw [e50, e51, e52, e53, e54, e55]
  simp only [ups_other (show (42 : Nat) ≠ 55 by decide)]
  have q42 : ρ 42 = μ 42 := by rw [b1 42 (by decide), a1 42 (by decide)]
  rw [q42]
  have low : ∀ x, x < 70 * i + 50 → ∀ v0 v1 v2 v3 v4 v5 : Int32, ups (ups (ups (ups (ups (ups ρ 55 (70 * i + 50) v0) 55 (70 * i + 51) v1) 55 (70 * i + 52) v2) 55 (70 * i + 53) v3) 55 (70 * i + 54) v4) 55 (70 * i + 55) v5 55 x = ρ 55 x := by
    intro x hx v0 v1 v2 v3 v4 v5
    rw [ups_j (by omega), ups_j (by omega), ups_j (by omega), ups_j (by omega), ups_j (by omega), ups_j (by omega)]
  refine ⟨fun q hq => ?_, fun x hx => ?_, fun n hn => ?_, fun n hn => ?_, ?_, ?_, ?_, ?_, ?_, ?_⟩
  · rw [ups_other hq, ups_other hq, ups_other hq, ups_other hq, ups_other hq, ups_other hq, b1 q hq, a1 q hq]
  · rw [ups_j (by omega), ups_j (by omega), ups_j (by omega), ups_j (by omega), ups_j (by omega), ups_j (by omega), b2 x (by omega), a2 x (by omega)]
  · obtain ⟨c1, c2, c3, c4, c5⟩ := a3 n hn
    rw [low _ (by omega), low _ (by omega), low _ (by omega), low _ (by omega), low _ (by omega), b2 _ (by omega), b2 _ (by omega), b2 _ (by omega), b2 _ (by omega), b2 _ (by omega)]
    exact ⟨c1, c2, c3, c4, c5⟩
  · rw [low _ (by omega), b3 n hn, a1 48 (by decide)]
  · rw [ups_j (by omega), ups_j (by omega), ups_j (by omega), ups_j (by omega), ups_j (by omega), ups_s]
  · rw [ups_j (by omega), ups_j (by omega), ups_j (by omega), ups_j (by omega), ups_s]
  · rw [ups_j (by omega), ups_j (by omega), ups_j (by omega), ups_s]
  · rw [ups_j (by omega), ups_j (by omega), ups_s]
  · rw [ups_j (by omega), ups_s]
  · rw [ups_s]
