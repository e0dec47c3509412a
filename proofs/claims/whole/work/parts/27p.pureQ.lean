/-! image and restore -/
theorem Imgr_of2 {σ σ' μ μ' : St} {k t s i : Nat} (h : Imgr σ μ k t s i) (h1 : σ' k = σ k) (h2 : ∀ d, d ≤ 5 → σ' (t + d) = σ (t + d)) (h3 : ∀ d, d ≤ 2 → σ' (s + d) = σ (s + d)) (h4 : ∀ c, c < 56 → μ' 55 (70 * i + c) = μ 55 (70 * i + c)) (h5 : μ' 56 i = μ 56 i) : Imgr σ' μ' k t s i := by
  rcases h with ⟨a, b⟩ | ⟨a, b, c⟩
  · exact Or.inl ⟨by rw [h1]; exact a, by rw [h5]; exact b⟩
  · refine Or.inr ⟨by rw [h1]; exact a, by rw [h5]; exact b, ?_⟩
    have t0 := h2 0 (by decide); have s0 := h3 0 (by decide)
    simp only [Nat.add_zero] at t0 s0
    refine core_names (core_copy c (by rw [t0]) (by rw [t0]) (by rw [t0]) (by rw [t0]) (by rw [t0]) (by rw [s0]) (fun n hn => by rw [h2 1 (by decide), h2 2 (by decide), h2 3 (by decide), h2 4 (by decide), h2 5 (by decide)]; exact ⟨rfl, rfl, rfl, rfl, rfl⟩) (fun n hn => by rw [h3 1 (by decide), h3 2 (by decide)]; exact ⟨rfl, rfl⟩)) ⟨h4 50 (by decide), h4 53 (by decide), h4 54 (by decide), h4 52 (by decide), h4 51 (by decide), h4 55 (by decide)⟩ (fun n hn => ⟨h4 n (by omega), ?_, ?_, ?_, ?_⟩) (fun n hn => ?_)
    · have := h4 (6 + n) (by omega); rwa [← Nat.add_assoc] at this
    · have := h4 (12 + n) (by omega); rwa [← Nat.add_assoc] at this
    · have := h4 (18 + n) (by omega); rwa [← Nat.add_assoc] at this
    · have := h4 (24 + n) (by omega); rwa [← Nat.add_assoc] at this
    · have := h4 (30 + n) (by omega); rwa [← Nat.add_assoc] at this
theorem im_other (σ : St) {k t s : Nat} {q : Nat} (h0 : q ≠ k) (h1 : q < t ∨ t + 5 < q) (h2 : q < s ∨ s + 2 < q) (hs : s + 2 < 16 ∨ 18 < s) : iKeep σ k t s q = σ q := by
  unfold iKeep
  rw [ups_other h0, (gcopy_v _ (k := s) (j := 16) (by omega)).2.2 q (by omega) (by omega) (by omega), tcopy_ne σ t 1 (by omega) (by omega) (by omega) (by omega) (by omega) (by omega)]
theorem im_new {σ μ : St} (h : Main σ μ) {i k t s : Nat} (hi : i < 2) (hk : k + 1 = t) (ht : t + 6 = s) (h22 : 22 ≤ k) : Imgr (iKeep σ k t s) (ups (imA μ (nI i)) 56 i 1) k t s i := by
  obtain ⟨v1, v2, v3, v4, v50, v51, v52, v53, v54, v55⟩ := imA_v hi μ
  obtain ⟨⟨w0, w1, w2, w3, w4, w5⟩, wa⟩ := tcopy_v σ (k := t) (j := 1) (by omega)
  obtain ⟨g1, g2, g3⟩ := gcopy_v (tcopy σ t 1) (k := s) (j := 16) (by omega)
  have xt : ∀ d, d ≤ 5 → iKeep σ k t s (t + d) = tcopy σ t 1 (t + d) := fun d hd => by
    unfold iKeep; rw [ups_other (by omega)]; exact g3 _ (by omega) (by omega) (by omega)
  have xs : ∀ d, d ≤ 2 → iKeep σ k t s (s + d) = gcopy (tcopy σ t 1) s 16 (s + d) := fun d hd => by
    unfold iKeep; rw [ups_other (by omega)]
  have x0 := xt 0 (by decide); have y0 := xs 0 (by decide)
  simp only [Nat.add_zero] at x0 y0
  have to : ∀ q, 16 ≤ q → q ≤ 18 → tcopy σ t 1 q = σ q := fun q h1 h2 => tcopy_ne σ t 1 (by omega) (by omega) (by omega) (by omega) (by omega) (by omega)
  have m55 : ups (imA μ (nI i)) 56 i 1 55 = imA μ (nI i) 55 := ups_other (by decide)
  refine Or.inr ⟨by unfold iKeep; rw [ups_s], by rw [ups_s], ?_⟩
  rw [m55]
  refine core_names (core_copy h (by rw [x0, w0]) (by rw [x0, w1]) (by rw [x0, w2]) (by rw [x0, w3]) (by rw [x0, w5]) (by rw [y0, g1, to 16 (by decide) (by decide)]) (fun n hn => ?_) (fun n hn => ?_)) ⟨v50, v53, v54, v52, v51, v55⟩ v3 v4
  · rw [xt 1 (by decide), xt 2 (by decide), xt 3 (by decide), xt 4 (by decide), xt 5 (by decide)]; exact wa n hn
  · rw [xs 1 (by decide), xs 2 (by decide), (g2 n hn).1, (g2 n hn).2, to (16 + 1) (by decide) (by decide), to (16 + 2) (by decide) (by decide)]; exact ⟨rfl, rfl⟩
theorem im_main {σ σ' μ μ' : St} (h : Main σ μ) (hs : ∀ q, q < 19 → σ' q = σ q) (hm : ∀ q, 42 ≤ q → q < 49 → μ' q = μ q) : Main σ' μ' := by
  unfold Main Core at h ⊢
  rw [hs 1 (by decide), hs (1 + 1) (by decide), hs (1 + 2) (by decide), hs (1 + 3) (by decide), hs (1 + 4) (by decide), hs (1 + 5) (by decide), hs 16 (by decide), hs (16 + 1) (by decide), hs (16 + 2) (by decide), hm 42 (by decide) (by decide), hm 43 (by decide) (by decide), hm 44 (by decide) (by decide), hm 45 (by decide) (by decide), hm 46 (by decide) (by decide), hm 47 (by decide) (by decide), hm 48 (by decide) (by decide)]
  exact h
theorem im_y {μ : St} {i : Nat} (hi : i < 2) : (∀ q, q ≠ 55 → q ≠ 56 → ups (imA μ (nI i)) 56 i 1 q = μ q) ∧ (∀ j, j < 2 → j ≠ i → (∀ c, c < 56 → ups (imA μ (nI i)) 56 i 1 55 (70 * j + c) = μ 55 (70 * j + c)) ∧ ups (imA μ (nI i)) 56 i 1 56 j = μ 56 j) := by
  obtain ⟨v1, v2, -⟩ := imA_v hi μ
  refine ⟨fun q h1 h2 => by rw [ups_other h2, v1 q h1], fun j hj hne => ⟨fun c hc => ?_, ?_⟩⟩
  · rw [ups_other (by decide)]; exact v2 _ (by omega)
  · rw [ups_j hne, v1 56 (by decide)]
theorem E_img {σ μ : St} (h : Inv2 σ μ) (n : Int32) : (X_img σ n).1 = (Y_img μ n).1 ∧ Inv2 (X_img σ n).2 (Y_img μ n).2 := by
  unfold X_img Y_img
  by_cases hw : wth n 0 1 = true
  · rw [if_pos hw, if_pos hw]
    obtain ⟨i, hi, rfl⟩ := (wth_0 (b := 1) (B := 1) rfl (by decide)).mp hw
    rw [ix_nI (by omega)]
    obtain ⟨y1, y2⟩ := im_y (μ := μ) (i := i) (by omega)
    refine ⟨rfl, ?_⟩
    dsimp only
    rcases (show i = 0 ∨ i = 1 by omega) with rfl | rfl
    · rw [if_pos (show nI 0 = 0 by decide)]
      have xo : ∀ q, q < 22 ∨ 31 < q → iKeep σ 22 23 29 q = σ q := fun q hq => im_other σ (by omega) (by omega) (by omega) (by omega)
      refine ⟨im_main h.1 (fun q hq => xo q (by omega)) (fun q h1 h2 => y1 q (by omega) (by omega)), Padr_of h.2.1 (xo 13 (by decide)) (xo 14 (by decide)) (by rw [y1 42 (by decide) (by decide)]) (y1 49 (by decide) (by decide)), im_new h.1 (i := 0) (by decide) rfl rfl (by decide), ?_⟩
      exact Imgr_of2 h.2.2.2 (xo 32 (by decide)) (fun d hd => xo _ (by omega)) (fun d hd => xo _ (by omega)) (y2 1 (by decide) (by decide)).1 (y2 1 (by decide) (by decide)).2
    · rw [if_neg (show ¬ nI 1 = 0 by decide)]
      have xo : ∀ q, q < 32 ∨ 41 < q → iKeep σ 32 33 39 q = σ q := fun q hq => im_other σ (by omega) (by omega) (by omega) (by omega)
      refine ⟨im_main h.1 (fun q hq => xo q (by omega)) (fun q h1 h2 => y1 q (by omega) (by omega)), Padr_of h.2.1 (xo 13 (by decide)) (xo 14 (by decide)) (by rw [y1 42 (by decide) (by decide)]) (y1 49 (by decide) (by decide)), ?_, im_new h.1 (i := 1) (by decide) rfl rfl (by decide)⟩
      exact Imgr_of2 h.2.2.1 (xo 22 (by decide)) (fun d hd => xo _ (by omega)) (fun d hd => xo _ (by omega)) (y2 0 (by decide) (by decide)).1 (y2 0 (by decide) (by decide)).2
  · rw [if_neg hw, if_neg hw]; exact ⟨rfl, h⟩
theorem FX_img (σ : St) (n : Int32) : ∀ q, 42 ≤ q → (X_img σ n).2 q = σ q := by
  intro q hq; unfold X_img; split
  · dsimp only; split
    · exact im_other σ (by omega) (by omega) (by omega) (by omega)
    · exact im_other σ (by omega) (by omega) (by omega) (by omega)
  · rfl
theorem FY_img (μ : St) (n : Int32) : ∀ q, q < 42 → (Y_img μ n).2 q = μ q := by
  intro q hq; unfold Y_img
  by_cases hw : wth n 0 1 = true
  · rw [if_pos hw]
    obtain ⟨i, hi, rfl⟩ := (wth_0 (b := 1) (B := 1) rfl (by decide)).mp hw
    dsimp only
    rw [ups_other (by omega)]; exact (imA_v (by omega) μ).1 q (by omega)
  · rw [if_neg hw]
theorem ir6_v {i : Nat} (hi : i < 2) (μ : St) : ∀ N, N ≤ 6 → (∀ q, ¬ (43 ≤ q ∧ q ≤ 47) → itr (ir6 (nI i)) N μ q = μ q) ∧ ∀ n, n < N → itr (ir6 (nI i)) N μ 43 n = μ 55 (70 * i + n) ∧ itr (ir6 (nI i)) N μ 44 n = μ 55 (70 * i + 6 + n) ∧ itr (ir6 (nI i)) N μ 45 n = μ 55 (70 * i + 12 + n) ∧ itr (ir6 (nI i)) N μ 46 n = μ 55 (70 * i + 18 + n) ∧ itr (ir6 (nI i)) N μ 47 n = μ 55 (70 * i + 24 + n)
  | 0, _ => ⟨fun _ _ => rfl, fun n h => absurd h (Nat.not_lt_zero n)⟩
  | N + 1, hN => by
    obtain ⟨ih1, ih3⟩ := ir6_v hi μ N (by omega)
    have e : itr (ir6 (nI i)) (N + 1) μ = ir6 (nI i) N (itr (ir6 (nI i)) N μ) := rfl
    rw [e]
    generalize itr (ir6 (nI i)) N μ = ρ at ih1 ih3 ⊢
    have e0 := ixP hi (c := N) (by omega)
    have e6 : ix (70 * nI i + 6 + nI N) = 70 * i + 6 + N := ixP2 hi (b := 6) (by omega)
    have e12 : ix (70 * nI i + 12 + nI N) = 70 * i + 12 + N := ixP2 hi (b := 12) (by omega)
    have e18 : ix (70 * nI i + 18 + nI N) = 70 * i + 18 + N := ixP2 hi (b := 18) (by omega)
    have e24 : ix (70 * nI i + 24 + nI N) = 70 * i + 24 + N := ixP2 hi (b := 24) (by omega)
    unfold ir6 irP
    rw [e0, e6, e12, e18, e24]
    simp only [ups_other (show (55 : Nat) ≠ 43 by decide), ups_other (show (55 : Nat) ≠ 44 by decide), ups_other (show (55 : Nat) ≠ 45 by decide), ups_other (show (55 : Nat) ≠ 46 by decide)]
    rw [ih1 55 (by decide)]
    refine ⟨fun q hq => ?_, fun n hn => ?_⟩
    · rw [ups_other (by omega), ups_other (by omega), ups_other (by omega), ups_other (by omega), ups_other (by omega)]; exact ih1 q hq
    · by_cases en : n = N
      · subst en; simp [ups]
      · have := ih3 n (by omega)
        simpa [ups, en] using this
theorem ir16_v {i : Nat} (hi : i < 2) (μ : St) : ∀ N, N ≤ 16 → (∀ q, q ≠ 48 → itr (ir16 (nI i)) N μ q = μ q) ∧ ∀ n, n < N → itr (ir16 (nI i)) N μ 48 n = μ 55 (70 * i + 30 + n)
  | 0, _ => ⟨fun _ _ => rfl, fun n h => absurd h (Nat.not_lt_zero n)⟩
  | N + 1, hN => by
    obtain ⟨ih1, ih3⟩ := ir16_v hi μ N (by omega)
    have e : itr (ir16 (nI i)) (N + 1) μ = ir16 (nI i) N (itr (ir16 (nI i)) N μ) := rfl
    rw [e]
    generalize itr (ir16 (nI i)) N μ = ρ at ih1 ih3 ⊢
    have e30 : ix (70 * nI i + 30 + nI N) = 70 * i + 30 + N := ixP2 hi (b := 30) (by omega)
    unfold ir16 irP
    rw [e30, ih1 55 (by decide)]
    refine ⟨fun q hq => ?_, fun n hn => ?_⟩
    · rw [ups_other hq]; exact ih1 q hq
    · by_cases en : n = N
      · subst en; rw [ups_s]
      · rw [ups_j en]; exact ih3 n (by omega)
theorem irA_v {i : Nat} (hi : i < 2) (μ : St) : (∀ q, ¬ (42 ≤ q ∧ q ≤ 48) → irA μ (nI i) q = μ q) ∧ irA μ (nI i) 42 12 = μ 42 12 ∧
    (∀ n, n < 6 → irA μ (nI i) 43 n = μ 55 (70 * i + n) ∧ irA μ (nI i) 44 n = μ 55 (70 * i + 6 + n) ∧ irA μ (nI i) 45 n = μ 55 (70 * i + 12 + n) ∧ irA μ (nI i) 46 n = μ 55 (70 * i + 18 + n) ∧ irA μ (nI i) 47 n = μ 55 (70 * i + 24 + n)) ∧ (∀ n, n < 16 → irA μ (nI i) 48 n = μ 55 (70 * i + 30 + n)) ∧
    irA μ (nI i) 42 0 = μ 55 (70 * i + 50) ∧ irA μ (nI i) 42 1 = μ 55 (70 * i + 51) ∧ irA μ (nI i) 42 7 = μ 55 (70 * i + 52) ∧ irA μ (nI i) 42 8 = μ 55 (70 * i + 53) ∧ irA μ (nI i) 42 9 = μ 55 (70 * i + 54) ∧ irA μ (nI i) 42 10 = μ 55 (70 * i + 55) := by
  obtain ⟨a1, a3⟩ := ir6_v hi μ 6 (by decide)
  obtain ⟨b1, b3⟩ := ir16_v hi (itr (ir6 (nI i)) 6 μ) 16 (by decide)
  unfold irA irP
  generalize itr (ir16 (nI i)) 16 (itr (ir6 (nI i)) 6 μ) = ρ at b1 b3 ⊢
  have e50 : ix (70 * nI i + 50) = 70 * i + 50 := ixP hi (c := 50) (by decide)
  have e51 : ix (70 * nI i + 51) = 70 * i + 51 := ixP hi (c := 51) (by decide)
  have e52 : ix (70 * nI i + 52) = 70 * i + 52 := ixP hi (c := 52) (by decide)
  have e53 : ix (70 * nI i + 53) = 70 * i + 53 := ixP hi (c := 53) (by decide)
  have e54 : ix (70 * nI i + 54) = 70 * i + 54 := ixP hi (c := 54) (by decide)
  have e55 : ix (70 * nI i + 55) = 70 * i + 55 := ixP hi (c := 55) (by decide)
  rw [e50, e51, e52, e53, e54, e55]
  simp only [ups_other (show (55 : Nat) ≠ 42 by decide)]
  have q55 : ρ 55 = μ 55 := by rw [b1 55 (by decide), a1 55 (by decide)]
  have q42 : ρ 42 = μ 42 := by rw [b1 42 (by decide), a1 42 (by decide)]
  rw [q55]
  refine ⟨fun q hq => ?_, ?_, fun n hn => ?_, fun n hn => ?_, ?_, ?_, ?_, ?_, ?_, ?_⟩
  · rw [ups_other (by omega), ups_other (by omega), ups_other (by omega), ups_other (by omega), ups_other (by omega), ups_other (by omega), b1 q (by omega), a1 q (by omega)]
  · rw [ups_j (by decide), ups_j (by decide), ups_j (by decide), ups_j (by decide), ups_j (by decide), ups_j (by decide), q42]
  · have := a3 n hn
    rw [← b1 43 (by decide), ← b1 44 (by decide), ← b1 45 (by decide), ← b1 46 (by decide), ← b1 47 (by decide)] at this
    simpa [ups] using this
  · have := b3 n hn
    rw [a1 55 (by decide)] at this
    simpa [ups] using this
  · simp [ups]
  · simp [ups]
  · simp [ups]
  · simp [ups]
  · simp [ups]
  · simp [ups]
theorem ba_other (σ : St) {t s : Nat} {q : Nat} (ht : 23 ≤ t) (hs : 23 ≤ s) (h1 : q < 1 ∨ 6 < q) (h2 : q < 16 ∨ 18 < q) : iBack σ 0 t s q = σ q := by
  unfold iBack
  rw [(gcopy_v _ (k := 16) (j := s) (by omega)).2.2 q (by omega) (by omega) (by omega), tcopy_ne σ 1 t (by omega) (by omega) (by omega) (by omega) (by omega) (by omega)]
theorem ba_main {σ μ : St} {i k t s : Nat} (hi : i < 2) (ht : 23 ≤ t) (hs : 23 ≤ s) (h : Imgr σ μ k t s i) (hk : σ k 0 = 1) : Main (iBack σ 0 t s) (irA μ (nI i)) := by
  have hc : Core σ t s (μ 55 (70 * i + 50)) (μ 55 (70 * i + 53)) (μ 55 (70 * i + 54)) (μ 55 (70 * i + 52)) (μ 55 (70 * i + 51)) (μ 55 (70 * i + 55)) (fun n => μ 55 (70 * i + n)) (fun n => μ 55 (70 * i + 6 + n)) (fun n => μ 55 (70 * i + 12 + n)) (fun n => μ 55 (70 * i + 18 + n)) (fun n => μ 55 (70 * i + 24 + n)) (fun n => μ 55 (70 * i + 30 + n)) := by
    rcases h with ⟨a, b⟩ | ⟨a, b, c⟩
    · rw [a] at hk; exact absurd hk (by decide)
    · exact c
  obtain ⟨v1, v12, v3, v4, v50, v51, v52, v53, v54, v55⟩ := irA_v hi μ
  obtain ⟨⟨w0, w1, w2, w3, w4, w5⟩, wa⟩ := tcopy_v σ (k := 1) (j := t) (by omega)
  obtain ⟨g1, g2, g3⟩ := gcopy_v (tcopy σ 1 t) (k := 16) (j := s) (by omega)
  have xt : ∀ q, 1 ≤ q → q ≤ 6 → iBack σ 0 t s q = tcopy σ 1 t q := fun q h1 h2 => g3 q (by omega) (by omega) (by omega)
  have to : ∀ q, 7 ≤ q → tcopy σ 1 t q = σ q := fun q h1 => tcopy_ne σ 1 t (by omega) (by omega) (by omega) (by omega) (by omega) (by omega)
  refine core_names (core_copy hc (by rw [xt 1 (by decide) (by decide), w0]) (by rw [xt 1 (by decide) (by decide), w1]) (by rw [xt 1 (by decide) (by decide), w2]) (by rw [xt 1 (by decide) (by decide), w3]) (by rw [xt 1 (by decide) (by decide), w5]) ?_ (fun n hn => ?_) (fun n hn => ?_)) ⟨v50, v53, v54, v52, v51, v55⟩ v3 v4
  · show gcopy (tcopy σ 1 t) 16 s 16 2 = σ s 2
    rw [g1, to s (by omega)]
  · rw [xt (1 + 1) (by decide) (by decide), xt (1 + 2) (by decide) (by decide), xt (1 + 3) (by decide) (by decide), xt (1 + 4) (by decide) (by decide), xt (1 + 5) (by decide) (by decide)]; exact wa n hn
  · show gcopy (tcopy σ 1 t) 16 s (16 + 1) n = σ (s + 1) n ∧ gcopy (tcopy σ 1 t) 16 s (16 + 2) n = σ (s + 2) n
    rw [(g2 n hn).1, (g2 n hn).2, to (s + 1) (by omega), to (s + 2) (by omega)]; exact ⟨rfl, rfl⟩
theorem ba_inv {σ μ : St} (h : Inv2 σ μ) {i k t s : Nat} (hi : i < 2) (ht : 23 ≤ t) (hs : 23 ≤ s) (hm : Imgr σ μ k t s i) (hk : σ k 0 = 1) : Inv2 (iBack σ 0 t s) (irA μ (nI i)) := by
  obtain ⟨v1, v12, -⟩ := irA_v hi μ
  have xo : ∀ q, 6 < q → (q < 16 ∨ 18 < q) → iBack σ 0 t s q = σ q := fun q h1 h2 => ba_other σ ht hs (Or.inr h1) h2
  exact ⟨ba_main hi ht hs hm hk, Padr_of h.2.1 (xo 13 (by decide) (by decide)) (xo 14 (by decide) (by decide)) v12 (v1 49 (by decide)),
    Imgr_of h.2.2.1 (xo 22 (by decide) (by decide)) (fun d hd => xo _ (by omega) (by omega)) (fun d hd => xo _ (by omega) (by omega)) (v1 55 (by decide)) (v1 56 (by decide)),
    Imgr_of h.2.2.2 (xo 32 (by decide) (by decide)) (fun d hd => xo _ (by omega) (by omega)) (fun d hd => xo _ (by omega) (by omega)) (v1 55 (by decide)) (v1 56 (by decide))⟩
theorem im_bit {σ μ : St} {k t s i : Nat} (h : Imgr σ μ k t s i) : (σ k 0 = 0 ∧ μ 56 i = 0) ∨ (σ k 0 = 1 ∧ μ 56 i = 1) := by
  rcases h with a | ⟨a, b, _⟩
  · exact Or.inl a
  · exact Or.inr ⟨a, b⟩
theorem E_rest {σ μ : St} (h : Inv2 σ μ) (n : Int32) : (X_rest σ n).1 = (Y_rest μ n).1 ∧ Inv2 (X_rest σ n).2 (Y_rest μ n).2 := by
  unfold X_rest Y_rest
  by_cases hw : wth n 0 1 = true
  · rw [if_pos hw, if_pos hw]
    obtain ⟨i, hi, rfl⟩ := (wth_0 (b := 1) (B := 1) rfl (by decide)).mp hw
    rw [ix_nI (by omega)]
    rcases (show i = 0 ∨ i = 1 by omega) with rfl | rfl
    · rw [if_pos (show nI 0 = 0 by decide)]
      rcases im_bit h.2.2.1 with ⟨a, b⟩ | ⟨a, b⟩
      · rw [a, b, if_pos rfl, if_pos rfl, if_neg (by decide)]; exact ⟨rfl, h⟩
      · rw [a, b, if_neg (show ¬ (1 : Int32) = 0 by decide), if_neg (show ¬ (1 : Int32) = 0 by decide), if_pos (by decide)]
        exact ⟨rfl, ba_inv h (by decide) (by decide) (by decide) h.2.2.1 a⟩
    · rw [if_neg (show ¬ nI 1 = 0 by decide)]
      rcases im_bit h.2.2.2 with ⟨a, b⟩ | ⟨a, b⟩
      · rw [a, b, if_pos rfl, if_pos rfl, if_neg (by decide)]; exact ⟨rfl, h⟩
      · rw [a, b, if_neg (show ¬ (1 : Int32) = 0 by decide), if_neg (show ¬ (1 : Int32) = 0 by decide), if_pos (by decide)]
        exact ⟨rfl, ba_inv h (by decide) (by decide) (by decide) h.2.2.2 a⟩
  · rw [if_neg hw, if_neg hw]; exact ⟨rfl, h⟩
theorem FX_rest (σ : St) (n : Int32) : ∀ q, 42 ≤ q → (X_rest σ n).2 q = σ q := by
  intro q hq
  have b1 : iBack σ 22 23 29 q = σ q := ba_other σ (t := 23) (s := 29) (by decide) (by decide) (by omega) (by omega)
  have b2 : iBack σ 32 33 39 q = σ q := ba_other σ (t := 33) (s := 39) (by decide) (by decide) (by omega) (by omega)
  unfold X_rest; split
  · split
    · dsimp only; split
      · rfl
      · exact b1
    · dsimp only; split
      · rfl
      · exact b2
  · rfl
theorem FY_rest (μ : St) (n : Int32) : ∀ q, q < 42 → (Y_rest μ n).2 q = μ q := by
  intro q hq; unfold Y_rest
  by_cases hw : wth n 0 1 = true
  · rw [if_pos hw]
    obtain ⟨i, hi, rfl⟩ := (wth_0 (b := 1) (B := 1) rfl (by decide)).mp hw
    split
    · rfl
    · exact (irA_v (by omega) μ).1 q (by omega)
  · rw [if_neg hw]
theorem B_image {σ : St} (hI : Inv σ) {a0 : Int32} : ∃ (r : Int32) (σ1 σ2 : St), Ct MX7_image [.ref 0, .int a0] σ (some (.int r)) σ1 ∧ Ct MX8_image [.ref 42, .int a0] σ1 (some (.int r)) σ2 ∧ Inv σ2 := by
  obtain ⟨e1, e2⟩ := E_img (inv_mid hI (FX_img σ a0)) a0
  refine ⟨_, _, _, t_X7_image, ?_, inv_end e2 (FY_img _ a0)⟩
  rw [e1]; exact t_X8_image
theorem B_restore {σ : St} (hI : Inv σ) {a0 : Int32} : ∃ (r : Int32) (σ1 σ2 : St), Ct MX7_restore [.ref 0, .int a0] σ (some (.int r)) σ1 ∧ Ct MX8_restore [.ref 42, .int a0] σ1 (some (.int r)) σ2 ∧ Inv σ2 := by
  obtain ⟨e1, e2⟩ := E_rest (inv_mid hI (FX_rest σ a0)) a0
  refine ⟨_, _, _, t_X7_restore, ?_, inv_end e2 (FY_rest _ a0)⟩
  rw [e1]; exact t_X8_restore
