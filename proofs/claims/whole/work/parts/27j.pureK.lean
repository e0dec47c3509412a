/-! the pad's fault -/
theorem mW_rng (P : Nat → Int32) : ∀ n, mW P n = 0 ∨ mW P n = 1 ∨ mW P n = 2
  | 0 => Or.inl rfl
  | n + 1 => by
    rw [mW_succ]; unfold mNext
    split
    · exact Or.inr (Or.inl rfl)
    · split
      · exact Or.inr (Or.inr rfl)
      · exact Or.inl rfl
def pF (w s : Int32) : Int32 := if w = 0 then (if wth s 65 70 then 1 else if s = 46 then 0 else -6) else if wth s 48 57 then (if w = 1 then 2 else 0) else if decide (w = 1) && (decide (s = 99) || (decide (s = 115) || decide (s = 104))) then 0 else -6
theorem pF_eq {w s : Int32} (hw : w = 0 ∨ w = 1 ∨ w = 2) : pF w s = if mFits w s then mNext w s else -6 := by
  have h10 : ¬ (1 : Int32) = 0 := by decide
  have h20 : ¬ (2 : Int32) = 0 := by decide
  have h21 : ¬ (2 : Int32) = 1 := by decide
  have h01 : ¬ (0 : Int32) = 1 := by decide
  unfold pF mFits mNext
  rcases hw with rfl | rfl | rfl
  · simp only [if_true, decide_true, Bool.true_and, h01, decide_false, Bool.false_and, Bool.false_eq_true, if_false]
    cases wth s 65 70 <;> by_cases h46 : s = 46 <;> simp [h46]
  · simp only [h10, if_false, if_true, decide_true, Bool.true_and, decide_false, Bool.false_and, Bool.false_eq_true]
    cases wth s 48 57 <;> simp
  · simp only [h20, h21, if_false, decide_false, Bool.false_and, Bool.false_eq_true]
theorem pad_sign {σ μ : St} {N : Nat} (h6 : N ≤ 60) (p1 : σ 13 1 = nI N) (p3 : ∀ n, n < 60 → σ 14 n = μ 49 n) {n : Nat} (hn : n < N) : pSign σ (nI n) = μ 49 n := by
  unfold pSign
  rw [p1, decide_eq_false (nI_pos (show n < 2 ^ 31 by omega)), decide_eq_true (nI_lt hn (by omega)), decide_eq_true (show nI n < 60 from nI_lt (b := 60) (by omega) (by decide)), if_pos (by rfl), ix_nI (by omega)]
  exact p3 n (by omega)
theorem pad_fol {σ μ : St} {N : Nat} (h6 : N ≤ 60) (p1 : σ 13 1 = nI N) (p3 : ∀ n, n < 60 → σ 14 n = μ 49 n) {n : Nat} (hn : n < N) (w : Int32) : pFol σ w (nI n) = pF w (μ 49 n) := by
  unfold pFol pF pDig
  rw [pad_sign h6 p1 p3 hn]
theorem pad_wh {σ μ : St} {N : Nat} (h6 : N ≤ 60) (p1 : σ 13 1 = nI N) (p3 : ∀ n, n < 60 → σ 14 n = μ 49 n) : ∀ n, n ≤ N → (∀ i, i < n → mBad (μ 49) i = false) → pWh σ n = mW (μ 49) n
  | 0, _, _ => rfl
  | n + 1, hn, hb => by
    have e : pWh σ (n + 1) = pFol σ (pWh σ n) (nI n) := rfl
    rw [e, pad_wh h6 p1 p3 n (by omega) (fun i hi => hb i (by omega)), pad_fol h6 p1 p3 (by omega), pF_eq (mW_rng _ n), mW_succ]
    have := hb n (by omega)
    unfold mBad at this
    rw [if_pos (by simpa using this)]
theorem mNext_m6 (w s : Int32) : ¬ mNext w s = -6 := by
  unfold mNext
  split
  · decide
  · split <;> decide
theorem pad_bad {σ μ : St} {N : Nat} (h6 : N ≤ 60) (p1 : σ 13 1 = nI N) (p3 : ∀ n, n < 60 → σ 14 n = μ 49 n) {n : Nat} (hn : n < N) (hb : ∀ i, i < n → mBad (μ 49) i = false) : decide (pWh σ (n + 1) = -6) = mBad (μ 49) n := by
  have e : pWh σ (n + 1) = pFol σ (pWh σ n) (nI n) := rfl
  rw [e, pad_wh h6 p1 p3 n (by omega) hb, pad_fol h6 p1 p3 hn, pF_eq (mW_rng _ n)]
  unfold mBad
  cases mFits (mW (μ 49) n) (μ 49 n)
  · rfl
  · rw [if_pos rfl, decide_eq_false (mNext_m6 _ _)]; rfl
theorem fault_eq {σ μ : St} (h : Inv2 σ μ) : pFault σ = mFault μ := by
  obtain ⟨N, h6, p1, p2, p3⟩ := h.2.1
  have c1 : clN (σ 13 1) = N := by rw [p1]; exact clN_nI (by omega)
  have c2 : clN (μ 42 12) = N := by rw [p2]; exact clN_nI (by omega)
  unfold pFault mFault pFst
  rw [c1, c2]
  by_cases hb : ∃ i, i < N ∧ mBad (μ 49) i = true
  · obtain ⟨j, hj, h1, h2⟩ := fb_first0 hb
    have a1 : fstB (mBad (μ 49)) N = j := fstB_at h1 h2 hj
    have a2 : fstB (fun n => decide (pWh σ (n + 1) = -6)) N = j := fstB_at (by rw [pad_bad h6 p1 p3 hj h2]; exact h1) (fun i hi => by rw [pad_bad h6 p1 p3 (by omega) (fun k hk => h2 k (by omega))]; exact h2 i hi) hj
    rw [a1, a2, if_pos hj, if_pos hj]
  · have hno : ∀ j, j < N → mBad (μ 49) j = false := fun j hj => by
      cases hp : mBad (μ 49) j with
      | false => rfl
      | true => exact absurd ⟨j, hj, hp⟩ hb
    have a1 : fstB (mBad (μ 49)) N = N := fstB_no hno
    have a2 : fstB (fun n => decide (pWh σ (n + 1) = -6)) N = N := fstB_no (fun i hi => by rw [pad_bad h6 p1 p3 hi (fun k hk => hno k (by omega))]; exact hno i hi)
    rw [a1, a2, if_neg (Nat.lt_irrefl N), if_neg (Nat.lt_irrefl N), pad_wh h6 p1 p3 N (Nat.le_refl N) hno, p1, p2]
theorem fault_neg {μ : St} {N : Nat} (hN : μ 42 12 = nI N) (h6 : N ≤ 60) : mFault μ = -6 ↔ mFault μ < 0 := by
  constructor
  · intro e; rw [e]; decide
  · intro h
    unfold mFault at h ⊢
    have c2 : clN (μ 42 12) = N := by rw [hN]; exact clN_nI (by omega)
    rw [c2] at h ⊢
    split at h
    · exact absurd h (nI_pos (by omega))
    · rename_i h1
      rw [if_neg h1]
      split at h
      · rename_i h2; rw [if_pos h2]
      · rw [hN] at h; exact absurd h (nI_pos (by omega))
/-! the pad's acts, one by one -/
theorem rf_congr {σ σ' μ μ' : St} (h : RF σ μ) (hs : ∀ q, 7 ≤ q → q ≤ 12 → σ' q = σ q) (h42 : ∀ i, i ≠ 21 → i ≠ 22 → μ' 42 i = μ 42 i) (m43 : μ' 43 = μ 43) (m44 : μ' 44 = μ 44) (m45 : μ' 45 = μ 45) (m50 : μ' 50 = μ 50) (m51 : μ' 51 = μ 51) : RF σ' μ' := by
  unfold RF RR at h ⊢
  rw [hs 7 (by decide) (by decide), hs (7 + 1) (by decide) (by decide), hs (7 + 2) (by decide) (by decide), hs (7 + 3) (by decide) (by decide), hs (7 + 4) (by decide) (by decide), hs (7 + 5) (by decide) (by decide), h42 0 (by decide) (by decide), h42 1 (by decide) (by decide), h42 7 (by decide) (by decide), h42 16 (by decide) (by decide), h42 17 (by decide) (by decide), h42 18 (by decide) (by decide), m43, m44, m45, m50, m51]
  exact h
theorem rf_42 {σ μ : St} (h : RF σ μ) {i : Nat} (hi : i = 21 ∨ i = 22) (x : Int32) : RF σ (ups μ 42 i x) :=
  rf_congr h (fun _ _ _ => rfl) (fun j h1 h2 => ups_j (by omega)) (ups_other (by decide)) (ups_other (by decide)) (ups_other (by decide)) (ups_other (by decide)) (ups_other (by decide))
theorem rf_15 {σ μ : St} (h : RF σ μ) (i : Nat) (x : Int32) : RF (ups σ 15 i x) μ :=
  rf_congr h (fun q h1 h2 => ups_other (by omega)) (fun _ _ _ => rfl) rfl rfl rfl rfl rfl
def TR (σ τ : St) (N j : Nat) : Prop := RF σ τ ∧ σ 13 1 = nI N ∧ τ 42 12 = nI N ∧ (∀ n, n < 60 → σ 14 n = τ 49 n) ∧ N ≤ 60 ∧ PO (τ 49) N ∧ σ 15 1 = -6 ∧ ∃ k : Nat, k ≤ j ∧ σ 15 0 = nI k ∧ τ 42 22 = nI k
theorem let_nI {s : Int32} (h : wth s 65 70 = true) : ∃ i, i < 6 ∧ s - 65 = nI i := vp_in_of (let_in h) (by decide)
theorem tr_step {σ τ : St} {N j : Nat} (h : TR σ τ N j) (hj : j < N) (hw : mW (τ 49) j = 0) :
    (taR σ (nI j) = -6 ∧ ¬ 0 < mgS τ j 42 21 ∧ RF (taS σ (nI j)) (mgS τ j) ∧ mW (τ 49) (j + mgL τ j) = 0 ∧ j + mgL τ j ≤ N ∧ 1 ≤ mgL τ j ∧ pLen σ (nI j) = nI (mgL τ j)) ∨ (¬ taR σ (nI j) = -6 ∧ 0 < mgS τ j 42 21 ∧ taR σ (nI j) = mgS τ j 42 21) := by
  obtain ⟨hr, p1, p2, p3, h6, hPO, -, -⟩ := h
  have s0 : pSign σ (nI j) = τ 49 j := pad_sign h6 p1 p3 hj
  have hg : RF σ (mg0 τ) := rf_42 hr (Or.inl rfl) _
  unfold taR taS mgS mgL pLen
  rw [s0]
  by_cases hd : τ 49 j = 46
  · rw [if_pos hd, if_pos hd, if_pos hd, if_pos hd, if_pos hd]
    have hg1 : RF σ (mgD1 τ) := rf_42 hg (Or.inl rfl) _
    obtain ⟨⟨c1, c2, c3, c4, c5⟩, ca, ⟨L, M, hL, hL2, hML, eL, eM⟩, r5⟩ := id hg.1
    have e16 : mg0 τ 42 16 = nI M := by rw [← c2, eM]
    have e0 : mg0 τ 42 0 = nI L := by rw [← c1, eL]
    by_cases hlt : M < L
    · left
      have hl2 : σ 7 1 < σ 7 0 := by rw [eM, eL]; exact nI_lt hlt (by omega)
      have e21 : mgD1 τ 42 21 = 0 := by
        unfold mgD1; rw [ups_s, e16, e0, if_neg (fun e => by have := (nI_eq (by omega) (by omega)).mp e; omega)]
      have eD : mgD τ = mpas (mgD1 τ) := by unfold mgD; rw [if_pos e21]
      rw [eD, mpas_42 _ (by decide) (by decide), e21, decide_eq_true hl2]
      exact ⟨rfl, by decide, rf_pas hg1 hl2, PO_dot hw hd, by omega, by omega, rfl⟩
    · right
      have hl2 : ¬ σ 7 1 < σ 7 0 := by rw [eM, eL]; exact nI_nlt (by omega) (by omega)
      have e21 : mgD1 τ 42 21 = 3 := by
        unfold mgD1; rw [ups_s, e16, e0, if_pos (by rw [show M = L by omega])]
      have eD : mgD τ = mgD1 τ := by unfold mgD; rw [if_neg (by rw [e21]; decide)]
      rw [eD, e21, decide_eq_false hl2]
      exact ⟨by decide, by decide, rfl⟩
  · rw [if_neg hd, if_neg hd, if_neg hd, if_neg hd, if_neg hd]
    obtain ⟨hlet, hw1, hj1⟩ := PO_head hPO hj hw hd
    obtain ⟨i, hi, ei⟩ := let_nI hlet
    have s1 : pSign σ (nI j + 1) = τ 49 (j + 1) := by rw [nI_1]; exact pad_sign h6 p1 p3 hj1
    have eW : mgW τ j = nI i := ei
    have eH : mgH τ j = τ 49 (j + 1) := rfl
    unfold pDig
    rw [s1, ei, eH]
    by_cases hdg : wth (τ 49 (j + 1)) 48 57 = true
    · left
      obtain ⟨hj2, hw3⟩ := PO_dig hPO hj1 hw1 hdg
      rw [if_pos hdg, if_pos hdg, if_pos hdg, if_pos hdg, if_pos hdg]
      have s2 : pSign σ (nI j + 2) = τ 49 (j + 2) := by
        rw [show nI j + 2 = nI (j + 2) from nI_add j 2]; exact pad_sign h6 p1 p3 hj2
      have eB : mgB τ j = ups (mg0 τ) 51 i (taB σ (nI j)) := by
        unfold mgB taB; rw [eW, ix_nI (by omega), s1, s2, eH]
      refine ⟨rfl, ?_, ?_, hw3, by omega, by omega, rfl⟩
      · rw [eB, ups_other (by decide)]; unfold mg0; rw [ups_s]; decide
      · rw [eB]; exact rf_bid hg hi _
    · rw [if_neg hdg, if_neg hdg, if_neg hdg, if_neg hdg, if_neg hdg]
      have hw2 : mW (τ 49) (j + 2) = 0 := PO_act hw1 (by simpa using hdg)
      have hg1 : RF σ (mgA1 τ j) := rf_42 hg (Or.inl rfl) _
      have e21 : mgA1 τ j 42 21 = mwhy (mg0 τ) (nI i) (τ 49 (j + 1)) := by unfold mgA1; rw [ups_s, eW, eH]
      have hrd : trd σ 7 (nI i) (σ 7 1) = mrd (mg0 τ) (nI i) (mg0 τ 42 16) := by rw [rr_rd hg.1 hi, hg.1.1.2.1]
      have hmy : tmay σ 7 (nI i) = mspk (mg0 τ) (nI i) := rr_may hg.1 hi
      rw [hrd, hmy]
      cases hr2 : mrd (mg0 τ) (nI i) (mg0 τ 42 16) with
      | false =>
        right
        have e1 : mgA1 τ j 42 21 = 1 := by rw [e21]; unfold mwhy; rw [hr2, if_neg (by decide)]
        have eA : mgA τ j = mgA1 τ j := by unfold mgA; rw [e1, if_neg (by simp)]
        rw [eA, e1, if_neg (by decide)]
        exact ⟨by decide, by decide, rfl⟩
      | true =>
        cases hs : (decide (τ 49 (j + 1) = 115) && !mspk (mg0 τ) (nI i)) with
        | true =>
          right
          have e1 : mgA1 τ j 42 21 = 2 := by rw [e21]; unfold mwhy; rw [hr2, if_pos rfl, hs, if_pos rfl]
          have eA : mgA τ j = mgA1 τ j := by unfold mgA; rw [e1, if_neg (by simp)]
          rw [eA, e1, if_pos rfl, if_pos rfl]
          exact ⟨by decide, by decide, rfl⟩
        | false =>
          left
          have e1 : mgA1 τ j 42 21 = 0 := by rw [e21]; unfold mwhy; rw [hr2, if_pos rfl, hs, if_neg (by decide)]
          rw [if_pos rfl, if_neg (by decide), if_pos rfl, if_neg (by decide)]
          by_cases h99 : τ 49 (j + 1) = 99
          · have eA : mgA τ j = mcou (mgA1 τ j) (nI i) := by unfold mgA; rw [e1, eH, eW, decide_eq_true h99, if_pos (by rfl)]
            have hr3 : mrd (mgA1 τ j) (nI i) (mgA1 τ j 42 16) = true := by
              rw [← rr_rd hg1.1 hi, ← hg1.1.1.2.1, hrd, hr2]
            rw [eA, mcou_42 _ _ (by decide) (by decide), e1, if_pos h99]
            exact ⟨rfl, by decide, rf_cou hg1 hi hr3, hw2, by omega, by omega, rfl⟩
          · have eA : mgA τ j = mgA1 τ j := by unfold mgA; rw [eH, decide_eq_false h99, Bool.and_false, if_neg (by decide)]
            rw [eA, e1, if_neg h99]
            exact ⟨rfl, by decide, hg1, hw2, by omega, by omega, rfl⟩
