/-! pad, sights, told -/
theorem inv_pad {σ σ' μ μ' : St} (h : Inv2 σ μ) (hp : Padr σ' μ') (hσ : ∀ q, q < 42 → q ≠ 13 → q ≠ 14 → σ' q = σ q) (h42 : ∀ j, j ≠ 12 → μ' 42 j = μ 42 j) (hμ : ∀ q, 42 < q → q ≠ 49 → μ' q = μ q) : Inv2 σ' μ' := by
  refine ⟨?_, hp, Imgr_of h.2.2.1 (hσ 22 (by decide) (by decide) (by decide)) (fun d hd => hσ _ (by omega) (by omega) (by omega)) (fun d hd => hσ _ (by omega) (by omega) (by omega)) (hμ 55 (by decide) (by decide)) (hμ 56 (by decide) (by decide)),
   Imgr_of h.2.2.2 (hσ 32 (by decide) (by decide) (by decide)) (fun d hd => hσ _ (by omega) (by omega) (by omega)) (fun d hd => hσ _ (by omega) (by omega) (by omega)) (hμ 55 (by decide) (by decide)) (hμ 56 (by decide) (by decide))⟩
  have h1 := h.1
  unfold Main Core at h1 ⊢
  rw [h42 0 (by decide), h42 8 (by decide), h42 9 (by decide), h42 7 (by decide), h42 1 (by decide), h42 10 (by decide), hμ 43 (by decide) (by decide), hμ 44 (by decide) (by decide), hμ 45 (by decide) (by decide), hμ 46 (by decide) (by decide), hμ 47 (by decide) (by decide), hμ 48 (by decide) (by decide),
    hσ 1 (by decide) (by decide) (by decide), hσ 16 (by decide) (by decide) (by decide), hσ (1 + 1) (by decide) (by decide) (by decide), hσ (1 + 2) (by decide) (by decide) (by decide), hσ (1 + 3) (by decide) (by decide) (by decide), hσ (1 + 4) (by decide) (by decide) (by decide), hσ (1 + 5) (by decide) (by decide) (by decide), hσ (16 + 1) (by decide) (by decide) (by decide), hσ (16 + 2) (by decide) (by decide) (by decide)]
  exact h1
theorem wIn_nI {N B : Nat} (hN : N < 2 ^ 31) (hB : B < 2 ^ 31) : wIn (nI N) (nI B) = decide (N < B) := by
  unfold wIn
  rw [decide_eq_false (nI_pos hN), Bool.not_false, Bool.true_and]
  exact decide_eq_decide.mpr (nI_ltI hN hB)
theorem E_say {σ μ : St} (h : Inv2 σ μ) (s : Int32) : (X_say σ s).1 = (Y_say μ s).1 ∧ Inv2 (X_say σ s).2 (Y_say μ s).2 := by
  obtain ⟨N, hN, p1, p2, p3⟩ := h.2.1
  have hw : wIn (σ 13 1) 60 = decide (N < 60) := by rw [p1]; exact wIn_nI (B := 60) (by omega) (by decide)
  unfold X_say Y_say X_sayS
  by_cases hs : wth s 33 126 = true
  · rw [if_pos hs, if_pos hs, hw]
    by_cases h6 : N < 60
    · rw [decide_eq_true h6]
      simp only [if_true]
      have hne : ¬ μ 42 12 = 60 := by
        rw [p2]; intro e
        have := (nI_eq (b := 60) (by omega) (by decide)).mp e
        omega
      rw [if_neg hne]
      have e1 : pWr σ s = ups (ups σ 14 N s) 13 1 (nI (N + 1)) := by
        unfold pWr; rw [p1, ix_nI (by omega), ups_other (show (13 : Nat) ≠ 14 by decide), p1, nI_1]
      have e2 : Y_say2 μ s = ups (ups μ 49 N s) 42 12 (nI (N + 1)) := by
        unfold Y_say2 Y_say1; rw [p2, ix_nI (by omega), ups_other (show (42 : Nat) ≠ 49 by decide), p2, nI_1]
      rw [e1, e2]
      refine ⟨by dsimp only; rw [ups_s, ups_s], inv_pad h ⟨N + 1, by omega, ?_, ?_, ?_⟩ (fun q h1 h2 h3 => ?_) (fun j hj => ?_) (fun q h1 h2 => ?_)⟩
      · try dsimp only
        rw [ups_s]
      · try dsimp only
        rw [ups_s]
      · intro n hn; try dsimp only
        rw [ups_other (show (14 : Nat) ≠ 13 by decide), ups_other (show (49 : Nat) ≠ 42 by decide)]
        by_cases e : n = N
        · subst e; rw [ups_s, ups_s]
        · rw [ups_j e, ups_j e]; exact p3 n hn
      · try dsimp only
        rw [ups_other h2, ups_other h3]
      · try dsimp only
        rw [ups_j hj, ups_other (by decide)]
      · try dsimp only
        rw [ups_other (by omega), ups_other h2]
    · have eN : N = 60 := by omega
      subst eN
      rw [if_pos (show μ 42 12 = 60 from p2)]
      exact ⟨rfl, h⟩
  · rw [if_neg hs, if_neg hs]; exact ⟨rfl, h⟩
theorem E_wipe {σ μ : St} (h : Inv2 σ μ) : (X_wipe σ).1 = (Y_wipe μ).1 ∧ Inv2 (X_wipe σ).2 (Y_wipe μ).2 := by
  obtain ⟨N, hN, p1, p2, p3⟩ := h.2.1
  unfold X_wipe Y_wipe
  refine ⟨by dsimp only; rw [p1, p2], inv_pad h ⟨0, by omega, ?_, ?_, ?_⟩ (fun q h1 h2 h3 => ?_) (fun j hj => ?_) (fun q h1 h2 => ?_)⟩
  · try dsimp only
    rw [ups_s, nI_0]
  · try dsimp only
    rw [ups_s, nI_0]
  · intro n hn; dsimp only; rw [ups_other (by decide), ups_other (by decide)]; exact p3 n hn
  · try dsimp only
    rw [ups_other h2]
  · try dsimp only
    rw [ups_j hj]
  · try dsimp only
    rw [ups_other (by omega)]
theorem inv_sight {σ σ' μ μ' : St} (h : Inv2 σ μ) (h1 : ∀ q, q < 42 → ¬ (16 ≤ q ∧ q ≤ 18) → σ' q = σ q) (h2 : ∀ j, j ≠ 10 → μ' 42 j = μ 42 j) (h3 : ∀ q, 42 < q → q ≠ 48 → μ' q = μ q) (S : Nat) (hS : S ≤ 8) (e1 : σ' 16 2 = nI S) (e2 : μ' 42 10 = nI S) (e3 : ∀ n, n < 8 → σ' 17 n = μ' 48 (2 * n) ∧ σ' 18 n = μ' 48 (2 * n + 1)) (e4 : ∀ n, n < 8 → ∃ t : Nat, t < 6 ∧ σ' 18 n = nI t) : Inv2 σ' μ' := by
  obtain ⟨⟨c1, c2, c3, c4, c5, c6⟩, ca, cs, rL, rF, rS, r4, r5, r6⟩ := h.1
  refine inv_main h ⟨?_, ?_, ?_, ?_⟩ (fun q _ a b => h1 q a b) (h2 12 (by decide)) (h3 49 (by decide) (by decide)) (h3 55 (by decide) (by decide)) (h3 56 (by decide) (by decide))
  · rw [h1 1 (by decide) (by decide), h2 0 (by decide), h2 8 (by decide), h2 9 (by decide), h2 7 (by decide), h2 1 (by decide), e1, e2]
    exact ⟨c1, c2, c3, c4, c5, rfl⟩
  · intro n hn
    rw [h1 (1 + 1) (by decide) (by decide), h1 (1 + 2) (by decide) (by decide), h1 (1 + 3) (by decide) (by decide), h1 (1 + 4) (by decide) (by decide), h1 (1 + 5) (by decide) (by decide), h3 43 (by decide) (by decide), h3 44 (by decide) (by decide), h3 45 (by decide) (by decide), h3 46 (by decide) (by decide), h3 47 (by decide) (by decide)]
    exact ca n hn
  · exact e3
  · rw [h1 1 (by decide) (by decide), h1 (1 + 1) (by decide) (by decide), h1 (1 + 2) (by decide) (by decide), h1 (1 + 3) (by decide) (by decide)]
    exact ⟨rL, rF, ⟨S, hS, e1⟩, r4, r5, e4⟩
theorem E_seen {σ μ : St} (h : Inv2 σ μ) (m t : Int32) : (X_seen σ m t).1 = (Y_seen μ m t).1 ∧ Inv2 (X_seen σ m t).2 (Y_seen μ m t).2 := by
  obtain ⟨⟨c1, c2, c3, c4, c5, c6⟩, ca, cs, rL, rF, ⟨S, hS, eS⟩, r4, r5, r6⟩ := h.1
  have hw : wIn (σ 16 2) 8 = decide (S < 8) := by rw [eS]; exact wIn_nI (B := 8) (by omega) (by decide)
  have eS2 : μ 42 10 = nI S := by rw [← c6, eS]
  unfold X_seen Y_seen X_seenS
  rw [isTr_wth, isMi_wth]
  by_cases ht : wth t 0 5 = true
  · rw [if_pos ht, if_pos ht]
    by_cases hm : wth m 0 29 = true
    · rw [if_pos hm, if_pos hm, hw]
      obtain ⟨i, hi, rfl⟩ := tr_nI ht
      by_cases h8 : S < 8
      · rw [decide_eq_true h8]
        simp only [if_true]
        have hne : ¬ μ 42 10 = 8 := by
          rw [eS2]; intro e
          have := (nI_eq (b := 8) (by omega) (by decide)).mp e
          omega
        rw [if_neg hne]
        have e1 : gAdd σ m (nI i) = ups (ups (ups σ 17 S m) 18 S (nI i)) 16 2 (nI (S + 1)) := by
          unfold gAdd gAdd2 gAdd1
          rw [eS, ix_nI (by omega), ups_other (show (16 : Nat) ≠ 17 by decide), eS, ix_nI (by omega), ups_other (show (16 : Nat) ≠ 18 by decide), ups_other (show (16 : Nat) ≠ 17 by decide), eS, nI_1]
        have e2 : ms3 μ m (nI i) = ups (ups (ups μ 48 (2 * S) m) 48 (2 * S + 1) (nI i)) 42 10 (nI (S + 1)) := by
          unfold ms3 ms2 ms1
          rw [eS2, (sg_ix S h8).1, ups_other (show (42 : Nat) ≠ 48 by decide), eS2, (sg_ix S h8).2, ups_other (show (42 : Nat) ≠ 48 by decide), ups_other (show (42 : Nat) ≠ 48 by decide), eS2, nI_1]
        rw [e1, e2]
        refine ⟨by dsimp only; rw [ups_s, ups_s], inv_sight h (fun q h1 h2 => ?_) (fun j hj => ?_) (fun q h1 h2 => ?_) (S + 1) (by omega) ?_ ?_ ?_ ?_⟩
        · try dsimp only
          rw [ups_other (by omega), ups_other (by omega), ups_other (by omega)]
        · try dsimp only
          rw [ups_j hj, ups_other (by decide), ups_other (by decide)]
        · try dsimp only
          rw [ups_other (by omega), ups_other h2, ups_other h2]
        · try dsimp only
          rw [ups_s]
        · try dsimp only
          rw [ups_s]
        · intro n hn; try dsimp only
          rw [ups_other (show (17 : Nat) ≠ 16 by decide), ups_other (show (17 : Nat) ≠ 18 by decide), ups_other (show (18 : Nat) ≠ 16 by decide), ups_other (show (48 : Nat) ≠ 42 by decide)]
          by_cases e : n = S
          · subst e; rw [ups_s, ups_s, ups_s, ups_j (by omega), ups_s]; exact ⟨rfl, rfl⟩
          · rw [ups_j e, ups_j e, ups_j (by omega), ups_j (by omega), ups_j (by omega), ups_j (by omega), ups_other (by decide)]; exact cs n hn
        · intro n hn; try dsimp only
          rw [ups_other (show (18 : Nat) ≠ 16 by decide)]
          by_cases e : n = S
          · subst e; rw [ups_s]; exact ⟨i, hi, rfl⟩
          · rw [ups_j e, ups_other (by decide)]; exact r6 n hn
      · have eN : S = 8 := by omega
        subst eN
        rw [if_pos (show μ 42 10 = 8 from eS2)]
        exact ⟨rfl, h⟩
    · rw [if_neg hm, if_neg hm]; exact ⟨rfl, h⟩
  · rw [if_neg ht, if_neg ht]; exact ⟨rfl, h⟩
theorem E_forg {σ μ : St} (h : Inv2 σ μ) : (X_forg σ).1 = (Y_forg μ).1 ∧ Inv2 (X_forg σ).2 (Y_forg μ).2 := by
  obtain ⟨⟨c1, c2, c3, c4, c5, c6⟩, ca, cs, rL, rF, ⟨S, hS, eS⟩, r4, r5, r6⟩ := h.1
  unfold X_forg Y_forg
  refine ⟨c6, inv_sight h (fun q h1 h2 => ?_) (fun j hj => ?_) (fun q h1 h2 => ?_) 0 (by omega) ?_ ?_ ?_ ?_⟩
  · try dsimp only
    rw [ups_other (by omega)]
  · try dsimp only
    rw [ups_j hj]
  · try dsimp only
    rw [ups_other (by omega)]
  · try dsimp only
    rw [ups_s, nI_0]
  · try dsimp only
    rw [ups_s, nI_0]
  · intro n hn; dsimp only; rw [ups_other (by decide), ups_other (by decide), ups_other (by decide)]; exact cs n hn
  · intro n hn; dsimp only; rw [ups_other (by decide)]; exact r6 n hn
theorem told_neg {w : Int32} (h : w < 10) : wth (w / 10 - 1) 0 5 = false := by
  have key : (w / 10 - 1) < 0 := by
    rcases Classical.em (w < 0) with h0 | h0
    · have e10 : (10 : Int32).toInt = 10 := rfl
      have e1 : (1 : Int32).toInt = 1 := rfl
      have e0 : (0 : Int32).toInt = 0 := rfl
      have hr := i32_rng w
      rw [Int32.lt_iff_toInt_lt, e0] at h0
      have hd : w.toInt.tdiv 10 = -((-w.toInt) / 10) := by
        have : w.toInt = -(-w.toInt) := by omega
        rw [this, Int.neg_tdiv, Int.neg_neg, Int.tdiv_eq_ediv_of_nonneg (by omega)]
      rw [Int32.lt_iff_toInt_lt, Int32.toInt_sub, Int32.toInt_div, e10, e1, e0, hd, bmod32 (z := -(-w.toInt / 10)) (by omega) (by omega), bmod32 (by omega) (by omega)]
      omega
    · obtain ⟨j, hj, rfl⟩ := nI_of h0
      have hj9 : j < 10 := (nI_ltI (b := 10) hj (by decide)).mp h
      rw [show (10 : Int32) = nI 10 from rfl, pk_div hj (by decide) (by decide), show j / 10 = 0 by omega]
      decide
  unfold wth
  rw [decide_eq_true key]; rfl
theorem E_told {σ μ : St} (h : Inv2 σ μ) (w : Int32) : (X_told σ w).1 = (Y_told μ w).1 ∧ Inv2 (X_told σ w).2 (Y_told μ w).2 := by
  refine ⟨?_, h⟩
  obtain ⟨⟨c1, c2, c3, c4, c5, c6⟩, ca, cs, rL, rF, rS, r4, r5, r6⟩ := h.1
  obtain ⟨N, hN, p1, p2, p3⟩ := h.2.1
  unfold X_told Y_told
  dsimp only
  rw [p1, p2, c1, c2, c3, c4, c5, c6]
  by_cases hw : w < 10
  · have hx : X_tof σ (w / 10 - 1) (rem w 10) = -2 := by
      unfold X_tof; rw [isTr_wth, told_neg hw]; rfl
    rw [if_pos hw, hx]
  · have n0 : ¬ w = 0 := by rintro rfl; exact hw (by decide)
    have n1 : ¬ w = 1 := by rintro rfl; exact hw (by decide)
    have n2 : ¬ w = 2 := by rintro rfl; exact hw (by decide)
    have n3 : ¬ w = 3 := by rintro rfl; exact hw (by decide)
    have n4 : ¬ w = 4 := by rintro rfl; exact hw (by decide)
    have n5 : ¬ w = 5 := by rintro rfl; exact hw (by decide)
    have n6 : ¬ w = 6 := by rintro rfl; exact hw (by decide)
    rw [if_neg n0, if_neg n1, if_neg n2, if_neg n3, if_neg n4, if_neg n5, if_neg n6, if_neg hw]
    unfold X_tof
    rw [isTr_wth]
    by_cases ht : wth (w / 10 - 1) 0 5 = true
    · rw [if_pos ht, if_pos ht]
      obtain ⟨i, hi, e⟩ := tr_nI ht
      rw [e, ix_nI (by omega)]
      obtain ⟨a1, a2, a3, a4, a5⟩ := ca i hi
      rw [← a1, ← a2, ← a3, ← a4, ← a5]
    · rw [if_neg ht, if_neg ht]
