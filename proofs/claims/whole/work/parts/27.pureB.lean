/-! the small calls -/
theorem Padr_of {σ σ' μ μ' : St} (h : Padr σ μ) (h1 : σ' 13 = σ 13) (h2 : σ' 14 = σ 14) (h3 : μ' 42 12 = μ 42 12) (h4 : μ' 49 = μ 49) : Padr σ' μ' := by
  unfold Padr at h ⊢; rw [h1, h2, h3, h4]; exact h
theorem Imgr_of {σ σ' μ μ' : St} {k t s i : Nat} (h : Imgr σ μ k t s i) (h1 : σ' k = σ k) (h2 : ∀ d, d ≤ 5 → σ' (t + d) = σ (t + d)) (h3 : ∀ d, d ≤ 2 → σ' (s + d) = σ (s + d)) (h4 : μ' 55 = μ 55) (h5 : μ' 56 = μ 56) : Imgr σ' μ' k t s i := by
  unfold Imgr Core at h ⊢
  have t0 := h2 0 (by decide); have t1 := h2 1 (by decide); have t2 := h2 2 (by decide); have t3 := h2 3 (by decide); have t4 := h2 4 (by decide); have t5 := h2 5 (by decide)
  have s0 := h3 0 (by decide); have s1 := h3 1 (by decide); have s2 := h3 2 (by decide)
  simp only [Nat.add_zero] at t0 s0
  rw [h1, h4, h5, t0, t1, t2, t3, t4, t5, s0, s1, s2]; exact h
/-- what isn't the train now, the pad or the sights stays: only Main is to be shown -/
theorem inv_main {σ σ' μ μ' : St} (h : Inv2 σ μ) (hm : Main σ' μ') (hσ : ∀ q, 6 < q → q < 42 → ¬ (16 ≤ q ∧ q ≤ 18) → σ' q = σ q) (h12 : μ' 42 12 = μ 42 12) (h49 : μ' 49 = μ 49) (h55 : μ' 55 = μ 55) (h56 : μ' 56 = μ 56) : Inv2 σ' μ' :=
  ⟨hm, Padr_of h.2.1 (hσ 13 (by decide) (by decide) (by decide)) (hσ 14 (by decide) (by decide) (by decide)) h12 h49,
   Imgr_of h.2.2.1 (hσ 22 (by decide) (by decide) (by decide)) (fun d hd => hσ _ (by omega) (by omega) (by omega)) (fun d hd => hσ _ (by omega) (by omega) (by omega)) h55 h56,
   Imgr_of h.2.2.2 (hσ 32 (by decide) (by decide) (by decide)) (fun d hd => hσ _ (by omega) (by omega) (by omega)) (fun d hd => hσ _ (by omega) (by omega) (by omega)) h55 h56⟩
theorem E_line {σ μ : St} (h : Inv2 σ μ) (a : Int32) : (X_line σ a).1 = (Y_line μ a).1 ∧ Inv2 (X_line σ a).2 (Y_line μ a).2 := by
  unfold X_line Y_line
  by_cases hw : wth a 1 30 = true
  · rw [if_pos hw, if_pos hw]
    obtain ⟨⟨c1, c2, c3, c4, c5, c6⟩, ca, cs, ⟨L, M, r1⟩, rF, rS, r4, r5, r6⟩ := h.1
    refine ⟨c1, inv_main h ⟨?_, ?_, ?_, ?_⟩ (fun q h1 h2 _ => ?_) ?_ ?_ ?_ ?_⟩
    · simp [ups, c3, c4, c5, c6]
    · intro n hn; have := ca n hn; simpa [ups] using this
    · intro n hn; have := cs n hn; simpa [ups] using this
    · have hw2 := hw
      simp only [wth, Bool.and_eq_true, Bool.not_eq_true', decide_eq_false_iff_not] at hw2
      have h30 := Int32.not_lt.mp hw2.2
      have h1 := Int32.not_lt.mp hw2.1
      rw [Int32.le_iff_toInt_le] at h30 h1
      have e30 : (30 : Int32).toInt = 30 := rfl
      have e1 : (1 : Int32).toInt = 1 := rfl
      have ea : a = nI a.toInt.toNat := by rw [← Int32.toInt_inj, nI_toInt (by omega)]; omega
      refine ⟨⟨a.toInt.toNat, 0, by omega, by omega, by omega, ?_, ?_⟩, ?_, ?_, ?_, ?_, ?_⟩
      · simp [ups]; exact ea
      · simp [ups]; rfl
      · simpa [ups] using rF
      · simpa [ups] using rS
      · intro n hn; have := r4 n hn; simpa [ups] using this
      · intro n hn; have := r5 n hn; simpa [ups] using this
      · intro n hn; have := r6 n hn; simpa [ups] using this
    · dsimp only; rw [ups_other (by omega), ups_other (by omega)]
    · simp [ups]
    · dsimp only; rw [ups_other (by decide), ups_other (by decide)]
    · dsimp only; rw [ups_other (by decide), ups_other (by decide)]
    · dsimp only; rw [ups_other (by decide), ups_other (by decide)]
  · rw [if_neg hw, if_neg hw]; exact ⟨rfl, h⟩
theorem E_fine {σ μ : St} (h : Inv2 σ μ) (a : Int32) : (X_fine σ a).1 = (Y_fine μ a).1 ∧ Inv2 (X_fine σ a).2 (Y_fine μ a).2 := by
  unfold X_fine Y_fine
  by_cases hw : wth a 0 99 = true
  · rw [if_pos hw, if_pos hw]
    obtain ⟨⟨c1, c2, c3, c4, c5, c6⟩, ca, cs, rL, rF, rS, r4, r5, r6⟩ := h.1
    refine ⟨c4, inv_main h ⟨?_, ?_, ?_, ?_⟩ (fun q h1 h2 _ => ?_) ?_ ?_ ?_ ?_⟩
    · simp [ups, c1, c2, c3, c5, c6]
    · intro n hn; have := ca n hn; simpa [ups] using this
    · intro n hn; have := cs n hn; simpa [ups] using this
    · obtain ⟨F, hF, e⟩ := (wth_0 (b := 99) (B := 99) rfl (by decide)).mp hw
      refine ⟨?_, ⟨F, hF, ?_⟩, ?_, ?_, ?_, ?_⟩
      · simpa [ups] using rL
      · simp [ups, e]
      · simpa [ups] using rS
      · intro n hn; have := r4 n hn; simpa [ups] using this
      · intro n hn; have := r5 n hn; simpa [ups] using this
      · intro n hn; have := r6 n hn; simpa [ups] using this
    · dsimp only; rw [ups_other (by omega)]
    · simp [ups]
    · dsimp only; rw [ups_other (by decide)]
    · dsimp only; rw [ups_other (by decide)]
    · dsimp only; rw [ups_other (by decide)]
  · rw [if_neg hw, if_neg hw]; exact ⟨rfl, h⟩
theorem E_seat {σ μ : St} (h : Inv2 σ μ) (t c : Int32) : (X_seat σ t c).1 = (Y_seat μ t c).1 ∧ Inv2 (X_seat σ t c).2 (Y_seat μ t c).2 := by
  unfold X_seat Y_seat
  rw [isTr_wth, isCo_wth]
  by_cases hw : (wth t 0 5 && wth c 0 2) = true
  · rw [if_pos hw, if_pos hw]
    rw [Bool.and_eq_true] at hw
    obtain ⟨i, hi, rfl⟩ := tr_nI hw.1
    obtain ⟨d, hd, ed⟩ := (wth_0 (b := 2) (B := 2) rfl (by decide)).mp hw.2
    rw [ix_nI (by omega)]
    obtain ⟨⟨c1, c2, c3, c4, c5, c6⟩, ca, cs, rL, rF, rS, r4, r5, r6⟩ := h.1
    refine ⟨(ca i hi).2.2.1, inv_main h ⟨?_, ?_, ?_, ?_⟩ (fun q h1 h2 _ => ?_) ?_ ?_ ?_ ?_⟩
    · simp [ups, c1, c2, c3, c4, c5, c6]
    · intro n hn; have := ca n hn
      by_cases e : n = i
      · subst e; simp [ups]; exact ⟨this.1, this.2.1, this.2.2.2.1, this.2.2.2.2⟩
      · simpa [ups, e] using this
    · intro n hn; have := cs n hn; simpa [ups] using this
    · refine ⟨?_, ?_, ?_, ?_, ?_, ?_⟩
      · simpa [ups] using rL
      · simpa [ups] using rF
      · simpa [ups] using rS
      · intro n hn; have := r4 n hn; simpa [ups] using this
      · intro n hn
        by_cases e : n = i
        · subst e; exact ⟨d, by omega, by simp [ups, ed]⟩
        · have := r5 n hn; simpa [ups, e] using this
      · intro n hn; have := r6 n hn; simpa [ups] using this
    · dsimp only; rw [ups_other (by omega)]
    · simp [ups]
    · dsimp only; rw [ups_other (by decide)]
    · dsimp only; rw [ups_other (by decide)]
    · dsimp only; rw [ups_other (by decide)]
  · rw [if_neg hw, if_neg hw]; exact ⟨rfl, h⟩
theorem E_purse {σ μ : St} (h : Inv2 σ μ) (t v : Int32) : (X_purse σ t v).1 = (Y_purse μ t v).1 ∧ Inv2 (X_purse σ t v).2 (Y_purse μ t v).2 := by
  unfold X_purse Y_purse
  rw [isTr_wth]
  by_cases hw : wth t 0 5 = true
  · rw [if_pos hw, if_pos hw]
    by_cases hv : wth v 0 999 = true
    · rw [if_pos hv, if_pos hv]
      obtain ⟨i, hi, rfl⟩ := tr_nI hw
      rw [ix_nI (by omega)]
      obtain ⟨⟨c1, c2, c3, c4, c5, c6⟩, ca, cs, rL, rF, rS, r4, r5, r6⟩ := h.1
      refine ⟨(ca i hi).2.2.2.1, inv_main h ⟨?_, ?_, ?_, ?_⟩ (fun q h1 h2 _ => ?_) ?_ ?_ ?_ ?_⟩
      · simp [ups, c1, c2, c3, c4, c5, c6]
      · intro n hn; have := ca n hn
        by_cases e : n = i
        · subst e; simp [ups]; exact ⟨this.1, this.2.1, this.2.2.1, this.2.2.2.2⟩
        · simpa [ups, e] using this
      · intro n hn; have := cs n hn; simpa [ups] using this
      · refine ⟨?_, ?_, ?_, ?_, ?_, ?_⟩
        · simpa [ups] using rL
        · simpa [ups] using rF
        · simpa [ups] using rS
        · intro n hn; have := r4 n hn; simpa [ups] using this
        · intro n hn; have := r5 n hn; simpa [ups] using this
        · intro n hn; have := r6 n hn; simpa [ups] using this
      · dsimp only; rw [ups_other (by omega)]
      · simp [ups]
      · dsimp only; rw [ups_other (by decide)]
      · dsimp only; rw [ups_other (by decide)]
      · dsimp only; rw [ups_other (by decide)]
    · rw [if_neg hv, if_neg hv]; exact ⟨rfl, h⟩
  · rw [if_neg hw, if_neg hw]; exact ⟨rfl, h⟩
