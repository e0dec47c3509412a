/-! coughs -/
theorem bitC6 : ∀ b0 b1 b2 b3 b4 b5 : Bool, bitC (setB (fun n => if n = 0 then b0 else if n = 1 then b1 else if n = 2 then b2 else if n = 3 then b3 else if n = 4 then b4 else b5) 6) = cntB (fun n => if n = 0 then b0 else if n = 1 then b1 else if n = 2 then b2 else if n = 3 then b3 else if n = 4 then b4 else b5) 6 := by decide +kernel
theorem bitC_setB (P : Nat → Bool) : bitC (setB P 6) = cntB P 6 := by
  have h : ∀ n, n < 6 → P n = (fun n => if n = 0 then P 0 else if n = 1 then P 1 else if n = 2 then P 2 else if n = 3 then P 3 else if n = 4 then P 4 else P 5) n := by
    intro n hn
    rcases (show n = 0 ∨ n = 1 ∨ n = 2 ∨ n = 3 ∨ n = 4 ∨ n = 5 by omega) with rfl | rfl | rfl | rfl | rfl | rfl <;> rfl
  rw [setB_congr h, cntB_congr h]
  exact bitC6 _ _ _ _ _ _
def cN (P : Nat → Bool) : Nat → Nat
  | 0 => 0
  | n + 1 => cN P n + (if P n then 1 else 0)
theorem cN_le (P : Nat → Bool) : ∀ n, cN P n ≤ n
  | 0 => Nat.le_refl 0
  | n + 1 => by
    have := cN_le P n
    unfold cN; split <;> omega
theorem cntB_cN (P : Nat → Bool) : ∀ n, cntB P n = nI (cN P n)
  | 0 => by rw [show cntB P 0 = 0 from rfl, show cN P 0 = 0 from rfl, nI_0]
  | n + 1 => by
    have e : cntB P (n + 1) = if P n then cntB P n + 1 else cntB P n := rfl
    have e2 : cN P (n + 1) = cN P n + (if P n then 1 else 0) := rfl
    rw [e, e2, cntB_cN P n]
    cases P n
    · rw [if_neg (by decide), if_neg (by decide), Nat.add_zero]
    · rw [if_pos rfl, if_pos rfl, nI_1]
theorem cN_congr {P Q : Nat → Bool} : ∀ {n : Nat}, (∀ i, i < n → P i = Q i) → cN P n = cN Q n
  | 0, _ => rfl
  | n + 1, h => by unfold cN; rw [cN_congr (fun i hi => h i (by omega)), h n (by omega)]
theorem cN_less {P Q : Nat → Bool} {j : Nat} (hj : P j = true) (hq : ∀ i, Q i = (!decide (i = j) && P i)) : ∀ n, cN P n = cN Q n + (if j < n then 1 else 0)
  | 0 => rfl
  | n + 1 => by
    have h1 : cN P (n + 1) = cN P n + (if P n then 1 else 0) := rfl
    have h2 : cN Q (n + 1) = cN Q n + (if Q n then 1 else 0) := rfl
    rw [h1, h2, cN_less hj hq n, hq n]
    by_cases c : n = j
    · subst c; rw [hj]; simp
    · have : (j < n) ↔ (j < n + 1) := by omega
      simp only [c, decide_false, Bool.not_false, Bool.true_and, this]
      omega
theorem lN_step {D : Nat} (Q : Nat → Bool) (a : Nat) : ∀ n, itr (fun k (x : Int64) => x + (if Q k then lN D else 0)) n (lN a) = lN (a + D * cN Q n)
  | 0 => by rw [show cN Q 0 = 0 from rfl, Nat.mul_zero, Nat.add_zero]; rfl
  | n + 1 => by
    have e : itr (fun k (x : Int64) => x + (if Q k then lN D else 0)) (n + 1) (lN a) = itr (fun k (x : Int64) => x + (if Q k then lN D else 0)) n (lN a) + (if Q n then lN D else 0) := rfl
    rw [e, lN_step Q a n]
    have h2 : cN Q (n + 1) = cN Q n + (if Q n then 1 else 0) := rfl
    rw [h2]
    cases Q n
    · rw [if_neg (by decide), if_neg (by decide), Nat.add_zero]; exact Int64.add_zero _
    · rw [if_pos rfl, if_pos rfl, lN_add, Nat.mul_add, Nat.mul_one, Nat.add_assoc]
theorem mh_rides {μ : St} {c : Int32} {j : Nat} (hj : j < 6) (h : mhold μ c = nI j) : mrd μ (nI j) (μ 42 16) = true := by
  have key : ∀ n, n ≤ 6 → ∀ i, i < 6 → itr (mhst μ c) n (-6) = nI i → mrd μ (nI i) (μ 42 16) = true := by
    intro n
    induction n with
    | zero =>
      intro _ i hi e
      exfalso
      have := congrArg Int32.toInt e
      rw [nI_toInt (by omega)] at this
      have e6 : (-6 : Int32).toInt = -6 := rfl
      have e7 : (itr (mhst μ c) 0 (-6)).toInt = (-6 : Int32).toInt := rfl
      omega
    | succ n ih =>
      intro hn i hi e
      have x2 : itr (mhst μ c) (n + 1) (-6) = mhst μ c n (itr (mhst μ c) n (-6)) := rfl
      rw [x2] at e
      have ih := ih (by omega) i hi
      generalize itr (mhst μ c) n (-6) = a at e ih
      unfold mhst at e
      split at e
      · rename_i hc
        have := (nI_eq (by omega) (by omega)).mp e
        subst this
        unfold mmay at hc
        simp only [Bool.and_eq_true, decide_eq_true_eq] at hc
        exact hc.1.2.2.1
      · exact ih e
  exact key 6 (Nat.le_refl 6) j hj h
/-- one minute's chances: C on the class's side, D each on the reference's -/
theorem ch_step {σ μ : St} (h : RF σ μ) {c t m : Int32} {F T C : Nat} (hm : m = μ 42 16) (hF : μ 42 7 = nI F) (hF9 : F ≤ 99) (hT : t = nI T) (hT9 : T ≤ 10) (hC : C < 1000) : ∃ C', C' ≤ C + 6 ∧ (if thold σ 7 c = -6 then nI C else nI C + (bitC (trdo σ 7 c m) - 1)) = nI C' ∧ mkI μ c t (lN (F * T * C)) = lN (F * T * C') := by
  have hFT : F * T ≤ 99 * 10 := Nat.mul_le_mul hF9 hT9
  rw [rr_hold h.1]
  unfold mkI
  rcases mh_val μ c with e | ⟨j, hj, e⟩
  · rw [e, if_pos rfl, if_pos (by decide)]; exact ⟨C, by omega, rfl, rfl⟩
  · have hne : ¬ nI j = -6 := fun q => by
      have := congrArg Int32.toInt q
      rw [nI_toInt (by omega)] at this
      have e6 : (-6 : Int32).toInt = -6 := rfl
      omega
    rw [e, if_neg hne, if_neg (nI_pos (by omega))]
    have hD : (μ 42 7 * t).toInt64 = lN (F * T) := by rw [hF, hT, pk_mul, nI_l (by omega)]
    have hP : ∀ n, n < 6 → tri σ 7 (nI n) c m = (mrd μ (nI n) (μ 42 16) && decide (μ 45 n = c)) := fun n hn => by
      unfold tri; rw [rr_rd h.1 hn, ix_nI (by omega), hm, show (7 : Nat) + 3 = 10 from rfl, show σ 10 n = μ 45 n from (h.1.2.1 n hn).2.2.1]
    have hset : bitC (trdo σ 7 c m) = nI (cN (fun n => mrd μ (nI n) (μ 42 16) && decide (μ 45 n = c)) 6) := by
      unfold trdo; rw [bitC_setB, cntB_congr hP, cntB_cN]
    have hj1 : (fun n => mrd μ (nI n) (μ 42 16) && decide (μ 45 n = c)) j = true := by
      show (mrd μ (nI j) (μ 42 16) && decide (μ 45 j = c)) = true
      rw [mh_rides hj e, decide_eq_true (mh_seat hj e)]; rfl
    have hless := cN_less (Q := fun n => !decide (n = j) && (mrd μ (nI n) (μ 42 16) && decide (μ 45 n = c))) hj1 (fun _ => rfl) 6
    rw [if_pos hj] at hless
    have hle := cN_le (fun n => !decide (n = j) && (mrd μ (nI n) (μ 42 16) && decide (μ 45 n = c))) 6
    generalize hq : cN (fun n => !decide (n = j) && (mrd μ (nI n) (μ 42 16) && decide (μ 45 n = c))) 6 = q at hless hle
    refine ⟨C + q, by omega, ?_, ?_⟩
    · rw [hset, hless, nI_pred, nI_add]
    · have hk : itr (mkK μ c t (nI j)) 6 (lN (F * T * C)) = itr (fun k (x : Int64) => x + (if (!decide (k = j) && (mrd μ (nI k) (μ 42 16) && decide (μ 45 k = c))) then lN (F * T) else 0)) 6 (lN (F * T * C)) := by
        refine itr_congr (fun n hn x => ?_)
        unfold mkK
        have ed : decide (nI n = nI j) = decide (n = j) := decide_eq_decide.mpr (nI_eq (by omega) (by omega))
        rw [hD, ed]
      rw [hk, lN_step (fun k => !decide (k = j) && (mrd μ (nI k) (μ 42 16) && decide (μ 45 k = c))), hq, Nat.mul_add]
theorem ch_all {σ μ : St} (h : Inv2 σ μ) {c t : Int32} {F T : Nat} (hF : σ 1 3 = nI F) (hF9 : F ≤ 99) (hT : t = nI T) (hT9 : T ≤ 10) : ∃ C, C ≤ 180 ∧ (X_chA σ c).1 = nI C ∧ (mkA μ c t).1 = lN (F * T * C) := by
  obtain ⟨⟨c1, c2, c3, c4, c5⟩, ca, ⟨L, M, hL, hL2, hML, eL, eM⟩, r5⟩ := id (rr_now h.1)
  unfold X_chA mkA
  have hcn := cnt_now h
  have hrf := rf_copy h.1
  have h7 : mNow μ 42 7 = nI F := by rw [← c4, hF]
  have key : ∀ n, n ≤ cnt (mNow μ 42 16) (mNow μ 42 0) → ∃ C, C ≤ 6 * n ∧ (itr (X_chF σ c) n (0, tcopy σ 7 1)).1 = nI C ∧ (itr (mkF c t) n (0, mNow μ)).1 = lN (F * T * C) := by
    intro n
    induction n with
    | zero => intro _; exact ⟨0, Nat.le_refl 0, nI_0.symm, by rw [Nat.mul_zero]; rfl⟩
    | succ n ih =>
      intro hn
      obtain ⟨C, hC, i1, i2⟩ := ih (by omega)
      have hn30 : n < 30 := by
        have : cnt (mNow μ 42 16) (mNow μ 42 0) ≤ 30 := by rw [← hcn, eL, eM, cnt_nI (by omega) (by omega)]; omega
        omega
      have x1 : itr (X_chF σ c) (n + 1) (0, tcopy σ 7 1) = X_chF σ c n (itr (X_chF σ c) n (0, tcopy σ 7 1)) := rfl
      have x2 : itr (mkF c t) (n + 1) (0, mNow μ) = mkF c t n (itr (mkF c t) n (0, mNow μ)) := rfl
      have y1 : (itr (X_chF σ c) n (0, tcopy σ 7 1)).2 = itr (fun _ τ => tpas τ 7) n (tcopy σ 7 1) := itrx_run (fun _ _ => rfl) n _
      have y2 : (itr (mkF c t) n (0, mNow μ)).2 = mrun n (mNow μ) := itr2_run (fun _ _ => rfl) n _
      have hr := rf_run hrf n (by omega)
      rw [← y1, ← y2] at hr
      have hnow : σ 1 1 + nI n = (itr (mkF c t) n (0, mNow μ)).2 42 16 := by rw [y2, mrun_now, c2]
      have h77 : (itr (mkF c t) n (0, mNow μ)).2 42 7 = nI F := by rw [y2, mrun_42 _ (by decide) (by decide), h7]
      rw [x1, x2]
      generalize itr (X_chF σ c) n (0, tcopy σ 7 1) = a at i1 hr ⊢
      generalize itr (mkF c t) n (0, mNow μ) = b at i2 hr hnow h77 ⊢
      obtain ⟨C', g1, g2, g3⟩ := ch_step hr (c := c) (C := C) hnow h77 hF9 hT hT9 (by omega)
      refine ⟨C', by omega, ?_, ?_⟩
      · unfold X_chF; dsimp only; rw [i1]; exact g2
      · unfold mkF; dsimp only; rw [i2]; exact g3
  obtain ⟨C, k1, k2, k3⟩ := key _ (Nat.le_refl _)
  refine ⟨C, ?_, ?_, k3⟩
  · have : cnt (mNow μ 42 16) (mNow μ 42 0) ≤ 30 := by rw [← hcn, eL, eM, cnt_nI (by omega) (by omega)]; omega
    omega
  · rw [hcn]; exact k2
