/-! sets of six -/
theorem b_setB (P : Nat → Bool) : ∀ N, N ≤ 32 → ∀ i, i < 32 → bt (setB P N) i = (decide (i < N) && P i)
  | 0, _, i, _ => by rw [show setB P 0 = 0 from rfl, b_0]; simp
  | N + 1, h, i, hi => by
    have e : setB P (N + 1) = if P N then setB P N ||| ((1 : Int32) <<< (nI N &&& 31)) else setB P N := rfl
    have ih := b_setB P N (by omega) i hi
    rw [e]
    cases hp : P N with
    | true =>
      rw [if_pos rfl, b_or, ih, b_one (by omega) hi]
      by_cases c : i = N
      · subst c; rw [hp]; simp
      · rw [decide_eq_false c, Bool.or_false, decide_eq_decide.mpr (show i < N ↔ i < N + 1 by omega)]
    | false =>
      rw [if_neg (by decide), ih]
      by_cases c : i = N
      · subst c; rw [hp]; simp
      · rw [decide_eq_decide.mpr (show i < N ↔ i < N + 1 by omega)]
theorem orB_setB (P : Nat → Bool) (N : Nat) : itr (fun n a => a ||| (if P n then ((1 : Int32) <<< (nI n &&& 31)) else 0)) N 0 = setB P N := by
  unfold setB
  refine itr_congr (fun n _ x => ?_)
  cases P n
  · rw [if_neg (by decide), if_neg (by decide)]; exact b_ext (fun i _ => by rw [b_or, b_0, Bool.or_false])
  · rw [if_pos rfl, if_pos rfl]
theorem setB_congr {P Q : Nat → Bool} {N : Nat} (h : ∀ n, n < N → P n = Q n) : setB P N = setB Q N := by
  unfold setB
  exact itr_congr (fun n hn x => by rw [h n hn])
/-! who holds, who hears -/
theorem A_holds {σ μ : St} (h : Inv2 σ μ) (c : Int32) : (X_holds σ c).1 = (Y_holds μ c).1 := by
  unfold X_holds Y_holds
  rw [isCo_wth]
  split
  · exact rr_hold (rr_now h.1) c
  · rfl
theorem SX_holds (σ : St) (c : Int32) : SameX σ (X_holds σ c).2 := by unfold X_holds; split <;> exact sx_rf σ
theorem SY_holds (μ : St) (c : Int32) : SameY μ (Y_holds μ c).2 := by
  unfold Y_holds; split
  · exact sy_now μ
  · exact sy_rf μ
theorem A_hears {σ μ : St} (h : Inv2 σ μ) (t : Int32) : (X_hears σ t).1 = (Y_hears μ t).1 := by
  have hr := rr_now h.1
  unfold X_hears Y_hears
  rw [isTr_wth]
  by_cases ht : wth t 0 5 = true
  · rw [if_pos ht, if_pos ht]
    obtain ⟨i, hi, rfl⟩ := tr_nI ht
    dsimp only
    rw [rr_may hr hi]
    by_cases hm : mspk (mNow μ) (nI i) = true
    · rw [if_pos hm, if_pos hm]
      have hrd : mrd (mNow μ) (nI i) (mNow μ 42 16) = true := by
        unfold mspk at hm; rw [Bool.and_eq_true] at hm; exact hm.1
      unfold tcomp
      rw [hr.1.2.1, rr_rd hr hi, hrd, isTr_nI hi, Bool.true_and, if_pos rfl, ix_nI (by omega)]
      rw [show (1 : Nat) + 3 = 4 from rfl, show σ 4 i = mNow μ 45 i from (hr.2.1 i hi).2.2.1]
      have e2 : itr (Y_heF (mNow μ) (nI i)) 6 0 = setB (fun n => !decide (nI n = nI i) && (mrd (mNow μ) (nI n) (mNow μ 42 16) && decide (mNow μ 45 n = mNow μ 45 i))) 6 := by
        rw [← orB_setB]; unfold Y_heF; rw [ix_nI (by omega)]
      rw [e2]
      unfold trdo
      refine b_ext (fun j hj => ?_)
      rw [b_and, b_setB _ 6 (by decide) j hj, b_setB _ 6 (by decide) j hj, b_xor, b_one (by omega) hj, b_m1 j hj]
      by_cases h6 : j < 6
      · rw [decide_eq_true h6, Bool.true_and, Bool.true_and]
        unfold tri
        rw [rr_rd hr h6, ix_nI (by omega), show (1 : Nat) + 3 = 4 from rfl, show σ 4 j = mNow μ 45 j from (hr.2.1 j h6).2.2.1, decide_eq_decide.mpr (nI_eq (show j < 2 ^ 31 by omega) (show i < 2 ^ 31 by omega))]
        cases decide (j = i) <;> simp
      · rw [decide_eq_false h6]; rfl
    · rw [if_neg hm, if_neg hm]
  · rw [if_neg ht, if_neg ht]
theorem SX_hears (σ : St) (c : Int32) : SameX σ (X_hears σ c).2 := by unfold X_hears; split <;> exact sx_rf σ
theorem SY_hears (μ : St) (c : Int32) : SameY μ (Y_hears μ c).2 := by
  unfold Y_hears; split
  · exact sy_now μ
  · exact sy_rf μ
/-! forecast -/
theorem itr_c {α : Type} (f : α → α) : ∀ (n : Nat) (a : α), itr (fun _ => f) (n + 1) a = itr (fun _ => f) n (f a)
  | 0, _ => rfl
  | n + 1, a => by
    have e1 : itr (fun _ => f) (n + 1 + 1) a = f (itr (fun _ => f) (n + 1) a) := rfl
    have e2 : itr (fun _ => f) (n + 1) (f a) = f (itr (fun _ => f) n (f a)) := rfl
    rw [e1, e2, itr_c f n a]
theorem rf_lt {σ μ : St} (h : RF σ μ) : σ 7 1 < σ 7 0 ↔ μ 42 16 < μ 42 0 := by rw [h.1.1.2.1, h.1.1.1]
theorem rf_fore : ∀ (n : Nat) {σ μ : St}, RF σ μ → RF (itr (fun _ τ => tpas τ 7) n σ) (mfGo n μ)
  | 0, _, _, h => h
  | n + 1, σ, μ, h => by
    rw [itr_c, mfGo]
    by_cases hlt : μ 42 16 < μ 42 0
    · rw [if_pos hlt]; exact rf_fore n (rf_pas h ((rf_lt h).mpr hlt))
    · rw [if_neg hlt]
      have hx : ¬ σ 7 1 < σ 7 0 := fun e => hlt ((rf_lt h).mp e)
      have hid : itr (fun _ τ => tpas τ 7) n σ = σ := itr_id (fun _ _ => tpas_end hx)
      rw [tpas_end hx, hid]; exact h
theorem A_fore {σ μ : St} (h : Inv2 σ μ) (c d : Int32) : (X_fore σ c d).1 = (Y_fore μ c d).1 := by
  unfold X_fore Y_fore
  rw [isCo_wth]
  split
  · split
    · exact rr_hold (rf_fore (clN d) (rf_copy h.1)).1 c
    · rfl
  · rfl
theorem SX_fore (σ : St) (c d : Int32) : SameX σ (X_fore σ c d).2 := by
  unfold X_fore; split
  · split
    · exact sx_tr (sx_copy σ) (sx_itr (fun _ τ => sx_pas τ) _ _)
    · exact sx_rf σ
  · exact sx_rf σ
theorem sy_mfGo : ∀ (n : Nat) (μ : St), SameY μ (mfGo n μ)
  | 0, μ => sy_rf μ
  | n + 1, μ => by
    rw [mfGo]; split
    · exact sy_tr (sy_pas μ) (sy_mfGo n _)
    · exact sy_rf μ
theorem SY_fore (μ : St) (c d : Int32) : SameY μ (Y_fore μ c d).2 := by
  unfold Y_fore; split
  · split
    · exact sy_tr (sy_now μ) (sy_mfGo _ _)
    · exact sy_rf μ
  · exact sy_rf μ
/-! rests -/
theorem rf_run {σ μ : St} (h : RF σ μ) : ∀ n, n ≤ cnt (μ 42 16) (μ 42 0) → RF (itr (fun _ τ => tpas τ 7) n σ) (mrun n μ)
  | 0, _ => h
  | n + 1, hn => by
    have ih := rf_run h n (by omega)
    exact rf_pas ih ((rf_lt ih).mpr ((run_lt rfl (by omega)).mpr (by omega)))
theorem cnt_now {σ μ : St} (h : Inv2 σ μ) : cnt (σ 1 1) (σ 1 0) = cnt (mNow μ 42 16) (mNow μ 42 0) := by rw [(rr_now h.1).1.2.1, (rr_now h.1).1.1]
theorem rf_all {σ μ : St} (h : Inv2 σ μ) : RF (X_all σ) (mEnd (mNow μ)) := by
  unfold X_all mEnd
  rw [cnt_now h]
  exact rf_run (rf_copy h.1) _ (Nat.le_refl _)
theorem A_rests {σ μ : St} (h : Inv2 σ μ) (t : Int32) : (X_rests σ t).1 = (Y_rests μ t).1 := by
  unfold X_rests Y_rests
  rw [isTr_wth]
  by_cases ht : wth t 0 5 = true
  · rw [if_pos ht, if_pos ht]
    obtain ⟨i, hi, rfl⟩ := tr_nI ht
    dsimp only
    rw [ix_nI (by omega)]
    exact ((rf_all h).1.2.1 i hi).2.2.2.1
  · rw [if_neg ht, if_neg ht]
theorem SX_rests (σ : St) (t : Int32) : SameX σ (X_rests σ t).2 := by
  unfold X_rests; split
  · exact sx_all σ
  · exact sx_rf σ
theorem sy_end (μ : St) : SameY μ (mEnd (mNow μ)) := sy_tr (sy_now μ) (sy_run _ _)
theorem SY_rests (μ : St) (t : Int32) : SameY μ (Y_rests μ t).2 := by
  unfold Y_rests; split
  · exact sy_end μ
  · exact sy_rf μ
/-! talks -/
theorem itrx_run {β : Type} {f : Nat → β × St → β × St} (h : ∀ n a, (f n a).2 = tpas a.2 7) : ∀ (n : Nat) (a : β × St), (itr f n a).2 = itr (fun _ τ => tpas τ 7) n a.2
  | 0, _ => rfl
  | n + 1, a => by
    have e : itr f (n + 1) a = f n (itr f n a) := rfl
    rw [e, h, itrx_run h n a]; rfl
theorem A_talkA {σ μ : St} (h : Inv2 σ μ) {i j : Nat} (hi : i < 6) (hj : j < 6) : (X_talkA σ (nI i) (nI j)).1 = (Y_taA μ (nI i) (nI j)).1 := by
  unfold X_talkA Y_taA
  rw [cnt_now h]
  have hrf := rf_copy h.1
  have key : ∀ n, n ≤ cnt (mNow μ 42 16) (mNow μ 42 0) → (itr (X_talkF σ (nI i) (nI j)) n (0, tcopy σ 7 1)).1 = (itr (Y_taF (nI i) (nI j)) n (0, mNow μ)).1 := by
    intro n
    induction n with
    | zero => intro _; rfl
    | succ n ih =>
      intro hn
      have ih := ih (by omega)
      have x1 : itr (X_talkF σ (nI i) (nI j)) (n + 1) (0, tcopy σ 7 1) = X_talkF σ (nI i) (nI j) n (itr (X_talkF σ (nI i) (nI j)) n (0, tcopy σ 7 1)) := rfl
      have x2 : itr (Y_taF (nI i) (nI j)) (n + 1) (0, mNow μ) = Y_taF (nI i) (nI j) n (itr (Y_taF (nI i) (nI j)) n (0, mNow μ)) := rfl
      have y1 : (itr (X_talkF σ (nI i) (nI j)) n (0, tcopy σ 7 1)).2 = itr (fun _ τ => tpas τ 7) n (tcopy σ 7 1) := itrx_run (fun _ _ => rfl) n _
      have y2 : (itr (Y_taF (nI i) (nI j)) n (0, mNow μ)).2 = mrun n (mNow μ) := itr2_run (fun _ _ => rfl) n _
      have hr := rf_run hrf n (by omega)
      rw [← y1, ← y2] at hr
      have hnow : (itr (Y_taF (nI i) (nI j)) n (0, mNow μ)).2 42 16 = σ 1 1 + nI n := by rw [y2, mrun_now, (rr_now h.1).1.2.1]
      rw [x1, x2]
      generalize itr (X_talkF σ (nI i) (nI j)) n (0, tcopy σ 7 1) = a at ih hr ⊢
      generalize itr (Y_taF (nI i) (nI j)) n (0, mNow μ) = b at ih hr hnow ⊢
      unfold X_talkF Y_taF
      dsimp only
      unfold tri
      have a3 : a.2 10 i = b.2 45 i := (hr.1.2.1 i hi).2.2.1
      have a3' : a.2 10 j = b.2 45 j := (hr.1.2.1 j hj).2.2.1
      rw [rr_may hr.1 hi, ix_nI (show i < 2 ^ 31 by omega), ix_nI (show j < 2 ^ 31 by omega), rr_rd hr.1 hj, show (7 : Nat) + 3 = 10 from rfl, a3, a3', ← hnow, ih]
      have es : decide (b.2 45 j = b.2 45 i) = decide (b.2 45 i = b.2 45 j) := decide_eq_decide.mpr ⟨Eq.symm, Eq.symm⟩
      rw [es]
      split
      · rfl
      · rw [Int32.add_zero]
  exact key _ (Nat.le_refl _)
theorem A_talks {σ μ : St} (h : Inv2 σ μ) (t q : Int32) : (X_talks σ t q).1 = (Y_talks μ t q).1 := by
  unfold X_talks Y_talks
  rw [isTr_wth, isTr_wth]
  by_cases hc : ((wth t 0 5 && wth q 0 5) && !decide (t = q)) = true
  · rw [if_pos hc, if_pos hc]
    simp only [Bool.and_eq_true] at hc
    obtain ⟨i, hi, rfl⟩ := tr_nI hc.1.1
    obtain ⟨j, hj, rfl⟩ := tr_nI hc.1.2
    exact A_talkA h hi hj
  · rw [if_neg hc, if_neg hc]
theorem SX_talks (σ : St) (t q : Int32) : SameX σ (X_talks σ t q).2 := by
  unfold X_talks; split
  · exact sx_tr (sx_copy σ) (sx_itr2 (fun n a => sx_pas a.2) _ (0, tcopy σ 7 1))
  · exact sx_rf σ
theorem SY_talks (μ : St) (t q : Int32) : SameY μ (Y_talks μ t q).2 := by
  unfold Y_talks; split
  · exact sy_tr (sy_now μ) (sy_itr2 (fun n a => sy_pas a.2) _ (0, mNow μ))
  · exact sy_rf μ
