/-! who pays most -/
theorem itr_0 {α : Type} (f : Nat → α → α) (a : α) : itr f 0 a = a := rfl
theorem A_rich {σ μ : St} (h : Inv2 σ μ) (w : Int32) : (X_rich σ w).1 = (Y_rich μ w).1 := by
  unfold X_rich Y_rich
  by_cases hw : wth w 0 2 = true
  · rw [if_pos hw, if_pos hw]
    have hr := rf_all h
    have hp : PD (mEnd (mNow μ)) := pd_run (pd_now μ) _
    have hpd : ∀ n, n < 6 → paidT (X_all σ) (nI n) = mEnd (mNow μ) 52 n := fun n hn => paid_eq h (sx_all σ) (sy_end μ) hr hp hn
    have h4 : ∀ n, n < 6 → X_all σ 4 n = mEnd (mNow μ) 45 n := fun n hn => by
      rw [sx_all σ 4 (by decide) (by decide) (by decide), (sy_end μ).1 45 (by decide) (by decide)]; exact (h.1.2.1 n hn).2.2.1
    generalize X_all σ = τ at hr hpd h4 ⊢
    generalize mEnd (mNow μ) = ρ at hr hp hpd h4 ⊢
    have hpc : ∀ c, c < 3 → paidC τ (nI c) = ρ 53 c := fun c hc => by
      unfold paidC
      rw [hp.2 c hc]
      exact itr_congr (fun n hn a => by rw [h4 n hn, hpd n hn])
    have htop : topP τ = (mtP ρ).1 := by
      unfold topP mtP
      have : itr (topF τ) 6 (-6, 0) = itr (mtF ρ) 6 (-6, 0) := itr_congr (fun n hn a => by
        unfold topF mtF
        rw [hpd n hn]
        by_cases hq : a.2 < ρ 52 n
        · rw [if_pos hq, if_pos hq, if_pos hq]
        · rw [if_neg hq, if_neg hq, if_neg hq])
      rw [this]
    have hric : ∀ n, n ≤ 2 → itr (X_richF τ) n 0 = itr (mrF ρ) n 0 ∧ ∃ j, j < 3 ∧ itr (mrF ρ) n 0 = nI j := by
      intro n
      induction n with
      | zero => intro _; exact ⟨(itr_0 _ _).trans (itr_0 _ _).symm, 0, by decide, (itr_0 _ _).trans nI_0.symm⟩
      | succ n ih =>
        intro hn
        obtain ⟨i1, j, hj, i2⟩ := ih (by omega)
        have x1 : itr (X_richF τ) (n + 1) 0 = X_richF τ n (itr (X_richF τ) n 0) := rfl
        have x2 : itr (mrF ρ) (n + 1) 0 = mrF ρ n (itr (mrF ρ) n 0) := rfl
        rw [x1, x2, i1, i2]
        unfold X_richF mrF
        rw [hpc j hj, hpc (1 + n) (by omega), ix_nI (show j < 2 ^ 31 by omega), ix_nI (show 1 + n < 2 ^ 31 by omega)]
        by_cases hq : ρ 53 j < ρ 53 (1 + n)
        · rw [if_pos hq]; exact ⟨rfl, 1 + n, by omega, rfl⟩
        · rw [if_neg hq]; exact ⟨rfl, j, hj, rfl⟩
    obtain ⟨r1, j, hj, r2⟩ := hric 2 (Nat.le_refl 2)
    have r3 : X_richT τ = nI j := r1.trans r2
    have r4 : mrC ρ = nI j := r2
    dsimp only
    rw [htop, r3, r4, hpc j hj, ix_nI (by omega)]
    obtain ⟨v, hv, rfl⟩ := (wth_0 (b := 2) (B := 2) rfl (by decide)).mp hw
    rcases (show v = 0 ∨ v = 1 ∨ v = 2 by omega) with rfl | rfl | rfl
    · rw [if_neg (show ¬ nI 0 = 2 by decide), if_pos (show nI 0 = 0 by decide), if_pos (show nI 0 = 0 by decide)]
    · rw [if_neg (show ¬ nI 1 = 2 by decide), if_neg (show ¬ nI 1 = 0 by decide), if_neg (show ¬ nI 1 = 0 by decide), if_pos (show nI 1 = 1 by decide)]
    · rw [if_pos (show nI 2 = 2 by decide), if_neg (show ¬ nI 2 = 0 by decide), if_neg (show ¬ nI 2 = 1 by decide)]
  · rw [if_neg hw, if_neg hw]
theorem SX_rich (σ : St) (w : Int32) : SameX σ (X_rich σ w).2 := by
  unfold X_rich; split
  · exact sx_all σ
  · exact sx_rf σ
theorem SY_rich (μ : St) (w : Int32) : SameY μ (Y_rich μ w).2 := by
  unfold Y_rich; split
  · exact sy_end μ
  · exact sy_rf μ
/-! bids that buy silence -/
theorem mb_false (t : Int32) : ∀ (N : Nat) (a : Bool × Bool × St), a.1 = false → (itr (mbF t) N a).1 = false
  | 0, _, h => h
  | N + 1, a, h => by
    have e : itr (mbF t) (N + 1) a = mbF t N (itr (mbF t) N a) := rfl
    rw [e]
    have ih := mb_false t N a h
    generalize itr (mbF t) N a = b at ih ⊢
    unfold mbF; dsimp only; rw [ih, Bool.false_and]
theorem mbF_22 (t : Int32) (n : Nat) (a : Bool × Bool × St) : (mbF t n a).2.2 = mpas a.2.2 := rfl
theorem mbF_21 (t : Int32) (n : Nat) (a : Bool × Bool × St) : (mbF t n a).2.1 = (a.2.1 || mrd a.2.2 t (a.2.2 42 16)) := rfl
theorem mb_c (t : Int32) (N : Nat) (a : Bool × Bool × St) : itr (mbF t) (N + 1) a = itr (mbF t) N (mbF t 0 a) := itr_c (mbF t 0) N a
theorem ks_go {i : Nat} (hi : i < 6) : ∀ (N : Nat) (m : Int32) (σ : St) (a : Bool × Bool × St), RF σ a.2.2 → m = a.2.2 42 16 → cnt (a.2.2 42 16) (a.2.2 42 0) = N → a.1 = true → (ksGo (nI i) N m σ).1 = (itr (mbF (nI i)) N a).1 ∧ ((ksGo (nI i) N m σ).1 = true → RF (ksGo (nI i) N m σ).2 (itr (mbF (nI i)) N a).2.2)
  | 0, m, σ, a, h, hm, hN, ha => ⟨ha.symm, fun _ => h⟩
  | N + 1, m, σ, a, h, hm, hN, ha => by
    obtain ⟨⟨c1, c2, c3, c4, c5⟩, ca, ⟨L, M, hL, hL2, hML, eL, eM⟩, r5⟩ := id h.1
    have em : a.2.2 42 16 = nI M := by rw [← c2, eM]
    have el : a.2.2 42 0 = nI L := by rw [← c1, eL]
    have hlt : M < L := by rw [em, el, cnt_nI (by omega) (by omega)] at hN; omega
    have hlt2 : a.2.2 42 16 < a.2.2 42 0 := by rw [em, el]; exact nI_lt hlt (by omega)
    have htn : ttn σ 7 m = hasB (a.2.2 42 1) (a.2.2 42 16) := by
      unfold ttn; rw [hm, em, c5, tn_bt (by omega), hasB_bt (by omega)]
    have hH : tisH σ 7 (nI i) = decide (mhold a.2.2 (a.2.2 45 (ix (nI i))) = nI i) := by
      unfold tisH
      rw [isTr_nI hi, Bool.true_and, ix_nI (by omega), show (7 : Nat) + 3 = 10 from rfl, show σ 10 i = a.2.2 45 i from (ca i hi).2.2.1, rr_hold h.1]
    rw [mb_c]
    have e1 : (mbF (nI i) 0 a).1 = !((trd σ 7 (nI i) m && !ttn σ 7 m) && !tisH σ 7 (nI i)) := by
      unfold mbF; dsimp only
      rw [ha, Bool.true_and, htn, hH, rr_rd h.1 hi, hm]
      cases mrd a.2.2 (nI i) (a.2.2 42 16) <;> cases hasB (a.2.2 42 1) (a.2.2 42 16) <;> simp
    by_cases hc : ((trd σ 7 (nI i) m && !ttn σ 7 m) && !tisH σ 7 (nI i)) = true
    · rw [ksGo_hit hc]
      rw [hc] at e1
      refine ⟨(mb_false _ N _ e1).symm, fun x => by cases x⟩
    · have hc2 : ((trd σ 7 (nI i) m && !ttn σ 7 m) && !tisH σ 7 (nI i)) = false := by simpa using hc
      rw [hc2] at e1
      have e2 : ksGo (nI i) (N + 1) m σ = ksGo (nI i) N (m + 1) (tpas σ 7) := by rw [ksGo, if_neg hc]
      rw [e2]
      have hrf : RF (tpas σ 7) (mbF (nI i) 0 a).2.2 := by rw [mbF_22]; exact rf_pas h ((rf_lt h).mpr hlt2)
      refine ks_go hi N (m + 1) (tpas σ 7) (mbF (nI i) 0 a) hrf ?_ ?_ e1
      · rw [mbF_22, mpas_now, hm]
      · rw [mbF_22, mpas_now, mpas_42 _ (by decide) (by decide), em, el, nI_1, cnt_nI (by omega) (by omega)]
        rw [em, el, cnt_nI (by omega) (by omega)] at hN
        omega
theorem mb0_rf {σ μ : St} (h : Inv2 σ μ) {i : Nat} (hi : i < 6) (b : Int32) : RF (tsetB (tcopy σ 7 1) 7 (nI i) b) (mb0 μ (nI i) b) := by
  unfold mb0; rw [ix_nI (by omega)]; exact rf_bid (rf_copy h.1) hi b
theorem mb0_42 (μ : St) (t b : Int32) : mb0 μ t b 42 = mNow μ 42 := by unfold mb0; rw [ups_other (by decide)]
theorem ks_eq {σ μ : St} (h : Inv2 σ μ) {i : Nat} (hi : i < 6) (b : Int32) : (X_ks σ (nI i) b).1 = (mbA μ (nI i) b).1 ∧ ((X_ks σ (nI i) b).1 = true → RF (X_ks σ (nI i) b).2 (mbA μ (nI i) b).2.2) := by
  unfold X_ks mbA
  rw [cnt_now h, mb0_42]
  refine ks_go hi _ _ _ (true, false, mb0 μ (nI i) b) (mb0_rf h hi b) ?_ ?_ rfl
  · show σ 1 1 = mb0 μ (nI i) b 42 16
    rw [mb0_42]; exact (rr_now h.1).1.2.1
  · show cnt (mb0 μ (nI i) b 42 16) (mb0 μ (nI i) b 42 0) = _
    rw [mb0_42]
theorem mb_run (μ : St) (t b : Int32) : (mbA μ t b).2.2 = mrun (cnt (mb0 μ t b 42 16) (mb0 μ t b 42 0)) (mb0 μ t b) := itr3_run (fun _ _ => rfl) _ _
theorem mb_rides {σ μ : St} (h : Inv2 σ μ) {i : Nat} (hi : i < 6) (b : Int32) : (mbA μ (nI i) b).2.1 = tfrom σ 1 (nI i) := by
  unfold mbA tfrom
  rw [cnt_now h, mb0_42]
  have hr := rr_now h.1
  have key : ∀ n, (itr (mbF (nI i)) n (true, false, mb0 μ (nI i) b)).2.1 = exB (fun j => trd σ 1 (nI i) (σ 1 1 + nI j)) n := by
    intro n
    induction n with
    | zero => rfl
    | succ n ih =>
      have x1 : itr (mbF (nI i)) (n + 1) (true, false, mb0 μ (nI i) b) = mbF (nI i) n (itr (mbF (nI i)) n (true, false, mb0 μ (nI i) b)) := rfl
      have x2 : exB (fun j => trd σ 1 (nI i) (σ 1 1 + nI j)) (n + 1) = (exB (fun j => trd σ 1 (nI i) (σ 1 1 + nI j)) n || trd σ 1 (nI i) (σ 1 1 + nI n)) := rfl
      have x3 : (itr (mbF (nI i)) n (true, false, mb0 μ (nI i) b)).2.2 = mrun n (mb0 μ (nI i) b) := itr3_run (fun _ _ => rfl) _ _
      rw [x1, x2, ← ih]
      generalize itr (mbF (nI i)) n (true, false, mb0 μ (nI i) b) = a at x3 ⊢
      rw [mbF_21, x3, rr_rd hr hi, mrun_now, mb0_42, hr.1.2.1]
      have s43 : mrun n (mb0 μ (nI i) b) 43 = mNow μ 43 := by
        rw [(sy_run (mb0 μ (nI i) b) n).1 43 (by decide) (by decide)]; unfold mb0; rw [ups_other (by decide)]
      have s44 : mrun n (mb0 μ (nI i) b) 44 = mNow μ 44 := by
        rw [(sy_run (mb0 μ (nI i) b) n).1 44 (by decide) (by decide)]; unfold mb0; rw [ups_other (by decide)]
      have s0 : mrun n (mb0 μ (nI i) b) 42 0 = mNow μ 42 0 := by rw [mrun_42 _ (by decide) (by decide), mb0_42]
      have hm : mrd (mrun n (mb0 μ (nI i) b)) (nI i) (mNow μ 42 16 + nI n) = mrd (mNow μ) (nI i) (mNow μ 42 16 + nI n) := by
        unfold mrd
        rw [s43, s44, s0]
      rw [hm]
  exact key _
theorem sx_ksGo (t : Int32) : ∀ (n : Nat) (m : Int32) (σ : St), SameX σ (ksGo t n m σ).2
  | 0, _, σ => sx_rf σ
  | n + 1, m, σ => by
    rw [ksGo]; split
    · exact sx_rf σ
    · exact sx_tr (sx_pas σ) (sx_ksGo t n _ _)
theorem sx_ks (σ : St) (t b : Int32) : SameX σ (X_ks σ t b).2 := sx_tr (sx_copy σ) (sx_tr (sx_bid _ t b) (sx_ksGo t _ _ _))
theorem sy_mb0 (μ : St) (t b : Int32) : SameY μ (mb0 μ t b) := sy_tr (sy_now μ) (sy_ups _ _ _ (by omega))
theorem sy_mbA (μ : St) (t b : Int32) : SameY μ (mbA μ t b).2.2 := by rw [mb_run]; exact sy_tr (sy_mb0 μ t b) (sy_run _ _)
theorem pd_mbA (μ : St) (t b : Int32) : PD (mbA μ t b).2.2 := by rw [mb_run]; exact pd_run (pd_bid (pd_now μ) _ _) _
theorem tfrom_same {σ τ : St} (h : SameX σ τ) (t : Int32) : tfrom τ 1 t = tfrom σ 1 t := by
  unfold tfrom trd
  rw [h 1 (by decide) (by decide) (by decide), h (1 + 1) (by decide) (by decide) (by decide), h (1 + 2) (by decide) (by decide) (by decide)]
theorem by_go {i : Nat} (hi : i < 6) (w : Int32) : ∀ (n : Nat) (b : Int32) (σ μ : St), Inv2 σ μ → tfrom σ 1 (nI i) = true → X_byR (nI i) w (byGo (nI i) n b σ) = Y_byR (nI i) w (mbGo (nI i) n b μ)
  | 0, _, _, _, _, _ => by simp [byGo, mbGo, X_byR, Y_byR]
  | n + 1, b, σ, μ, h, ht => by
    obtain ⟨k1, k2⟩ := ks_eq h hi b
    have k3 := mb_rides h hi b
    rw [ht] at k3
    by_cases hc : (X_ks σ (nI i) b).1 = true
    · rw [byGo_hit hc, mbGo_hit (by rw [← k1, hc, k3]; rfl)]
      unfold X_byR Y_byR
      dsimp only
      rw [paid_eq h (sx_ks σ _ b) (sy_mbA μ _ b) (k2 hc) (pd_mbA μ _ b) hi, ix_nI (by omega)]
    · have e1 : byGo (nI i) (n + 1) b σ = byGo (nI i) n (b + 1) (X_ks σ (nI i) b).2 := by rw [byGo, if_neg hc]
      have e2 : mbGo (nI i) (n + 1) b μ = mbGo (nI i) n (b + 1) (mbA μ (nI i) b).2.2 := by
        rw [mbGo, if_neg (by rw [← k1]; simp [hc])]
      rw [e1, e2]
      exact by_go hi w n (b + 1) _ _ (inv_same h (sx_ks σ _ b) (sy_mbA μ _ b)) (by rw [tfrom_same (sx_ks σ _ b)]; exact ht)
theorem mb_none {i : Nat} (hi : i < 6) : ∀ (n : Nat) (b : Int32) (σ μ : St), Inv2 σ μ → tfrom σ 1 (nI i) = false → (mbGo (nI i) n b μ).1 = none
  | 0, _, _, _, _, _ => by simp [mbGo]
  | n + 1, b, σ, μ, h, ht => by
    have k3 := mb_rides h hi b
    rw [ht] at k3
    have e2 : mbGo (nI i) (n + 1) b μ = mbGo (nI i) n (b + 1) (mbA μ (nI i) b).2.2 := by
      rw [mbGo, if_neg (by rw [k3]; simp)]
    rw [e2]
    exact mb_none hi n (b + 1) σ _ (inv_same h (sx_rf σ) (sy_mbA μ _ b)) ht
theorem A_buy {σ μ : St} (h : Inv2 σ μ) (t w : Int32) : (X_buy σ t w).1 = (Y_buy μ t w).1 := by
  unfold X_buy Y_buy
  rw [isTr_wth]
  by_cases ht : wth t 0 5 = true
  · rw [if_pos ht, if_pos ht]
    obtain ⟨i, hi, rfl⟩ := tr_nI ht
    split
    · cases hf : tfrom σ 1 (nI i) with
      | true => rw [if_pos rfl]; exact by_go hi w 99 (nI 1) σ μ h hf
      | false =>
        rw [if_neg (by decide)]
        dsimp only
        unfold Y_byR
        rw [mb_none hi 99 (nI 1) σ μ h hf]
    · rfl
  · rw [if_neg ht, if_neg ht]
theorem sx_byGo (t : Int32) : ∀ (n : Nat) (b : Int32) (σ : St), SameX σ (byGo t n b σ).2
  | 0, _, σ => sx_rf σ
  | n + 1, b, σ => by
    rw [byGo]; split
    · exact sx_ks σ t b
    · exact sx_tr (sx_ks σ t b) (sx_byGo t n _ _)
theorem sy_mbGo (t : Int32) : ∀ (n : Nat) (b : Int32) (μ : St), SameY μ (mbGo t n b μ).2
  | 0, _, μ => sy_rf μ
  | n + 1, b, μ => by
    rw [mbGo]; split
    · exact sy_mbA μ t b
    · exact sy_tr (sy_mbA μ t b) (sy_mbGo t n _ _)
theorem SX_buy (σ : St) (t w : Int32) : SameX σ (X_buy σ t w).2 := by
  unfold X_buy; split
  · split
    · split
      · exact sx_byGo t _ _ σ
      · exact sx_rf σ
    · exact sx_rf σ
  · exact sx_rf σ
theorem SY_buy (μ : St) (t w : Int32) : SameY μ (Y_buy μ t w).2 := by
  unfold Y_buy; split
  · split
    · exact sy_mbGo t _ _ μ
    · exact sy_rf μ
  · exact sy_rf μ
