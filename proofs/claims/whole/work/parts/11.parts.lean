/-! the pad, the sale, the seats, the sights, the verdict -/
def fstB (P : Nat → Bool) : Nat → Nat
  | 0 => 0
  | n + 1 => if fstB P n < n then fstB P n else if P n then n else n + 1
theorem fstB_le (P : Nat → Bool) : ∀ n, fstB P n ≤ n
  | 0 => Nat.le_refl 0
  | n + 1 => by
    have := fstB_le P n
    simp only [fstB]
    split
    · omega
    · split <;> omega
theorem fstB_no {P : Nat → Bool} : ∀ {n : Nat}, (∀ i, i < n → P i = false) → fstB P n = n
  | 0, _ => rfl
  | n + 1, h => by
    have h1 := fstB_no (P := P) (n := n) (fun i hi => h i (by omega))
    simp only [fstB, h1, Nat.lt_irrefl, if_false, h n (by omega)]
    simp
theorem fstB_at {P : Nat → Bool} {j : Nat} (hp : P j = true) (hb : ∀ i, i < j → P i = false) : ∀ {n : Nat}, j < n → fstB P n = j
  | 0, h => absurd h (Nat.not_lt_zero j)
  | n + 1, h => by
    rcases Nat.lt_or_ge j n with q | q
    · have h1 := fstB_at hp hb q
      simp only [fstB, h1, q, if_true]
    · have e : j = n := by omega
      subst e
      have h1 := fstB_no hb
      simp only [fstB, h1, Nat.lt_irrefl, if_false, hp, if_true]
def pSign (σ : St) (x : Int32) : Int32 := if !decide (x < 0) && (decide (x < σ 13 1) && decide (x < 60)) then σ 14 (ix x) else 0
def pDig (σ : St) (x : Int32) : Bool := wth (pSign σ x) 48 57
def pFol (σ : St) (w x : Int32) : Int32 := if w = 0 then (if wth (pSign σ x) 65 70 then 1 else if pSign σ x = 46 then 0 else -6) else if pDig σ x then (if w = 1 then 2 else 0) else if decide (w = 1) && (decide (pSign σ x = 99) || (decide (pSign σ x = 115) || decide (pSign σ x = 104))) then 0 else -6
def pWh (σ : St) (n : Nat) : Int32 := itr (fun n w => pFol σ w (nI n)) n 0
def pFst (σ : St) : Nat := fstB (fun n => decide (pWh σ (n + 1) = -6)) (clN (σ 13 1))
def pFault (σ : St) : Int32 := if pFst σ < clN (σ 13 1) then nI (pFst σ) else if pWh σ (clN (σ 13 1)) = 0 then -6 else σ 13 1
def pLen (σ : St) (x : Int32) : Int32 := if pSign σ x = 46 then 1 else if pDig σ (x + 1) then 3 else 2
def pWr (σ : St) (s : Int32) : St := ups (ups σ 14 (ix (σ 13 1)) s) 13 1 (ups σ 14 (ix (σ 13 1)) s 13 1 + 1)
def wIn (x : Int32) (n : Int32) : Bool := !decide (x < 0) && decide (x < n)
theorem in60 {x : Int32} (h1 : ¬ x < 0) (h2 : x < 60) : vp_in x 60 := by
  rw [vp_in_iff]
  have h1 := Int32.not_lt.mp h1
  rw [Int32.le_iff_toInt_le] at h1
  rw [Int32.lt_iff_toInt_lt] at h2
  exact ⟨h1, h2⟩
theorem in8 {x : Int32} (h1 : ¬ x < 0) (h2 : x < 8) : vp_in x 8 := by
  rw [vp_in_iff]
  have h1 := Int32.not_lt.mp h1
  rw [Int32.le_iff_toInt_le] at h1
  rw [Int32.lt_iff_toInt_lt] at h2
  exact ⟨h1, h2⟩
set_option maxRecDepth 20000 in
set_option maxHeartbeats 4000000 in
theorem t_X1_signAt {σ : St} {x : Int32} : Ct MX1_signAt [.ref 13, .int x] σ (some (.int (pSign σ x))) (σ) := by
  refine ct_of (ls0 := [some (.ref 13), some (.int x)]) ok_MX1_signAt rfl (Nat.le_of_ble_eq_true rfl) rfl ?_
  intro g X F
  refine zw_iload_1 X dX1_signAt_0 ?_
  refine zw_iflt (tgt := 27) X dX1_signAt_1 (by decide) (fun c_1 => ?_) (fun c_1 => ?_)
  · refine zw_iconst (v := 0) X dX1_signAt_27 ik_0 ?_
    exact zw_iret X F dX1_signAt_28 rfl (by first | (simp only [pSign, c_1, decide_true, decide_false, Bool.and_true, Bool.true_and, Bool.and_false, Bool.false_and, Bool.or_true, Bool.true_or, Bool.or_false, Bool.false_or, Bool.not_true, Bool.not_false, if_true, if_false, ite_true, ite_false, Bool.false_eq_true, not_true_eq_false, not_false_eq_true, bI_t, bI_f, decide_eq_true_eq, reduceCtorEq]; done) | (simp [pSign, c_1]; done) | simp_all) (rfl)
  · refine zw_iload_1 X dX1_signAt_4 ?_
    refine zw_aload_0 X dX1_signAt_5 ?_
    refine zw_getI X dX1_signAt_6 fl_X1_15 ck_X1 sh_13 rfl ?_
    refine zw_icmpge (tgt := 27) X dX1_signAt_9 (by decide) (fun c_9 => ?_) (fun c_9 => ?_)
    · refine zw_iconst (v := 0) X dX1_signAt_27 ik_0 ?_
      exact zw_iret X F dX1_signAt_28 rfl (by first | (simp only [pSign, c_1, c_9, decide_true, decide_false, Bool.and_true, Bool.true_and, Bool.and_false, Bool.false_and, Bool.or_true, Bool.true_or, Bool.or_false, Bool.false_or, Bool.not_true, Bool.not_false, if_true, if_false, ite_true, ite_false, Bool.false_eq_true, not_true_eq_false, not_false_eq_true, bI_t, bI_f, decide_eq_true_eq, reduceCtorEq]; done) | (simp [pSign, c_1, c_9]; done) | simp_all) (rfl)
    · refine zw_iload_1 X dX1_signAt_12 ?_
      refine zw_bipush (v := 60) X dX1_signAt_13 bk_60 ?_
      refine zw_icmpge (tgt := 27) X dX1_signAt_15 (by decide) (fun c_15 => ?_) (fun c_15 => ?_)
      · refine zw_iconst (v := 0) X dX1_signAt_27 ik_0 ?_
        exact zw_iret X F dX1_signAt_28 rfl (by first | (simp only [pSign, c_1, c_9, c_15, decide_true, decide_false, Bool.and_true, Bool.true_and, Bool.and_false, Bool.false_and, Bool.or_true, Bool.true_or, Bool.or_false, Bool.false_or, Bool.not_true, Bool.not_false, if_true, if_false, ite_true, ite_false, Bool.false_eq_true, not_true_eq_false, not_false_eq_true, bI_t, bI_f, decide_eq_true_eq, reduceCtorEq]; done) | (simp [pSign, c_1, c_9, c_15]; done) | simp_all) (rfl)
      · refine zw_aload_0 X dX1_signAt_18 ?_
        refine zw_getR X dX1_signAt_19 fl_X1_11 ck_X1 sh_13 rfl ?_
        refine zw_iload_1 X dX1_signAt_22 ?_
        refine zw_iald X dX1_signAt_23 sh_14 (in60 c_1 c_15) ?_
        refine zw_goto (tgt := 28) X dX1_signAt_24 (by decide) ?_
        exact zw_iret X F dX1_signAt_28 rfl (by first | (simp only [pSign, c_1, c_9, c_15, decide_true, decide_false, Bool.and_true, Bool.true_and, Bool.and_false, Bool.false_and, Bool.or_true, Bool.true_or, Bool.or_false, Bool.false_or, Bool.not_true, Bool.not_false, if_true, if_false, ite_true, ite_false, Bool.false_eq_true, not_true_eq_false, not_false_eq_true, bI_t, bI_f, decide_eq_true_eq, reduceCtorEq]; done) | (simp [pSign, c_1, c_9, c_15]; done) | simp_all) (rfl)
set_option maxRecDepth 20000 in
set_option maxHeartbeats 4000000 in
theorem t_X1_isDigitAt {σ : St} {x : Int32} : Ct MX1_isDigitAt [.ref 13, .int x] σ (some (.int (bI (pDig σ x)))) (σ) := by
  refine ct_of (ls0 := [some (.ref 13), some (.int x)]) ok_MX1_isDigitAt rfl (Nat.le_of_ble_eq_true rfl) rfl ?_
  intro g X F
  refine zw_aload_0 X dX1_isDigitAt_0 ?_
  refine zw_iload_1 X dX1_isDigitAt_1 ?_
  refine zw_cV_ii X dX1_isDigitAt_2 lk_X1_19 ok_MX1_signAt vi_MX1_signAt rm_X1_isDigitAt_X1_signAt sh_13 rfl (Nat.le_of_ble_eq_true rfl) t_X1_signAt ?_
  refine zw_bipush (v := 48) X dX1_isDigitAt_5 bk_48 ?_
  refine zw_bipush (v := 57) X dX1_isDigitAt_7 bk_57 ?_
  refine zw_cN_iiii (host := "SilenceMinute") X dX1_isDigitAt_9 (by decide +kernel) ok_MX7_isWithin st_MX7_isWithin rm_X1_isDigitAt_X7_isWithin (Nat.le_of_ble_eq_true rfl) t_X7_isWithin ?_
  exact zw_zret X F dX1_isDigitAt_12 rfl (rfl) (rfl)
set_option maxRecDepth 20000 in
set_option maxHeartbeats 4000000 in
theorem t_X1_write {σ : St} {x : Int32} : Ct MX1_write [.ref 13, .int x] σ (some (.int (bI (wIn (σ 13 1) 60)))) (if wIn (σ 13 1) 60 then pWr σ x else σ) := by
  refine ct_of (ls0 := [some (.ref 13), some (.int x)]) ok_MX1_write rfl (Nat.le_of_ble_eq_true rfl) rfl ?_
  intro g X F
  refine zw_aload_0 X dX1_write_0 ?_
  refine zw_getI X dX1_write_1 fl_X1_15 ck_X1 sh_13 rfl ?_
  refine zw_iflt (tgt := 16) X dX1_write_4 (by decide) (fun c_4 => ?_) (fun c_4 => ?_)
  · refine zw_iconst (v := 0) X dX1_write_16 ik_0 ?_
    exact zw_zret X F dX1_write_17 rfl (by first | (simp only [wIn, bI_0', bI_1', bI_0, bI_1, bI_inj, c_4, decide_true, decide_false, Bool.and_true, Bool.true_and, Bool.and_false, Bool.false_and, Bool.or_true, Bool.true_or, Bool.or_false, Bool.false_or, Bool.not_true, Bool.not_false, if_true, if_false, ite_true, ite_false, Bool.false_eq_true, not_true_eq_false, not_false_eq_true, bI_t, bI_f, decide_eq_true_eq, reduceCtorEq]; done) | (simp [wIn, bI_0', bI_1', bI_0, bI_1, bI_inj, c_4]; done) | simp_all) (by simp [wIn, pWr, c_4])
  · refine zw_aload_0 X dX1_write_7 ?_
    refine zw_getI X dX1_write_8 fl_X1_15 ck_X1 sh_13 rfl ?_
    refine zw_bipush (v := 60) X dX1_write_11 bk_60 ?_
    refine zw_icmplt (tgt := 18) X dX1_write_13 (by decide) (fun c_13 => ?_) (fun c_13 => ?_)
    · refine zw_aload_0 X dX1_write_18 ?_
      refine zw_getR X dX1_write_19 fl_X1_11 ck_X1 sh_13 rfl ?_
      refine zw_aload_0 X dX1_write_22 ?_
      refine zw_getI X dX1_write_23 fl_X1_15 ck_X1 sh_13 rfl ?_
      refine zw_iload_1 X dX1_write_26 ?_
      refine zw_iast X dX1_write_27 sh_14 (in60 c_4 c_13) ?_
      refine zw_aload_0 X dX1_write_28 ?_
      refine zw_dup_r X dX1_write_29 ?_
      refine zw_getI X dX1_write_30 fl_X1_15 ck_X1 sh_13 rfl ?_
      refine zw_iconst (v := 1) X dX1_write_33 ik_1 ?_
      refine zw_iadd X dX1_write_34 ?_
      refine zw_put X dX1_write_35 fl_X1_15 ck_X1 ft_1_1 sh_13 rfl ?_
      refine zw_iconst (v := 1) X dX1_write_38 ik_1 ?_
      exact zw_zret X F dX1_write_39 rfl (by first | (simp only [wIn, bI_0', bI_1', bI_0, bI_1, bI_inj, c_4, c_13, decide_true, decide_false, Bool.and_true, Bool.true_and, Bool.and_false, Bool.false_and, Bool.or_true, Bool.true_or, Bool.or_false, Bool.false_or, Bool.not_true, Bool.not_false, if_true, if_false, ite_true, ite_false, Bool.false_eq_true, not_true_eq_false, not_false_eq_true, bI_t, bI_f, decide_eq_true_eq, reduceCtorEq]; done) | (simp [wIn, bI_0', bI_1', bI_0, bI_1, bI_inj, c_4, c_13]; done) | simp_all) (by simp [wIn, pWr, c_4, c_13])
    · refine zw_iconst (v := 0) X dX1_write_16 ik_0 ?_
      exact zw_zret X F dX1_write_17 rfl (by first | (simp only [wIn, bI_0', bI_1', bI_0, bI_1, bI_inj, c_4, c_13, decide_true, decide_false, Bool.and_true, Bool.true_and, Bool.and_false, Bool.false_and, Bool.or_true, Bool.true_or, Bool.or_false, Bool.false_or, Bool.not_true, Bool.not_false, if_true, if_false, ite_true, ite_false, Bool.false_eq_true, not_true_eq_false, not_false_eq_true, bI_t, bI_f, decide_eq_true_eq, reduceCtorEq]; done) | (simp [wIn, bI_0', bI_1', bI_0, bI_1, bI_inj, c_4, c_13]; done) | simp_all) (by simp [wIn, pWr, c_4, c_13])
set_option maxRecDepth 20000 in
set_option maxHeartbeats 4000000 in
theorem t_X1_clear {σ : St} : Ct MX1_clear [.ref 13] σ (some (.int (σ 13 1))) (ups σ 13 1 0) := by
  refine ct_of (ls0 := [some (.ref 13), none]) ok_MX1_clear rfl (Nat.le_of_ble_eq_true rfl) rfl ?_
  intro g X F
  refine zw_aload_0 X dX1_clear_0 ?_
  refine zw_getI X dX1_clear_1 fl_X1_15 ck_X1 sh_13 rfl ?_
  refine zw_istore_1 X dX1_clear_4 ?_
  refine zw_aload_0 X dX1_clear_5 ?_
  refine zw_iconst (v := 0) X dX1_clear_6 ik_0 ?_
  refine zw_put X dX1_clear_7 fl_X1_15 ck_X1 ft_1_1 sh_13 rfl ?_
  refine zw_iload_1 X dX1_clear_10 ?_
  exact zw_iret X F dX1_clear_11 rfl (rfl) (rfl)
set_option maxRecDepth 20000 in
set_option maxHeartbeats 4000000 in
theorem t_X1_follow {σ : St} {w x : Int32} : Ct MX1_follow [.ref 13, .int w, .int x] σ (some (.int (pFol σ w x))) (σ) := by
  refine ct_of (ls0 := [some (.ref 13), some (.int w), some (.int x), none, none]) ok_MX1_follow rfl (Nat.le_of_ble_eq_true rfl) rfl ?_
  intro g X F
  refine zw_aload_0 X dX1_follow_0 ?_
  refine zw_iload_2 X dX1_follow_1 ?_
  refine zw_cV_ii X dX1_follow_2 lk_X1_19 ok_MX1_signAt vi_MX1_signAt rm_X1_follow_X1_signAt sh_13 rfl (Nat.le_of_ble_eq_true rfl) t_X1_signAt ?_
  refine zw_istore_3 X dX1_follow_5 ?_
  refine zw_iload_1 X dX1_follow_6 ?_
  refine zw_ifne (tgt := 36) X dX1_follow_7 (by decide) (fun c_7 => ?_) (fun c_7 => ?_)
  · refine zw_aload_0 X dX1_follow_36 ?_
    refine zw_iload_2 X dX1_follow_37 ?_
    refine zw_cV_ii X dX1_follow_38 lk_X1_31 ok_MX1_isDigitAt vi_MX1_isDigitAt rm_X1_follow_X1_isDigitAt sh_13 rfl (Nat.le_of_ble_eq_true rfl) t_X1_isDigitAt ?_
    refine zw_ifeqB (tgt := 55) X dX1_follow_41 (by decide) (fun c_41 => ?_) (fun c_41 => ?_)
    · refine zw_iload_3 X dX1_follow_55 ?_
      refine zw_bipush (v := 99) X dX1_follow_56 bk_99 ?_
      refine zw_icmpeq (tgt := 73) X dX1_follow_58 (by decide) (fun c_58 => ?_) (fun c_58 => ?_)
      · refine zw_iconst (v := 1) X dX1_follow_73 ik_1 ?_
        refine zw_goto (tgt := 78) X dX1_follow_74 (by decide) ?_
        refine zw_istore_4 X dX1_follow_78 ?_
        refine zw_iload_1 X dX1_follow_80 ?_
        refine zw_iconst (v := 1) X dX1_follow_81 ik_1 ?_
        refine zw_icmpne (tgt := 94) X dX1_follow_82 (by decide) (fun c_82 => ?_) (fun c_82 => ?_)
        · refine zw_bipush (v := -6) X dX1_follow_94 bk_m6 ?_
          exact zw_iret X F dX1_follow_96 rfl (by first | (simp only [pFol, c_7, c_41, eq_true c_58, c_82, decide_true, decide_false, Bool.and_true, Bool.true_and, Bool.and_false, Bool.false_and, Bool.or_true, Bool.true_or, Bool.or_false, Bool.false_or, Bool.not_true, Bool.not_false, if_true, if_false, ite_true, ite_false, Bool.false_eq_true, not_true_eq_false, not_false_eq_true, bI_t, bI_f, decide_eq_true_eq, reduceCtorEq]; done) | (simp [pFol, c_7, c_41, eq_true c_58, c_82]; done) | simp_all) (rfl)
        · refine zw_iload_4 X dX1_follow_85 ?_
          refine zw_ifeq_f (tgt := 94) X dX1_follow_87 (by decide) (by decide) ?_
          refine zw_iconst (v := 0) X dX1_follow_90 ik_0 ?_
          refine zw_goto (tgt := 96) X dX1_follow_91 (by decide) ?_
          exact zw_iret X F dX1_follow_96 rfl (by first | (simp only [pFol, c_7, c_41, eq_true c_58, eq_true c_82, decide_true, decide_false, Bool.and_true, Bool.true_and, Bool.and_false, Bool.false_and, Bool.or_true, Bool.true_or, Bool.or_false, Bool.false_or, Bool.not_true, Bool.not_false, if_true, if_false, ite_true, ite_false, Bool.false_eq_true, not_true_eq_false, not_false_eq_true, bI_t, bI_f, decide_eq_true_eq, reduceCtorEq]; done) | (simp [pFol, c_7, c_41, eq_true c_58, eq_true c_82]; done) | simp_all) (rfl)
      · refine zw_iload_3 X dX1_follow_61 ?_
        refine zw_bipush (v := 115) X dX1_follow_62 bk_115 ?_
        refine zw_icmpeq (tgt := 73) X dX1_follow_64 (by decide) (fun c_64 => ?_) (fun c_64 => ?_)
        · refine zw_iconst (v := 1) X dX1_follow_73 ik_1 ?_
          refine zw_goto (tgt := 78) X dX1_follow_74 (by decide) ?_
          refine zw_istore_4 X dX1_follow_78 ?_
          refine zw_iload_1 X dX1_follow_80 ?_
          refine zw_iconst (v := 1) X dX1_follow_81 ik_1 ?_
          refine zw_icmpne (tgt := 94) X dX1_follow_82 (by decide) (fun c_82 => ?_) (fun c_82 => ?_)
          · refine zw_bipush (v := -6) X dX1_follow_94 bk_m6 ?_
            exact zw_iret X F dX1_follow_96 rfl (by first | (simp only [pFol, c_7, c_41, c_58, eq_true c_64, c_82, decide_true, decide_false, Bool.and_true, Bool.true_and, Bool.and_false, Bool.false_and, Bool.or_true, Bool.true_or, Bool.or_false, Bool.false_or, Bool.not_true, Bool.not_false, if_true, if_false, ite_true, ite_false, Bool.false_eq_true, not_true_eq_false, not_false_eq_true, bI_t, bI_f, decide_eq_true_eq, reduceCtorEq]; done) | (simp [pFol, c_7, c_41, c_58, eq_true c_64, c_82]; done) | simp_all) (rfl)
          · refine zw_iload_4 X dX1_follow_85 ?_
            refine zw_ifeq_f (tgt := 94) X dX1_follow_87 (by decide) (by decide) ?_
            refine zw_iconst (v := 0) X dX1_follow_90 ik_0 ?_
            refine zw_goto (tgt := 96) X dX1_follow_91 (by decide) ?_
            exact zw_iret X F dX1_follow_96 rfl (by first | (simp only [pFol, c_7, c_41, c_58, eq_true c_64, eq_true c_82, decide_true, decide_false, Bool.and_true, Bool.true_and, Bool.and_false, Bool.false_and, Bool.or_true, Bool.true_or, Bool.or_false, Bool.false_or, Bool.not_true, Bool.not_false, if_true, if_false, ite_true, ite_false, Bool.false_eq_true, not_true_eq_false, not_false_eq_true, bI_t, bI_f, decide_eq_true_eq, reduceCtorEq]; done) | (simp [pFol, c_7, c_41, c_58, eq_true c_64, eq_true c_82]; done) | simp_all) (rfl)
        · refine zw_iload_3 X dX1_follow_67 ?_
          refine zw_bipush (v := 104) X dX1_follow_68 bk_104 ?_
          refine zw_icmpne (tgt := 77) X dX1_follow_70 (by decide) (fun c_70 => ?_) (fun c_70 => ?_)
          · refine zw_iconst (v := 0) X dX1_follow_77 ik_0 ?_
            refine zw_istore_4 X dX1_follow_78 ?_
            refine zw_iload_1 X dX1_follow_80 ?_
            refine zw_iconst (v := 1) X dX1_follow_81 ik_1 ?_
            refine zw_icmpne (tgt := 94) X dX1_follow_82 (by decide) (fun c_82 => ?_) (fun c_82 => ?_)
            · refine zw_bipush (v := -6) X dX1_follow_94 bk_m6 ?_
              exact zw_iret X F dX1_follow_96 rfl (by first | (simp only [pFol, c_7, c_41, c_58, c_64, c_70, c_82, decide_true, decide_false, Bool.and_true, Bool.true_and, Bool.and_false, Bool.false_and, Bool.or_true, Bool.true_or, Bool.or_false, Bool.false_or, Bool.not_true, Bool.not_false, if_true, if_false, ite_true, ite_false, Bool.false_eq_true, not_true_eq_false, not_false_eq_true, bI_t, bI_f, decide_eq_true_eq, reduceCtorEq]; done) | (simp [pFol, c_7, c_41, c_58, c_64, c_70, c_82]; done) | simp_all) (rfl)
            · refine zw_iload_4 X dX1_follow_85 ?_
              refine zw_ifeq_t (tgt := 94) X dX1_follow_87 (by decide) (by decide) ?_
              refine zw_bipush (v := -6) X dX1_follow_94 bk_m6 ?_
              exact zw_iret X F dX1_follow_96 rfl (by first | (simp only [pFol, c_7, c_41, c_58, c_64, c_70, eq_true c_82, decide_true, decide_false, Bool.and_true, Bool.true_and, Bool.and_false, Bool.false_and, Bool.or_true, Bool.true_or, Bool.or_false, Bool.false_or, Bool.not_true, Bool.not_false, if_true, if_false, ite_true, ite_false, Bool.false_eq_true, not_true_eq_false, not_false_eq_true, bI_t, bI_f, decide_eq_true_eq, reduceCtorEq]; done) | (simp [pFol, c_7, c_41, c_58, c_64, c_70, eq_true c_82]; done) | simp_all) (rfl)
          · refine zw_iconst (v := 1) X dX1_follow_73 ik_1 ?_
            refine zw_goto (tgt := 78) X dX1_follow_74 (by decide) ?_
            refine zw_istore_4 X dX1_follow_78 ?_
            refine zw_iload_1 X dX1_follow_80 ?_
            refine zw_iconst (v := 1) X dX1_follow_81 ik_1 ?_
            refine zw_icmpne (tgt := 94) X dX1_follow_82 (by decide) (fun c_82 => ?_) (fun c_82 => ?_)
            · refine zw_bipush (v := -6) X dX1_follow_94 bk_m6 ?_
              exact zw_iret X F dX1_follow_96 rfl (by first | (simp only [pFol, c_7, c_41, c_58, c_64, eq_true c_70, c_82, decide_true, decide_false, Bool.and_true, Bool.true_and, Bool.and_false, Bool.false_and, Bool.or_true, Bool.true_or, Bool.or_false, Bool.false_or, Bool.not_true, Bool.not_false, if_true, if_false, ite_true, ite_false, Bool.false_eq_true, not_true_eq_false, not_false_eq_true, bI_t, bI_f, decide_eq_true_eq, reduceCtorEq]; done) | (simp [pFol, c_7, c_41, c_58, c_64, eq_true c_70, c_82]; done) | simp_all) (rfl)
            · refine zw_iload_4 X dX1_follow_85 ?_
              refine zw_ifeq_f (tgt := 94) X dX1_follow_87 (by decide) (by decide) ?_
              refine zw_iconst (v := 0) X dX1_follow_90 ik_0 ?_
              refine zw_goto (tgt := 96) X dX1_follow_91 (by decide) ?_
              exact zw_iret X F dX1_follow_96 rfl (by first | (simp only [pFol, c_7, c_41, c_58, c_64, eq_true c_70, eq_true c_82, decide_true, decide_false, Bool.and_true, Bool.true_and, Bool.and_false, Bool.false_and, Bool.or_true, Bool.true_or, Bool.or_false, Bool.false_or, Bool.not_true, Bool.not_false, if_true, if_false, ite_true, ite_false, Bool.false_eq_true, not_true_eq_false, not_false_eq_true, bI_t, bI_f, decide_eq_true_eq, reduceCtorEq]; done) | (simp [pFol, c_7, c_41, c_58, c_64, eq_true c_70, eq_true c_82]; done) | simp_all) (rfl)
    · refine zw_iload_1 X dX1_follow_44 ?_
      refine zw_iconst (v := 1) X dX1_follow_45 ik_1 ?_
      refine zw_icmpne (tgt := 53) X dX1_follow_46 (by decide) (fun c_46 => ?_) (fun c_46 => ?_)
      · refine zw_iconst (v := 0) X dX1_follow_53 ik_0 ?_
        exact zw_iret X F dX1_follow_54 rfl (by first | (simp only [pFol, c_7, c_41, c_46, decide_true, decide_false, Bool.and_true, Bool.true_and, Bool.and_false, Bool.false_and, Bool.or_true, Bool.true_or, Bool.or_false, Bool.false_or, Bool.not_true, Bool.not_false, if_true, if_false, ite_true, ite_false, Bool.false_eq_true, not_true_eq_false, not_false_eq_true, bI_t, bI_f, decide_eq_true_eq, reduceCtorEq]; done) | (simp [pFol, c_7, c_41, c_46]; done) | simp_all) (rfl)
      · refine zw_iconst (v := 2) X dX1_follow_49 ik_2 ?_
        refine zw_goto (tgt := 54) X dX1_follow_50 (by decide) ?_
        exact zw_iret X F dX1_follow_54 rfl (by first | (simp only [pFol, c_7, c_41, eq_true c_46, decide_true, decide_false, Bool.and_true, Bool.true_and, Bool.and_false, Bool.false_and, Bool.or_true, Bool.true_or, Bool.or_false, Bool.false_or, Bool.not_true, Bool.not_false, if_true, if_false, ite_true, ite_false, Bool.false_eq_true, not_true_eq_false, not_false_eq_true, bI_t, bI_f, decide_eq_true_eq, reduceCtorEq]; done) | (simp [pFol, c_7, c_41, eq_true c_46]; done) | simp_all) (rfl)
  · refine zw_iload_3 X dX1_follow_10 ?_
    refine zw_bipush (v := 65) X dX1_follow_11 bk_65 ?_
    refine zw_bipush (v := 70) X dX1_follow_13 bk_70 ?_
    refine zw_cN_iiii (host := "SilenceMinute") X dX1_follow_15 (by decide +kernel) ok_MX7_isWithin st_MX7_isWithin rm_X1_follow_X7_isWithin (Nat.le_of_ble_eq_true rfl) t_X7_isWithin ?_
    refine zw_ifeqB (tgt := 23) X dX1_follow_18 (by decide) (fun c_18 => ?_) (fun c_18 => ?_)
    · refine zw_iload_3 X dX1_follow_23 ?_
      refine zw_bipush (v := 46) X dX1_follow_24 bk_46 ?_
      refine zw_icmpne (tgt := 33) X dX1_follow_26 (by decide) (fun c_26 => ?_) (fun c_26 => ?_)
      · refine zw_bipush (v := -6) X dX1_follow_33 bk_m6 ?_
        exact zw_iret X F dX1_follow_35 rfl (by first | (simp only [pFol, eq_true c_7, c_18, c_26, decide_true, decide_false, Bool.and_true, Bool.true_and, Bool.and_false, Bool.false_and, Bool.or_true, Bool.true_or, Bool.or_false, Bool.false_or, Bool.not_true, Bool.not_false, if_true, if_false, ite_true, ite_false, Bool.false_eq_true, not_true_eq_false, not_false_eq_true, bI_t, bI_f, decide_eq_true_eq, reduceCtorEq]; done) | (simp [pFol, eq_true c_7, c_18, c_26]; done) | simp_all) (rfl)
      · refine zw_iconst (v := 0) X dX1_follow_29 ik_0 ?_
        refine zw_goto (tgt := 35) X dX1_follow_30 (by decide) ?_
        exact zw_iret X F dX1_follow_35 rfl (by first | (simp only [pFol, eq_true c_7, c_18, eq_true c_26, decide_true, decide_false, Bool.and_true, Bool.true_and, Bool.and_false, Bool.false_and, Bool.or_true, Bool.true_or, Bool.or_false, Bool.false_or, Bool.not_true, Bool.not_false, if_true, if_false, ite_true, ite_false, Bool.false_eq_true, not_true_eq_false, not_false_eq_true, bI_t, bI_f, decide_eq_true_eq, reduceCtorEq]; done) | (simp [pFol, eq_true c_7, c_18, eq_true c_26]; done) | simp_all) (rfl)
    · refine zw_iconst (v := 1) X dX1_follow_21 ik_1 ?_
      exact zw_iret X F dX1_follow_22 rfl (by first | (simp only [pFol, eq_true c_7, c_18, decide_true, decide_false, Bool.and_true, Bool.true_and, Bool.and_false, Bool.false_and, Bool.or_true, Bool.true_or, Bool.or_false, Bool.false_or, Bool.not_true, Bool.not_false, if_true, if_false, ite_true, ite_false, Bool.false_eq_true, not_true_eq_false, not_false_eq_true, bI_t, bI_f, decide_eq_true_eq, reduceCtorEq]; done) | (simp [pFol, eq_true c_7, c_18]; done) | simp_all) (rfl)
set_option maxRecDepth 20000 in
set_option maxHeartbeats 4000000 in
theorem t_X1_actLength {σ : St} {x : Int32} : Ct MX1_actLength [.ref 13, .int x] σ (some (.int (pLen σ x))) (σ) := by
  refine ct_of (ls0 := [some (.ref 13), some (.int x)]) ok_MX1_actLength rfl (Nat.le_of_ble_eq_true rfl) rfl ?_
  intro g X F
  refine zw_aload_0 X dX1_actLength_0 ?_
  refine zw_iload_1 X dX1_actLength_1 ?_
  refine zw_cV_ii X dX1_actLength_2 lk_X1_19 ok_MX1_signAt vi_MX1_signAt rm_X1_actLength_X1_signAt sh_13 rfl (Nat.le_of_ble_eq_true rfl) t_X1_signAt ?_
  refine zw_bipush (v := 46) X dX1_actLength_5 bk_46 ?_
  refine zw_icmpne (tgt := 12) X dX1_actLength_7 (by decide) (fun c_7 => ?_) (fun c_7 => ?_)
  · refine zw_aload_0 X dX1_actLength_12 ?_
    refine zw_iload_1 X dX1_actLength_13 ?_
    refine zw_iconst (v := 1) X dX1_actLength_14 ik_1 ?_
    refine zw_iadd X dX1_actLength_15 ?_
    refine zw_cV_ii X dX1_actLength_16 lk_X1_31 ok_MX1_isDigitAt vi_MX1_isDigitAt rm_X1_actLength_X1_isDigitAt sh_13 rfl (Nat.le_of_ble_eq_true rfl) t_X1_isDigitAt ?_
    refine zw_ifeqB (tgt := 26) X dX1_actLength_19 (by decide) (fun c_19 => ?_) (fun c_19 => ?_)
    · refine zw_iconst (v := 2) X dX1_actLength_26 ik_2 ?_
      exact zw_iret X F dX1_actLength_27 rfl (by first | (simp only [pLen, c_7, c_19, decide_true, decide_false, Bool.and_true, Bool.true_and, Bool.and_false, Bool.false_and, Bool.or_true, Bool.true_or, Bool.or_false, Bool.false_or, Bool.not_true, Bool.not_false, if_true, if_false, ite_true, ite_false, Bool.false_eq_true, not_true_eq_false, not_false_eq_true, bI_t, bI_f, decide_eq_true_eq, reduceCtorEq]; done) | (simp [pLen, c_7, c_19]; done) | simp_all) (rfl)
    · refine zw_iconst (v := 3) X dX1_actLength_22 ik_3 ?_
      refine zw_goto (tgt := 27) X dX1_actLength_23 (by decide) ?_
      exact zw_iret X F dX1_actLength_27 rfl (by first | (simp only [pLen, c_7, c_19, decide_true, decide_false, Bool.and_true, Bool.true_and, Bool.and_false, Bool.false_and, Bool.or_true, Bool.true_or, Bool.or_false, Bool.false_or, Bool.not_true, Bool.not_false, if_true, if_false, ite_true, ite_false, Bool.false_eq_true, not_true_eq_false, not_false_eq_true, bI_t, bI_f, decide_eq_true_eq, reduceCtorEq]; done) | (simp [pLen, c_7, c_19]; done) | simp_all) (rfl)
  · refine zw_iconst (v := 1) X dX1_actLength_10 ik_1 ?_
    exact zw_iret X F dX1_actLength_11 rfl (by first | (simp only [pLen, eq_true c_7, decide_true, decide_false, Bool.and_true, Bool.true_and, Bool.and_false, Bool.false_and, Bool.or_true, Bool.true_or, Bool.or_false, Bool.false_or, Bool.not_true, Bool.not_false, if_true, if_false, ite_true, ite_false, Bool.false_eq_true, not_true_eq_false, not_false_eq_true, bI_t, bI_f, decide_eq_true_eq, reduceCtorEq]; done) | (simp [pLen, eq_true c_7]; done) | simp_all) (rfl)
set_option maxRecDepth 20000 in
set_option maxHeartbeats 4000000 in
theorem t_X1_faultPlace {σ : St} : Ct MX1_faultPlace [.ref 13] σ (some (.int (pFault σ))) σ := by
  refine ct_of (ls0 := [some (.ref 13), none, none]) ok_MX1_faultPlace rfl (Nat.le_of_ble_eq_true rfl) rfl ?_
  intro g X F
  refine zw_iconst (v := 0) X dX1_faultPlace_0 ik_0 ?_
  refine zw_istore_1 X dX1_faultPlace_1 ?_
  refine zw_iconst (v := 0) X dX1_faultPlace_2 ik_0 ?_
  refine zw_istore_2 X dX1_faultPlace_3 ?_
  refine zfind (S := fun j => ∀ A T : Int32, A = pWh σ j → T = nI j → ZW g 4 [some (.ref 13), some (.int A), some (.int T)] [] σ) (P := fun n => decide (pWh σ (n + 1) = -6)) (N := clN (σ 13 1)) (fun j hj ih hb A T hA hT0 => ?_) (fun hb A T hA hT0 => ?_) _ _ rfl rfl
  · subst hA hT0
    refine zw_iload_2 X dX1_faultPlace_4 ?_
    refine zw_aload_0 X dX1_faultPlace_5 ?_
    refine zw_getI X dX1_faultPlace_6 fl_X1_15 ck_X1 sh_13 rfl ?_
    refine zw_icmpge_f (tgt := 33) X dX1_faultPlace_9 (by decide) ((clN_lt (Nat.le_of_lt hj)).mpr hj) ?_
    refine zw_aload_0 X dX1_faultPlace_12 ?_
    refine zw_iload_1 X dX1_faultPlace_13 ?_
    refine zw_iload_2 X dX1_faultPlace_14 ?_
    refine zw_cV_iii X dX1_faultPlace_15 lk_X1_27 ok_MX1_follow vi_MX1_follow rm_X1_faultPlace_X1_follow sh_13 rfl (Nat.le_of_ble_eq_true rfl) t_X1_follow ?_
    refine zw_istore_1 X dX1_faultPlace_18 ?_
    refine zw_iload_1 X dX1_faultPlace_19 ?_
    refine zw_bipush (v := -6) X dX1_faultPlace_20 bk_m6 ?_
    refine zw_icmpne (tgt := 27) X dX1_faultPlace_22 (by decide) (fun c_22 => ?_) (fun c_22 => ?_)
    · refine zw_iinc_2_p1 X dX1_faultPlace_27 ?_
      refine zw_goto (tgt := 4) X dX1_faultPlace_30 (by decide) ?_
      exact ih (decide_eq_false c_22) _ _ rfl (nI_1 j)
    · refine zw_iload_2 X dX1_faultPlace_25 ?_
      exact zw_iret X F dX1_faultPlace_26 rfl (by rw [pFault, show pFst σ = j from fstB_at (decide_eq_true c_22) hb hj, if_pos hj]) (rfl)
  · subst hA hT0
    have e0 : pFst σ = clN (σ 13 1) := fstB_no hb
    refine zw_iload_2 X dX1_faultPlace_4 ?_
    refine zw_aload_0 X dX1_faultPlace_5 ?_
    refine zw_getI X dX1_faultPlace_6 fl_X1_15 ck_X1 sh_13 rfl ?_
    refine zw_icmpge_t (tgt := 33) X dX1_faultPlace_9 (by decide) (fun h => Nat.lt_irrefl _ ((clN_lt (Nat.le_refl _)).mp h)) ?_
    refine zw_iload_1 X dX1_faultPlace_33 ?_
    refine zw_ifne (tgt := 42) X dX1_faultPlace_34 (by decide) (fun c_34 => ?_) (fun c_34 => ?_)
    · refine zw_aload_0 X dX1_faultPlace_42 ?_
      refine zw_getI X dX1_faultPlace_43 fl_X1_15 ck_X1 sh_13 rfl ?_
      exact zw_iret X F dX1_faultPlace_46 rfl (by first | (simp only [pFault, e0, c_34, decide_true, decide_false, Bool.and_true, Bool.true_and, Bool.and_false, Bool.false_and, Bool.or_true, Bool.true_or, Bool.or_false, Bool.false_or, Bool.not_true, Bool.not_false, if_true, if_false, ite_true, ite_false, Bool.false_eq_true, not_true_eq_false, not_false_eq_true, bI_t, bI_f, decide_eq_true_eq, reduceCtorEq]; done) | (simp [pFault, e0, c_34]; done) | simp_all) (rfl)
    · refine zw_bipush (v := -6) X dX1_faultPlace_37 bk_m6 ?_
      refine zw_goto (tgt := 46) X dX1_faultPlace_39 (by decide) ?_
      exact zw_iret X F dX1_faultPlace_46 rfl (by first | (simp only [pFault, e0, eq_true c_34, decide_true, decide_false, Bool.and_true, Bool.true_and, Bool.and_false, Bool.false_and, Bool.or_true, Bool.true_or, Bool.or_false, Bool.false_or, Bool.not_true, Bool.not_false, if_true, if_false, ite_true, ite_false, Bool.false_eq_true, not_true_eq_false, not_false_eq_true, bI_t, bI_f, decide_eq_true_eq, reduceCtorEq]; done) | (simp [pFault, e0, eq_true c_34]; done) | simp_all) (rfl)
def wBf (n : Int32) : Int32 := if n - 1 < 0 then 0 else n - 1
def sVal (σ : St) (mv wo : Int32) : Int32 := if σ 21 0 = mv then wo - σ 21 1 else -(σ 21 2)
def sLv1 (σ : St) (n : Int32) : St := ups σ 21 0 (if n = 0 then -6 else 1 - rem n 2)
def sLv2 (σ : St) (n : Int32) : St := ups (sLv1 σ n) 21 1 (if n = 0 then -6 else n)
def sLv (σ : St) (n : Int32) : St := ups (sLv2 σ n) 21 2 (wBf n)
def sSt (f s : Int32) (n : Nat) (τ : St) : St := if -(wBf (19 - nI n)) < sVal τ (rem (19 - nI n) 2) (if rem (19 - nI n) 2 = 0 then f else s) then τ else sLv τ (19 - nI n)
def sSet (σ : St) (f s : Int32) : St := itr (sSt f s) 20 (sLv σ 20)
theorem dn_nI (c : Int32) (n : Nat) : c - nI n + (-1) = c - nI (n + 1) := by
  rw [nI_succ, ← Int32.sub_eq_add_neg, Int32.sub_sub]
theorem dn_19 : ∀ n, n < 20 → ¬ (19 : Int32) - nI n < 0 := by decide
theorem dn_5 : ∀ n, n < 6 → ¬ (5 : Int32) - nI n < 0 := by decide
theorem dn_5i : ∀ n, n < 6 → vp_in (5 - nI n) 6 := by
  intro n hn
  have h : ∀ n, n < 6 → (5 : Int32) - nI n = nI (5 - n) := by decide
  rw [h n hn]
  exact vp_in_nI (by omega) (by decide)
set_option maxRecDepth 20000 in
set_option maxHeartbeats 4000000 in
theorem t_X2_moverBehind {σ : St} {n : Int32} : Ct MX2_moverBehind [.int n] σ (some (.int (rem n 2))) (σ) := by
  refine ct_of (ls0 := [some (.int n)]) ok_MX2_moverBehind rfl (Nat.le_of_ble_eq_true rfl) rfl ?_
  intro g X F
  refine zw_iload_0 X dX2_moverBehind_0 ?_
  refine zw_iconst (v := 2) X dX2_moverBehind_1 ik_2 ?_
  refine zw_irem X dX2_moverBehind_2 (by decide) ?_
  exact zw_iret X F dX2_moverBehind_3 rfl (rfl) (rfl)
set_option maxRecDepth 20000 in
set_option maxHeartbeats 4000000 in
theorem t_X2_wordBefore {σ : St} {n : Int32} : Ct MX2_wordBefore [.int n] σ (some (.int (wBf n))) (σ) := by
  refine ct_of (ls0 := [some (.int n)]) ok_MX2_wordBefore rfl (Nat.le_of_ble_eq_true rfl) rfl ?_
  intro g X F
  refine zw_iload_0 X dX2_wordBefore_0 ?_
  refine zw_iconst (v := 1) X dX2_wordBefore_1 ik_1 ?_
  refine zw_isub X dX2_wordBefore_2 ?_
  refine zw_iconst (v := 0) X dX2_wordBefore_3 ik_0 ?_
  refine zw_max X dX2_wordBefore_4 lm_X2_26 ls_max li_math lc_max ⟨Nat.le_of_ble_eq_true rfl, Nat.le_of_ble_eq_true rfl⟩ (Nat.le_of_ble_eq_true rfl) ?_
  exact zw_iret X F dX2_wordBefore_7 rfl (rfl) (rfl)
set_option maxRecDepth 20000 in
set_option maxHeartbeats 4000000 in
theorem t_X2_valueFor {σ : St} {m v : Int32} : Ct MX2_valueFor [.ref 21, .int m, .int v] σ (some (.int (sVal σ m v))) (σ) := by
  refine ct_of (ls0 := [some (.ref 21), some (.int m), some (.int v)]) ok_MX2_valueFor rfl (Nat.le_of_ble_eq_true rfl) rfl ?_
  intro g X F
  refine zw_aload_0 X dX2_valueFor_0 ?_
  refine zw_getI X dX2_valueFor_1 fl_X2_31 ck_X2 sh_21 rfl ?_
  refine zw_iload_1 X dX2_valueFor_4 ?_
  refine zw_icmpne (tgt := 17) X dX2_valueFor_5 (by decide) (fun c_5 => ?_) (fun c_5 => ?_)
  · refine zw_aload_0 X dX2_valueFor_17 ?_
    refine zw_getI X dX2_valueFor_18 fl_X2_38 ck_X2 sh_21 rfl ?_
    refine zw_ineg X dX2_valueFor_21 ?_
    exact zw_iret X F dX2_valueFor_22 rfl (by first | (simp only [sVal, c_5, decide_true, decide_false, Bool.and_true, Bool.true_and, Bool.and_false, Bool.false_and, Bool.or_true, Bool.true_or, Bool.or_false, Bool.false_or, Bool.not_true, Bool.not_false, if_true, if_false, ite_true, ite_false, Bool.false_eq_true, not_true_eq_false, not_false_eq_true, bI_t, bI_f, decide_eq_true_eq, reduceCtorEq]; done) | (simp [sVal, c_5]; done) | simp_all) (rfl)
  · refine zw_iload_2 X dX2_valueFor_8 ?_
    refine zw_aload_0 X dX2_valueFor_9 ?_
    refine zw_getI X dX2_valueFor_10 fl_X2_35 ck_X2 sh_21 rfl ?_
    refine zw_isub X dX2_valueFor_13 ?_
    refine zw_goto (tgt := 22) X dX2_valueFor_14 (by decide) ?_
    exact zw_iret X F dX2_valueFor_22 rfl (by first | (simp only [sVal, eq_true c_5, decide_true, decide_false, Bool.and_true, Bool.true_and, Bool.and_false, Bool.false_and, Bool.or_true, Bool.true_or, Bool.or_false, Bool.false_or, Bool.not_true, Bool.not_false, if_true, if_false, ite_true, ite_false, Bool.false_eq_true, not_true_eq_false, not_false_eq_true, bI_t, bI_f, decide_eq_true_eq, reduceCtorEq]; done) | (simp [sVal, eq_true c_5]; done) | simp_all) (rfl)
set_option maxRecDepth 20000 in
set_option maxHeartbeats 4000000 in
theorem t_X2_leaveOff {σ : St} {n : Int32} : Ct MX2_leaveOff [.ref 21, .int n] σ (none) (sLv σ n) := by
  refine ct_of (ls0 := [some (.ref 21), some (.int n)]) ok_MX2_leaveOff rfl (Nat.le_of_ble_eq_true rfl) rfl ?_
  intro g X F
  refine zw_aload_0 X dX2_leaveOff_0 ?_
  refine zw_iload_1 X dX2_leaveOff_1 ?_
  refine zw_ifne (tgt := 10) X dX2_leaveOff_2 (by decide) (fun c_2 => ?_) (fun c_2 => ?_)
  · refine zw_iconst (v := 1) X dX2_leaveOff_10 ik_1 ?_
    refine zw_iload_1 X dX2_leaveOff_11 ?_
    refine zw_cS_ii X dX2_leaveOff_12 lk_X2_15 ok_MX2_moverBehind st_MX2_moverBehind rm_X2_leaveOff_X2_moverBehind (Nat.le_of_ble_eq_true rfl) t_X2_moverBehind ?_
    refine zw_isub X dX2_leaveOff_15 ?_
    refine zw_put X dX2_leaveOff_16 fl_X2_31 ck_X2 ft_2_0 sh_21 rfl ?_
    refine zw_aload_0 X dX2_leaveOff_19 ?_
    refine zw_iload_1 X dX2_leaveOff_20 ?_
    refine zw_ifne (tgt := 29) X dX2_leaveOff_21 (by decide) (fun c_21 => ?_) (fun c_21 => ?_)
    · refine zw_iload_1 X dX2_leaveOff_29 ?_
      refine zw_put X dX2_leaveOff_30 fl_X2_35 ck_X2 ft_2_1 sh_21 rfl ?_
      refine zw_aload_0 X dX2_leaveOff_33 ?_
      refine zw_iload_1 X dX2_leaveOff_34 ?_
      refine zw_cS_ii X dX2_leaveOff_35 lk_X2_23 ok_MX2_wordBefore st_MX2_wordBefore rm_X2_leaveOff_X2_wordBefore (Nat.le_of_ble_eq_true rfl) t_X2_wordBefore ?_
      refine zw_put X dX2_leaveOff_38 fl_X2_38 ck_X2 ft_2_2 sh_21 rfl ?_
      exact zw_vret X F dX2_leaveOff_41 rfl (by first | (simp only [sLv, sLv2, sLv1, c_2, c_21, decide_true, decide_false, Bool.and_true, Bool.true_and, Bool.and_false, Bool.false_and, Bool.or_true, Bool.true_or, Bool.or_false, Bool.false_or, Bool.not_true, Bool.not_false, if_true, if_false, ite_true, ite_false, Bool.false_eq_true, not_true_eq_false, not_false_eq_true, bI_t, bI_f, decide_eq_true_eq, reduceCtorEq]; done) | (simp [sLv, sLv2, sLv1, c_2, c_21]; done) | simp_all)
    · refine zw_bipush (v := -6) X dX2_leaveOff_24 bk_m6 ?_
      refine zw_goto (tgt := 30) X dX2_leaveOff_26 (by decide) ?_
      refine zw_put X dX2_leaveOff_30 fl_X2_35 ck_X2 ft_2_1 sh_21 rfl ?_
      refine zw_aload_0 X dX2_leaveOff_33 ?_
      refine zw_iload_1 X dX2_leaveOff_34 ?_
      refine zw_cS_ii X dX2_leaveOff_35 lk_X2_23 ok_MX2_wordBefore st_MX2_wordBefore rm_X2_leaveOff_X2_wordBefore (Nat.le_of_ble_eq_true rfl) t_X2_wordBefore ?_
      refine zw_put X dX2_leaveOff_38 fl_X2_38 ck_X2 ft_2_2 sh_21 rfl ?_
      exact zw_vret X F dX2_leaveOff_41 rfl (by first | (simp only [sLv, sLv2, sLv1, c_2, eq_true c_21, decide_true, decide_false, Bool.and_true, Bool.true_and, Bool.and_false, Bool.false_and, Bool.or_true, Bool.true_or, Bool.or_false, Bool.false_or, Bool.not_true, Bool.not_false, if_true, if_false, ite_true, ite_false, Bool.false_eq_true, not_true_eq_false, not_false_eq_true, bI_t, bI_f, decide_eq_true_eq, reduceCtorEq]; done) | (simp [sLv, sLv2, sLv1, c_2, eq_true c_21]; done) | simp_all)
  · refine zw_bipush (v := -6) X dX2_leaveOff_5 bk_m6 ?_
    refine zw_goto (tgt := 16) X dX2_leaveOff_7 (by decide) ?_
    refine zw_put X dX2_leaveOff_16 fl_X2_31 ck_X2 ft_2_0 sh_21 rfl ?_
    refine zw_aload_0 X dX2_leaveOff_19 ?_
    refine zw_iload_1 X dX2_leaveOff_20 ?_
    refine zw_ifne (tgt := 29) X dX2_leaveOff_21 (by decide) (fun c_21 => ?_) (fun c_21 => ?_)
    · refine zw_iload_1 X dX2_leaveOff_29 ?_
      refine zw_put X dX2_leaveOff_30 fl_X2_35 ck_X2 ft_2_1 sh_21 rfl ?_
      refine zw_aload_0 X dX2_leaveOff_33 ?_
      refine zw_iload_1 X dX2_leaveOff_34 ?_
      refine zw_cS_ii X dX2_leaveOff_35 lk_X2_23 ok_MX2_wordBefore st_MX2_wordBefore rm_X2_leaveOff_X2_wordBefore (Nat.le_of_ble_eq_true rfl) t_X2_wordBefore ?_
      refine zw_put X dX2_leaveOff_38 fl_X2_38 ck_X2 ft_2_2 sh_21 rfl ?_
      exact zw_vret X F dX2_leaveOff_41 rfl (by first | (simp only [sLv, sLv2, sLv1, eq_true c_2, c_21, decide_true, decide_false, Bool.and_true, Bool.true_and, Bool.and_false, Bool.false_and, Bool.or_true, Bool.true_or, Bool.or_false, Bool.false_or, Bool.not_true, Bool.not_false, if_true, if_false, ite_true, ite_false, Bool.false_eq_true, not_true_eq_false, not_false_eq_true, bI_t, bI_f, decide_eq_true_eq, reduceCtorEq]; done) | (simp [sLv, sLv2, sLv1, eq_true c_2, c_21]; done) | simp_all)
    · refine zw_bipush (v := -6) X dX2_leaveOff_24 bk_m6 ?_
      refine zw_goto (tgt := 30) X dX2_leaveOff_26 (by decide) ?_
      refine zw_put X dX2_leaveOff_30 fl_X2_35 ck_X2 ft_2_1 sh_21 rfl ?_
      refine zw_aload_0 X dX2_leaveOff_33 ?_
      refine zw_iload_1 X dX2_leaveOff_34 ?_
      refine zw_cS_ii X dX2_leaveOff_35 lk_X2_23 ok_MX2_wordBefore st_MX2_wordBefore rm_X2_leaveOff_X2_wordBefore (Nat.le_of_ble_eq_true rfl) t_X2_wordBefore ?_
      refine zw_put X dX2_leaveOff_38 fl_X2_38 ck_X2 ft_2_2 sh_21 rfl ?_
      exact zw_vret X F dX2_leaveOff_41 rfl (by first | (simp only [sLv, sLv2, sLv1, eq_true c_2, eq_true c_21, decide_true, decide_false, Bool.and_true, Bool.true_and, Bool.and_false, Bool.false_and, Bool.or_true, Bool.true_or, Bool.or_false, Bool.false_or, Bool.not_true, Bool.not_false, if_true, if_false, ite_true, ite_false, Bool.false_eq_true, not_true_eq_false, not_false_eq_true, bI_t, bI_f, decide_eq_true_eq, reduceCtorEq]; done) | (simp [sLv, sLv2, sLv1, eq_true c_2, eq_true c_21]; done) | simp_all)
set_option maxRecDepth 20000 in
set_option maxHeartbeats 4000000 in
theorem t_X2_settle {σ : St} {f s : Int32} : Ct MX2_settle [.ref 21, .int f, .int s] σ (none) (sSet σ f s) := by
  refine ct_of (ls0 := [some (.ref 21), some (.int f), some (.int s), none, none, none]) ok_MX2_settle rfl (Nat.le_of_ble_eq_true rfl) rfl ?_
  intro g X F
  refine zw_aload_0 X dX2_settle_0 ?_
  refine zw_bipush (v := 20) X dX2_settle_1 bk_20 ?_
  refine zw_cV_iv X dX2_settle_3 lk_X2_11 ok_MX2_leaveOff vi_MX2_leaveOff rm_X2_settle_X2_leaveOff sh_21 rfl (Nat.le_of_ble_eq_true rfl) t_X2_leaveOff ?_
  refine zw_bipush (v := 19) X dX2_settle_6 bk_19 ?_
  refine zw_istore_3 X dX2_settle_8 ?_
  refine zw_fg_4 ?_
  refine zw_fg_5 ?_
  refine zloop (α := St) (S := fun n a => ∀ (s9 : St) (v9_3 : Int32), s9 = a → v9_3 = 19 - nI n → ZW g 9 [some (.ref 21), some (.int f), some (.int s), some (.int v9_3), none, none] [] s9) (N := 20) (f := (sSt f s)) (a0 := (sLv σ 20)) (fun n9 a9 hn9 ha9 ih9 s9 v9_3 hs9 hv9_3 => ?_) (fun a9 ha9 s9 v9_3 hs9 hv9_3 => ?_) _ _ rfl rfl
  · subst hs9 hv9_3
    refine zw_iload_3 X dX2_settle_9 ?_
    refine zw_iflt_f (tgt := 58) X dX2_settle_10 (by decide) (dn_19 _ hn9) ?_
    refine zw_iload_3 X dX2_settle_13 ?_
    refine zw_cS_ii X dX2_settle_14 lk_X2_15 ok_MX2_moverBehind st_MX2_moverBehind rm_X2_settle_X2_moverBehind (Nat.le_of_ble_eq_true rfl) t_X2_moverBehind ?_
    refine zw_istore_4 X dX2_settle_17 ?_
    refine zw_aload_0 X dX2_settle_19 ?_
    refine zw_iload_4 X dX2_settle_20 ?_
    refine zw_iload_4 X dX2_settle_22 ?_
    refine zw_ifne (tgt := 31) X dX2_settle_24 (by decide) (fun c_24 => ?_) (fun c_24 => ?_)
    · refine zw_iload_2 X dX2_settle_31 ?_
      refine zw_cV_iii X dX2_settle_32 lk_X2_19 ok_MX2_valueFor vi_MX2_valueFor rm_X2_settle_X2_valueFor sh_21 rfl (Nat.le_of_ble_eq_true rfl) t_X2_valueFor ?_
      refine zw_istore_5 X dX2_settle_35 ?_
      refine zw_iload_5 X dX2_settle_37 ?_
      refine zw_iload_3 X dX2_settle_39 ?_
      refine zw_cS_ii X dX2_settle_40 lk_X2_23 ok_MX2_wordBefore st_MX2_wordBefore rm_X2_settle_X2_wordBefore (Nat.le_of_ble_eq_true rfl) t_X2_wordBefore ?_
      refine zw_ineg X dX2_settle_43 ?_
      refine zw_icmpgt (tgt := 52) X dX2_settle_44 (by decide) (fun c_44 => ?_) (fun c_44 => ?_)
      · refine zw_iinc_3_m1 X dX2_settle_52 ?_
        refine zw_goto (tgt := 9) X dX2_settle_55 (by decide) ?_
        refine zw_fg_4 ?_
        refine zw_fg_5 ?_
        exact ih9 _ _ (by first | (simp only [sSt, c_24, c_44, decide_true, decide_false, Bool.and_true, Bool.true_and, Bool.and_false, Bool.false_and, Bool.or_true, Bool.true_or, Bool.or_false, Bool.false_or, Bool.not_true, Bool.not_false, if_true, if_false, ite_true, ite_false, Bool.false_eq_true, not_true_eq_false, not_false_eq_true, bI_t, bI_f, decide_eq_true_eq, reduceCtorEq]; done) | (simp [sSt, c_24, c_44]; done) | simp_all) (dn_nI 19 n9)
      · refine zw_aload_0 X dX2_settle_47 ?_
        refine zw_iload_3 X dX2_settle_48 ?_
        refine zw_cV_iv X dX2_settle_49 lk_X2_11 ok_MX2_leaveOff vi_MX2_leaveOff rm_X2_settle_X2_leaveOff sh_21 rfl (Nat.le_of_ble_eq_true rfl) t_X2_leaveOff ?_
        refine zw_iinc_3_m1 X dX2_settle_52 ?_
        refine zw_goto (tgt := 9) X dX2_settle_55 (by decide) ?_
        refine zw_fg_4 ?_
        refine zw_fg_5 ?_
        exact ih9 _ _ (by first | (simp only [sSt, c_24, c_44, decide_true, decide_false, Bool.and_true, Bool.true_and, Bool.and_false, Bool.false_and, Bool.or_true, Bool.true_or, Bool.or_false, Bool.false_or, Bool.not_true, Bool.not_false, if_true, if_false, ite_true, ite_false, Bool.false_eq_true, not_true_eq_false, not_false_eq_true, bI_t, bI_f, decide_eq_true_eq, reduceCtorEq]; done) | (simp [sSt, c_24, c_44]; done) | simp_all) (dn_nI 19 n9)
    · refine zw_iload_1 X dX2_settle_27 ?_
      refine zw_goto (tgt := 32) X dX2_settle_28 (by decide) ?_
      refine zw_cV_iii X dX2_settle_32 lk_X2_19 ok_MX2_valueFor vi_MX2_valueFor rm_X2_settle_X2_valueFor sh_21 rfl (Nat.le_of_ble_eq_true rfl) t_X2_valueFor ?_
      refine zw_istore_5 X dX2_settle_35 ?_
      refine zw_iload_5 X dX2_settle_37 ?_
      refine zw_iload_3 X dX2_settle_39 ?_
      refine zw_cS_ii X dX2_settle_40 lk_X2_23 ok_MX2_wordBefore st_MX2_wordBefore rm_X2_settle_X2_wordBefore (Nat.le_of_ble_eq_true rfl) t_X2_wordBefore ?_
      refine zw_ineg X dX2_settle_43 ?_
      refine zw_icmpgt (tgt := 52) X dX2_settle_44 (by decide) (fun c_44 => ?_) (fun c_44 => ?_)
      · refine zw_iinc_3_m1 X dX2_settle_52 ?_
        refine zw_goto (tgt := 9) X dX2_settle_55 (by decide) ?_
        refine zw_fg_4 ?_
        refine zw_fg_5 ?_
        exact ih9 _ _ (by first | (simp only [sSt, eq_true c_24, c_44, decide_true, decide_false, Bool.and_true, Bool.true_and, Bool.and_false, Bool.false_and, Bool.or_true, Bool.true_or, Bool.or_false, Bool.false_or, Bool.not_true, Bool.not_false, if_true, if_false, ite_true, ite_false, Bool.false_eq_true, not_true_eq_false, not_false_eq_true, bI_t, bI_f, decide_eq_true_eq, reduceCtorEq]; done) | (simp [sSt, eq_true c_24, c_44]; done) | simp_all) (dn_nI 19 n9)
      · refine zw_aload_0 X dX2_settle_47 ?_
        refine zw_iload_3 X dX2_settle_48 ?_
        refine zw_cV_iv X dX2_settle_49 lk_X2_11 ok_MX2_leaveOff vi_MX2_leaveOff rm_X2_settle_X2_leaveOff sh_21 rfl (Nat.le_of_ble_eq_true rfl) t_X2_leaveOff ?_
        refine zw_iinc_3_m1 X dX2_settle_52 ?_
        refine zw_goto (tgt := 9) X dX2_settle_55 (by decide) ?_
        refine zw_fg_4 ?_
        refine zw_fg_5 ?_
        exact ih9 _ _ (by first | (simp only [sSt, eq_true c_24, c_44, decide_true, decide_false, Bool.and_true, Bool.true_and, Bool.and_false, Bool.false_and, Bool.or_true, Bool.true_or, Bool.or_false, Bool.false_or, Bool.not_true, Bool.not_false, if_true, if_false, ite_true, ite_false, Bool.false_eq_true, not_true_eq_false, not_false_eq_true, bI_t, bI_f, decide_eq_true_eq, reduceCtorEq]; done) | (simp [sSt, eq_true c_24, c_44]; done) | simp_all) (dn_nI 19 n9)
  · subst hs9 hv9_3
    refine zw_iload_3 X dX2_settle_9 ?_
    refine zw_iflt_t (tgt := 58) X dX2_settle_10 (by decide) (by decide) ?_
    exact zw_vret X F dX2_settle_58 rfl (ha9)
def sRid (σ : St) (t : Int32) : Bool := !decide (σ 19 2 &&& ((1 : Int32) <<< (t &&& 31)) = 0)
def sAll (σ : St) : Int32 := itr (fun n a => a * (if sRid σ (nI n) then 3 else 1)) 6 1
def sSp (n : Nat) (a : Int32 × St) : Int32 × St := if sRid a.2 (5 - nI n) then (a.1 / 3, ups a.2 20 (ix (5 - nI n)) (rem a.1 3)) else (a.1, ups a.2 20 (ix (5 - nI n)) 3)
def sSpr (σ : St) (c : Int32) : St := (itr sSp 6 (c, σ)).2
def sNum (σ : St) : Int32 := itr (fun n a => 10 * a + σ 20 n) 6 0
/-- over the twos: one, the other -/
def twoI (P : Nat → Nat → Bool) (i j : Nat) (a : Int32 × Int32) : Int32 × Int32 := (a.1 ||| (if P i (i + 1 + j) then a.2 else 0), a.2 <<< ((1 : Int32) &&& 31))
def twoO (P : Nat → Nat → Bool) (i : Nat) (a : Int32 × Int32) : Int32 × Int32 := itr (twoI P i) (5 - i) a
def twos (P : Nat → Nat → Bool) : Int32 := (itr (twoO P) 6 (0, 1)).1
def sTwo (σ : St) : Int32 := twos (fun i j => decide (σ 20 i = σ 20 j))
def sMeet (σ : St) (k : Nat) : Int32 := twos (fun i j => ttog σ k (nI i) (nI j))
def sC1 (τ : St) (c : Nat) : St := sSpr τ (nI c)
def sC2 (τ : St) (c : Nat) : St := ups (sC1 τ c) 19 1 (if sC1 τ c 19 0 = 0 then sNum (sC1 τ c) else sC1 τ c 19 1)
def sC3 (τ : St) (c : Nat) : St := ups (sC2 τ c) 19 0 (sC2 τ c 19 0 + 1)
def sCst (ne to : Int32) (c : Nat) (τ : St) : St := if decide (sTwo (sC1 τ c) &&& ne = 0) && decide (to &&& (sTwo (sC1 τ c) ^^^ (-1)) = 0) then sC3 τ c else sC1 τ c
def sB1 (σ : St) : St := ups (ups σ 19 0 0) 19 1 (-6)
def sB (σ : St) : St := ups (sB1 σ) 19 2 (trol (sB1 σ) 1)
def sCnt (σ : St) (ap to : Int32) : St := if to &&& (sMeet (sB σ) 1 ^^^ (-1)) = 0 then itr (sCst (ap &&& sMeet (sB σ) 1) to) (clN (sAll (sB σ))) (sB σ) else sB σ
set_option maxRecDepth 20000 in
set_option maxHeartbeats 4000000 in
theorem t_X3_isRider {σ : St} {t : Int32} : Ct MX3_isRider [.ref 19, .int t] σ (some (.int (bI (sRid σ t)))) (σ) := by
  refine ct_of (ls0 := [some (.ref 19), some (.int t)]) ok_MX3_isRider rfl (Nat.le_of_ble_eq_true rfl) rfl ?_
  intro g X F
  refine zw_aload_0 X dX3_isRider_0 ?_
  refine zw_getI X dX3_isRider_1 fl_X3_28 ck_X3 sh_19 rfl ?_
  refine zw_iconst (v := 1) X dX3_isRider_4 ik_1 ?_
  refine zw_iload_1 X dX3_isRider_5 ?_
  refine zw_ishl X dX3_isRider_6 ?_
  refine zw_iand X dX3_isRider_7 ?_
  refine zw_ifeq (tgt := 15) X dX3_isRider_8 (by decide) (fun c_8 => ?_) (fun c_8 => ?_)
  · refine zw_iconst (v := 0) X dX3_isRider_15 ik_0 ?_
    exact zw_zret X F dX3_isRider_16 rfl (by first | (simp only [sRid, bI_0', bI_1', bI_0, bI_1, bI_inj, eq_true c_8, decide_true, decide_false, Bool.and_true, Bool.true_and, Bool.and_false, Bool.false_and, Bool.or_true, Bool.true_or, Bool.or_false, Bool.false_or, Bool.not_true, Bool.not_false, if_true, if_false, ite_true, ite_false, Bool.false_eq_true, not_true_eq_false, not_false_eq_true, bI_t, bI_f, decide_eq_true_eq, reduceCtorEq]; done) | (simp [sRid, bI_0', bI_1', bI_0, bI_1, bI_inj, eq_true c_8]; done) | simp_all) (rfl)
  · refine zw_iconst (v := 1) X dX3_isRider_11 ik_1 ?_
    refine zw_goto (tgt := 16) X dX3_isRider_12 (by decide) ?_
    exact zw_zret X F dX3_isRider_16 rfl (by first | (simp only [sRid, bI_0', bI_1', bI_0, bI_1, bI_inj, c_8, decide_true, decide_false, Bool.and_true, Bool.true_and, Bool.and_false, Bool.false_and, Bool.or_true, Bool.true_or, Bool.or_false, Bool.false_or, Bool.not_true, Bool.not_false, if_true, if_false, ite_true, ite_false, Bool.false_eq_true, not_true_eq_false, not_false_eq_true, bI_t, bI_f, decide_eq_true_eq, reduceCtorEq]; done) | (simp [sRid, bI_0', bI_1', bI_0, bI_1, bI_inj, c_8]; done) | simp_all) (rfl)
set_option maxRecDepth 20000 in
set_option maxHeartbeats 4000000 in
theorem t_X3_waysInAll {σ : St} : Ct MX3_waysInAll [.ref 19] σ (some (.int (sAll σ))) (σ) := by
  refine ct_of (ls0 := [some (.ref 19), none, none]) ok_MX3_waysInAll rfl (Nat.le_of_ble_eq_true rfl) rfl ?_
  intro g X F
  refine zw_iconst (v := 1) X dX3_waysInAll_0 ik_1 ?_
  refine zw_istore_1 X dX3_waysInAll_1 ?_
  refine zw_iconst (v := 0) X dX3_waysInAll_2 ik_0 ?_
  refine zw_istore_2 X dX3_waysInAll_3 ?_
  refine zloop (α := Int32) (S := fun n a => ∀ (v4_1 : Int32) (v4_2 : Int32), v4_1 = a → v4_2 = nI n → ZW g 4 [some (.ref 19), some (.int v4_1), some (.int v4_2)] [] σ) (N := 6) (f := (fun n a => a * (if sRid σ (nI n) then 3 else 1))) (a0 := (1 : Int32)) (fun n4 a4 hn4 ha4 ih4 v4_1 v4_2 hv4_1 hv4_2 => ?_) (fun a4 ha4 v4_1 v4_2 hv4_1 hv4_2 => ?_) _ _ rfl rfl
  · subst hv4_1 hv4_2
    refine zw_iload_2 X dX3_waysInAll_4 ?_
    refine zw_bipush (v := 6) X dX3_waysInAll_5 bk_6 ?_
    refine zw_icmpge_f (tgt := 32) X dX3_waysInAll_7 (by decide) (nI_lt hn4 (by decide)) ?_
    refine zw_iload_1 X dX3_waysInAll_10 ?_
    refine zw_aload_0 X dX3_waysInAll_11 ?_
    refine zw_iload_2 X dX3_waysInAll_12 ?_
    refine zw_cV_ii X dX3_waysInAll_13 lk_X3_48 ok_MX3_isRider vi_MX3_isRider rm_X3_waysInAll_X3_isRider sh_19 rfl (Nat.le_of_ble_eq_true rfl) t_X3_isRider ?_
    refine zw_ifeqB (tgt := 23) X dX3_waysInAll_16 (by decide) (fun c_16 => ?_) (fun c_16 => ?_)
    · refine zw_iconst (v := 1) X dX3_waysInAll_23 ik_1 ?_
      refine zw_imul X dX3_waysInAll_24 ?_
      refine zw_istore_1 X dX3_waysInAll_25 ?_
      refine zw_iinc_2_p1 X dX3_waysInAll_26 ?_
      refine zw_goto (tgt := 4) X dX3_waysInAll_29 (by decide) ?_
      exact ih4 _ _ (by first | (simp only [c_16, decide_true, decide_false, Bool.and_true, Bool.true_and, Bool.and_false, Bool.false_and, Bool.or_true, Bool.true_or, Bool.or_false, Bool.false_or, Bool.not_true, Bool.not_false, if_true, if_false, ite_true, ite_false, Bool.false_eq_true, not_true_eq_false, not_false_eq_true, bI_t, bI_f, decide_eq_true_eq, reduceCtorEq]; done) | (simp [c_16]; done) | simp_all) (nI_1 n4)
    · refine zw_iconst (v := 3) X dX3_waysInAll_19 ik_3 ?_
      refine zw_goto (tgt := 24) X dX3_waysInAll_20 (by decide) ?_
      refine zw_imul X dX3_waysInAll_24 ?_
      refine zw_istore_1 X dX3_waysInAll_25 ?_
      refine zw_iinc_2_p1 X dX3_waysInAll_26 ?_
      refine zw_goto (tgt := 4) X dX3_waysInAll_29 (by decide) ?_
      exact ih4 _ _ (by first | (simp only [c_16, decide_true, decide_false, Bool.and_true, Bool.true_and, Bool.and_false, Bool.false_and, Bool.or_true, Bool.true_or, Bool.or_false, Bool.false_or, Bool.not_true, Bool.not_false, if_true, if_false, ite_true, ite_false, Bool.false_eq_true, not_true_eq_false, not_false_eq_true, bI_t, bI_f, decide_eq_true_eq, reduceCtorEq]; done) | (simp [c_16]; done) | simp_all) (nI_1 n4)
  · subst hv4_1 hv4_2
    refine zw_iload_2 X dX3_waysInAll_4 ?_
    refine zw_bipush (v := 6) X dX3_waysInAll_5 bk_6 ?_
    refine zw_icmpge_t (tgt := 32) X dX3_waysInAll_7 (by decide) (by decide) ?_
    refine zw_iload_1 X dX3_waysInAll_32 ?_
    exact zw_iret X F dX3_waysInAll_33 rfl (by first | (simp only [sAll, ha4, decide_true, decide_false, Bool.and_true, Bool.true_and, Bool.and_false, Bool.false_and, Bool.or_true, Bool.true_or, Bool.or_false, Bool.false_or, Bool.not_true, Bool.not_false, if_true, if_false, ite_true, ite_false, Bool.false_eq_true, not_true_eq_false, not_false_eq_true, bI_t, bI_f, decide_eq_true_eq, reduceCtorEq]; done) | (simp [sAll, ha4]; done) | simp_all) (rfl)
set_option maxRecDepth 20000 in
set_option maxHeartbeats 4000000 in
theorem t_X3_spread {σ : St} {c : Int32} : Ct MX3_spread [.ref 19, .int c] σ (none) (sSpr σ c) := by
  refine ct_of (ls0 := [some (.ref 19), some (.int c), none, none]) ok_MX3_spread rfl (Nat.le_of_ble_eq_true rfl) rfl ?_
  intro g X F
  refine zw_iload_1 X dX3_spread_0 ?_
  refine zw_istore_2 X dX3_spread_1 ?_
  refine zw_iconst (v := 5) X dX3_spread_2 ik_5 ?_
  refine zw_istore_3 X dX3_spread_3 ?_
  refine zloop (α := Int32 × St) (S := fun n a => ∀ (v4_2 : Int32) (s4 : St) (v4_3 : Int32), v4_2 = a.1 → s4 = a.2 → v4_3 = 5 - nI n → ZW g 4 [some (.ref 19), some (.int c), some (.int v4_2), some (.int v4_3)] [] s4) (N := 6) (f := sSp) (a0 := ((c, σ) : Int32 × St)) (fun n4 a4 hn4 ha4 ih4 v4_2 s4 v4_3 hv4_2 hs4 hv4_3 => ?_) (fun a4 ha4 v4_2 s4 v4_3 hv4_2 hs4 hv4_3 => ?_) _ _ _ rfl rfl rfl
  · subst hv4_2 hs4 hv4_3
    refine zw_iload_3 X dX3_spread_4 ?_
    refine zw_iflt_f (tgt := 45) X dX3_spread_5 (by decide) (dn_5 _ hn4) ?_
    refine zw_aload_0 X dX3_spread_8 ?_
    refine zw_iload_3 X dX3_spread_9 ?_
    refine zw_cV_ii X dX3_spread_10 lk_X3_48 ok_MX3_isRider vi_MX3_isRider rm_X3_spread_X3_isRider sh_19 rfl (Nat.le_of_ble_eq_true rfl) t_X3_isRider ?_
    refine zw_ifeqB (tgt := 32) X dX3_spread_13 (by decide) (fun c_13 => ?_) (fun c_13 => ?_)
    · refine zw_aload_0 X dX3_spread_32 ?_
      refine zw_getR X dX3_spread_33 fl_X3_9 ck_X3 sh_19 rfl ?_
      refine zw_iload_3 X dX3_spread_36 ?_
      refine zw_iconst (v := 3) X dX3_spread_37 ik_3 ?_
      refine zw_iast X dX3_spread_38 sh_20 (dn_5i _ hn4) ?_
      refine zw_iinc_3_m1 X dX3_spread_39 ?_
      refine zw_goto (tgt := 4) X dX3_spread_42 (by decide) ?_
      exact ih4 _ _ _ (by first | (simp only [sSp, rem, c_13, decide_true, decide_false, Bool.and_true, Bool.true_and, Bool.and_false, Bool.false_and, Bool.or_true, Bool.true_or, Bool.or_false, Bool.false_or, Bool.not_true, Bool.not_false, if_true, if_false, ite_true, ite_false, Bool.false_eq_true, not_true_eq_false, not_false_eq_true, bI_t, bI_f, decide_eq_true_eq, reduceCtorEq]; done) | (simp [sSp, rem, c_13]; done) | simp_all) (by first | (simp only [sSp, rem, c_13, decide_true, decide_false, Bool.and_true, Bool.true_and, Bool.and_false, Bool.false_and, Bool.or_true, Bool.true_or, Bool.or_false, Bool.false_or, Bool.not_true, Bool.not_false, if_true, if_false, ite_true, ite_false, Bool.false_eq_true, not_true_eq_false, not_false_eq_true, bI_t, bI_f, decide_eq_true_eq, reduceCtorEq]; done) | (simp [sSp, rem, c_13]; done) | simp_all) (dn_nI 5 n4)
    · refine zw_aload_0 X dX3_spread_16 ?_
      refine zw_getR X dX3_spread_17 fl_X3_9 ck_X3 sh_19 rfl ?_
      refine zw_iload_3 X dX3_spread_20 ?_
      refine zw_iload_2 X dX3_spread_21 ?_
      refine zw_iconst (v := 3) X dX3_spread_22 ik_3 ?_
      refine zw_irem X dX3_spread_23 (by decide) ?_
      refine zw_iast X dX3_spread_24 sh_20 (dn_5i _ hn4) ?_
      refine zw_iload_2 X dX3_spread_25 ?_
      refine zw_iconst (v := 3) X dX3_spread_26 ik_3 ?_
      refine zw_idiv X dX3_spread_27 (by decide) ?_
      refine zw_istore_2 X dX3_spread_28 ?_
      refine zw_goto (tgt := 39) X dX3_spread_29 (by decide) ?_
      refine zw_iinc_3_m1 X dX3_spread_39 ?_
      refine zw_goto (tgt := 4) X dX3_spread_42 (by decide) ?_
      exact ih4 _ _ _ (by first | (simp only [sSp, rem, c_13, decide_true, decide_false, Bool.and_true, Bool.true_and, Bool.and_false, Bool.false_and, Bool.or_true, Bool.true_or, Bool.or_false, Bool.false_or, Bool.not_true, Bool.not_false, if_true, if_false, ite_true, ite_false, Bool.false_eq_true, not_true_eq_false, not_false_eq_true, bI_t, bI_f, decide_eq_true_eq, reduceCtorEq]; done) | (simp [sSp, rem, c_13]; done) | simp_all) (by first | (simp only [sSp, rem, c_13, decide_true, decide_false, Bool.and_true, Bool.true_and, Bool.and_false, Bool.false_and, Bool.or_true, Bool.true_or, Bool.or_false, Bool.false_or, Bool.not_true, Bool.not_false, if_true, if_false, ite_true, ite_false, Bool.false_eq_true, not_true_eq_false, not_false_eq_true, bI_t, bI_f, decide_eq_true_eq, reduceCtorEq]; done) | (simp [sSp, rem, c_13]; done) | simp_all) (dn_nI 5 n4)
  · subst hv4_2 hs4 hv4_3
    refine zw_iload_3 X dX3_spread_4 ?_
    refine zw_iflt_t (tgt := 45) X dX3_spread_5 (by decide) (by decide) ?_
    exact zw_vret X F dX3_spread_45 rfl (by rw [sSpr, ← ha4])
set_option maxRecDepth 20000 in
set_option maxHeartbeats 4000000 in
theorem t_X3_digitsAsNumber {σ : St} : Ct MX3_digitsAsNumber [.ref 19] σ (some (.int (sNum σ))) (σ) := by
  refine ct_of (ls0 := [some (.ref 19), none, none]) ok_MX3_digitsAsNumber rfl (Nat.le_of_ble_eq_true rfl) rfl ?_
  intro g X F
  refine zw_iconst (v := 0) X dX3_digitsAsNumber_0 ik_0 ?_
  refine zw_istore_1 X dX3_digitsAsNumber_1 ?_
  refine zw_iconst (v := 0) X dX3_digitsAsNumber_2 ik_0 ?_
  refine zw_istore_2 X dX3_digitsAsNumber_3 ?_
  refine zloop (α := Int32) (S := fun n a => ∀ (v4_1 : Int32) (v4_2 : Int32), v4_1 = a → v4_2 = nI n → ZW g 4 [some (.ref 19), some (.int v4_1), some (.int v4_2)] [] σ) (N := 6) (f := (fun n a => 10 * a + σ 20 n)) (a0 := (0 : Int32)) (fun n4 a4 hn4 ha4 ih4 v4_1 v4_2 hv4_1 hv4_2 => ?_) (fun a4 ha4 v4_1 v4_2 hv4_1 hv4_2 => ?_) _ _ rfl rfl
  · subst hv4_1 hv4_2
    refine zw_iload_2 X dX3_digitsAsNumber_4 ?_
    refine zw_bipush (v := 6) X dX3_digitsAsNumber_5 bk_6 ?_
    refine zw_icmpge_f (tgt := 28) X dX3_digitsAsNumber_7 (by decide) (nI_lt hn4 (by decide)) ?_
    refine zw_bipush (v := 10) X dX3_digitsAsNumber_10 bk_10 ?_
    refine zw_iload_1 X dX3_digitsAsNumber_12 ?_
    refine zw_imul X dX3_digitsAsNumber_13 ?_
    refine zw_aload_0 X dX3_digitsAsNumber_14 ?_
    refine zw_getR X dX3_digitsAsNumber_15 fl_X3_9 ck_X3 sh_19 rfl ?_
    refine zw_iload_2 X dX3_digitsAsNumber_18 ?_
    refine zw_ialdN X dX3_digitsAsNumber_19 sh_20 hn4 (by decide) ?_
    refine zw_iadd X dX3_digitsAsNumber_20 ?_
    refine zw_istore_1 X dX3_digitsAsNumber_21 ?_
    refine zw_iinc_2_p1 X dX3_digitsAsNumber_22 ?_
    refine zw_goto (tgt := 4) X dX3_digitsAsNumber_25 (by decide) ?_
    exact ih4 _ _ (by first | rfl | (simp only [decide_true, decide_false, Bool.and_true, Bool.true_and, Bool.and_false, Bool.false_and, Bool.or_true, Bool.true_or, Bool.or_false, Bool.false_or, Bool.not_true, Bool.not_false, if_true, if_false, ite_true, ite_false, Bool.false_eq_true, not_true_eq_false, not_false_eq_true, bI_t, bI_f, decide_eq_true_eq, reduceCtorEq]; done) | (simp; done) | simp_all) (nI_1 n4)
  · subst hv4_1 hv4_2
    refine zw_iload_2 X dX3_digitsAsNumber_4 ?_
    refine zw_bipush (v := 6) X dX3_digitsAsNumber_5 bk_6 ?_
    refine zw_icmpge_t (tgt := 28) X dX3_digitsAsNumber_7 (by decide) (by decide) ?_
    refine zw_iload_1 X dX3_digitsAsNumber_28 ?_
    exact zw_iret X F dX3_digitsAsNumber_29 rfl (by first | (simp only [sNum, ha4, decide_true, decide_false, Bool.and_true, Bool.true_and, Bool.and_false, Bool.false_and, Bool.or_true, Bool.true_or, Bool.or_false, Bool.false_or, Bool.not_true, Bool.not_false, if_true, if_false, ite_true, ite_false, Bool.false_eq_true, not_true_eq_false, not_false_eq_true, bI_t, bI_f, decide_eq_true_eq, reduceCtorEq]; done) | (simp [sNum, ha4]; done) | simp_all) (rfl)
set_option maxRecDepth 20000 in
set_option maxHeartbeats 4000000 in
theorem t_X3_twosInOneCompartment {σ : St} : Ct MX3_twosInOneCompartment [.ref 19] σ (some (.int (sTwo σ))) (σ) := by
  refine ct_of (ls0 := [some (.ref 19), none, none, none, none]) ok_MX3_twosInOneCompartment rfl (Nat.le_of_ble_eq_true rfl) rfl ?_
  intro g X F
  refine zw_iconst (v := 0) X dX3_twosInOneCompartment_0 ik_0 ?_
  refine zw_istore_1 X dX3_twosInOneCompartment_1 ?_
  refine zw_iconst (v := 1) X dX3_twosInOneCompartment_2 ik_1 ?_
  refine zw_istore_2 X dX3_twosInOneCompartment_3 ?_
  refine zw_iconst (v := 0) X dX3_twosInOneCompartment_4 ik_0 ?_
  refine zw_istore_3 X dX3_twosInOneCompartment_5 ?_
  refine zw_fg_4 ?_
  refine zloop (α := Int32 × Int32) (S := fun n a => ∀ (v6_1 : Int32) (v6_2 : Int32) (v6_3 : Int32), v6_1 = a.1 → v6_2 = a.2 → v6_3 = nI n → ZW g 6 [some (.ref 19), some (.int v6_1), some (.int v6_2), some (.int v6_3), none] [] σ) (N := 6) (f := (twoO (fun i j => decide (σ 20 i = σ 20 j)))) (a0 := ((0, 1) : Int32 × Int32)) (fun n6 a6 hn6 ha6 ih6 v6_1 v6_2 v6_3 hv6_1 hv6_2 hv6_3 => ?_) (fun a6 ha6 v6_1 v6_2 v6_3 hv6_1 hv6_2 hv6_3 => ?_) _ _ _ rfl rfl rfl
  · subst hv6_1 hv6_2 hv6_3
    refine zw_iload_3 X dX3_twosInOneCompartment_6 ?_
    refine zw_bipush (v := 6) X dX3_twosInOneCompartment_7 bk_6 ?_
    refine zw_icmpge_f (tgt := 64) X dX3_twosInOneCompartment_9 (by decide) (nI_lt hn6 (by decide)) ?_
    refine zw_iload_3 X dX3_twosInOneCompartment_12 ?_
    refine zw_iconst (v := 1) X dX3_twosInOneCompartment_13 ik_1 ?_
    refine zw_iadd X dX3_twosInOneCompartment_14 ?_
    refine zw_istore_4 X dX3_twosInOneCompartment_15 ?_
    refine zloop (α := Int32 × Int32) (S := fun n a => ∀ (v17_1 : Int32) (v17_2 : Int32) (v17_4 : Int32), v17_1 = a.1 → v17_2 = a.2 → v17_4 = nI (n6 + 1 + n) → ZW g 17 [some (.ref 19), some (.int v17_1), some (.int v17_2), some (.int (nI n6)), some (.int v17_4)] [] σ) (N := (5 - n6)) (f := (twoI (fun i j => decide (σ 20 i = σ 20 j)) n6)) (a0 := a6) (fun n17 a17 hn17 ha17 ih17 v17_1 v17_2 v17_4 hv17_1 hv17_2 hv17_4 => ?_) (fun a17 ha17 v17_1 v17_2 v17_4 hv17_1 hv17_2 hv17_4 => ?_) _ _ _ rfl rfl (nI_1 n6)
    · subst hv17_1 hv17_2 hv17_4
      refine zw_iload_4 X dX3_twosInOneCompartment_17 ?_
      refine zw_bipush (v := 6) X dX3_twosInOneCompartment_19 bk_6 ?_
      refine zw_icmpge_f (tgt := 58) X dX3_twosInOneCompartment_21 (by decide) (nI_lt (b := 6) (by omega) (by decide)) ?_
      refine zw_iload_1 X dX3_twosInOneCompartment_24 ?_
      refine zw_aload_0 X dX3_twosInOneCompartment_25 ?_
      refine zw_getR X dX3_twosInOneCompartment_26 fl_X3_9 ck_X3 sh_19 rfl ?_
      refine zw_iload_3 X dX3_twosInOneCompartment_29 ?_
      refine zw_ialdN X dX3_twosInOneCompartment_30 sh_20 hn6 (by decide) ?_
      refine zw_aload_0 X dX3_twosInOneCompartment_31 ?_
      refine zw_getR X dX3_twosInOneCompartment_32 fl_X3_9 ck_X3 sh_19 rfl ?_
      refine zw_iload_4 X dX3_twosInOneCompartment_35 ?_
      refine zw_ialdN X dX3_twosInOneCompartment_37 sh_20 (show n6 + 1 + n17 < 6 by omega) (by decide) ?_
      refine zw_icmpne (tgt := 45) X dX3_twosInOneCompartment_38 (by decide) (fun c_38 => ?_) (fun c_38 => ?_)
      · refine zw_iconst (v := 0) X dX3_twosInOneCompartment_45 ik_0 ?_
        refine zw_ior X dX3_twosInOneCompartment_46 ?_
        refine zw_istore_1 X dX3_twosInOneCompartment_47 ?_
        refine zw_iload_2 X dX3_twosInOneCompartment_48 ?_
        refine zw_iconst (v := 1) X dX3_twosInOneCompartment_49 ik_1 ?_
        refine zw_ishl X dX3_twosInOneCompartment_50 ?_
        refine zw_istore_2 X dX3_twosInOneCompartment_51 ?_
        refine zw_iinc_4_p1 X dX3_twosInOneCompartment_52 ?_
        refine zw_goto (tgt := 17) X dX3_twosInOneCompartment_55 (by decide) ?_
        exact ih17 _ _ _ (by first | (simp only [twoI, c_38, decide_true, decide_false, Bool.and_true, Bool.true_and, Bool.and_false, Bool.false_and, Bool.or_true, Bool.true_or, Bool.or_false, Bool.false_or, Bool.not_true, Bool.not_false, if_true, if_false, ite_true, ite_false, Bool.false_eq_true, not_true_eq_false, not_false_eq_true, bI_t, bI_f, decide_eq_true_eq, reduceCtorEq]; done) | (simp [twoI, c_38]; done) | simp_all) (by first | (simp only [twoI, c_38, decide_true, decide_false, Bool.and_true, Bool.true_and, Bool.and_false, Bool.false_and, Bool.or_true, Bool.true_or, Bool.or_false, Bool.false_or, Bool.not_true, Bool.not_false, if_true, if_false, ite_true, ite_false, Bool.false_eq_true, not_true_eq_false, not_false_eq_true, bI_t, bI_f, decide_eq_true_eq, reduceCtorEq]; done) | (simp [twoI, c_38]; done) | simp_all) (nI_1 _)
      · refine zw_iload_2 X dX3_twosInOneCompartment_41 ?_
        refine zw_goto (tgt := 46) X dX3_twosInOneCompartment_42 (by decide) ?_
        refine zw_ior X dX3_twosInOneCompartment_46 ?_
        refine zw_istore_1 X dX3_twosInOneCompartment_47 ?_
        refine zw_iload_2 X dX3_twosInOneCompartment_48 ?_
        refine zw_iconst (v := 1) X dX3_twosInOneCompartment_49 ik_1 ?_
        refine zw_ishl X dX3_twosInOneCompartment_50 ?_
        refine zw_istore_2 X dX3_twosInOneCompartment_51 ?_
        refine zw_iinc_4_p1 X dX3_twosInOneCompartment_52 ?_
        refine zw_goto (tgt := 17) X dX3_twosInOneCompartment_55 (by decide) ?_
        exact ih17 _ _ _ (by first | (simp only [twoI, eq_true c_38, decide_true, decide_false, Bool.and_true, Bool.true_and, Bool.and_false, Bool.false_and, Bool.or_true, Bool.true_or, Bool.or_false, Bool.false_or, Bool.not_true, Bool.not_false, if_true, if_false, ite_true, ite_false, Bool.false_eq_true, not_true_eq_false, not_false_eq_true, bI_t, bI_f, decide_eq_true_eq, reduceCtorEq]; done) | (simp [twoI, eq_true c_38]; done) | simp_all) (by first | (simp only [twoI, eq_true c_38, decide_true, decide_false, Bool.and_true, Bool.true_and, Bool.and_false, Bool.false_and, Bool.or_true, Bool.true_or, Bool.or_false, Bool.false_or, Bool.not_true, Bool.not_false, if_true, if_false, ite_true, ite_false, Bool.false_eq_true, not_true_eq_false, not_false_eq_true, bI_t, bI_f, decide_eq_true_eq, reduceCtorEq]; done) | (simp [twoI, eq_true c_38]; done) | simp_all) (nI_1 _)
    · subst hv17_1 hv17_2 hv17_4
      refine zw_iload_4 X dX3_twosInOneCompartment_17 ?_
      refine zw_bipush (v := 6) X dX3_twosInOneCompartment_19 bk_6 ?_
      refine zw_icmpge_t (tgt := 58) X dX3_twosInOneCompartment_21 (by decide) (nI_nlt (a := n6 + 1 + (5 - n6)) (b := 6) (by omega) (by omega)) ?_
      refine zw_iinc_3_p1 X dX3_twosInOneCompartment_58 ?_
      refine zw_goto (tgt := 6) X dX3_twosInOneCompartment_61 (by decide) ?_
      refine zw_fg_4 ?_
      exact ih6 _ _ _ (by first | (simp only [twoO, ha17, decide_true, decide_false, Bool.and_true, Bool.true_and, Bool.and_false, Bool.false_and, Bool.or_true, Bool.true_or, Bool.or_false, Bool.false_or, Bool.not_true, Bool.not_false, if_true, if_false, ite_true, ite_false, Bool.false_eq_true, not_true_eq_false, not_false_eq_true, bI_t, bI_f, decide_eq_true_eq, reduceCtorEq]; done) | (simp [twoO, ha17]; done) | simp_all) (by first | (simp only [twoO, ha17, decide_true, decide_false, Bool.and_true, Bool.true_and, Bool.and_false, Bool.false_and, Bool.or_true, Bool.true_or, Bool.or_false, Bool.false_or, Bool.not_true, Bool.not_false, if_true, if_false, ite_true, ite_false, Bool.false_eq_true, not_true_eq_false, not_false_eq_true, bI_t, bI_f, decide_eq_true_eq, reduceCtorEq]; done) | (simp [twoO, ha17]; done) | simp_all) (nI_1 n6)
  · subst hv6_1 hv6_2 hv6_3
    refine zw_iload_3 X dX3_twosInOneCompartment_6 ?_
    refine zw_bipush (v := 6) X dX3_twosInOneCompartment_7 bk_6 ?_
    refine zw_icmpge_t (tgt := 64) X dX3_twosInOneCompartment_9 (by decide) (by decide) ?_
    refine zw_iload_1 X dX3_twosInOneCompartment_64 ?_
    exact zw_iret X F dX3_twosInOneCompartment_65 rfl (by first | (simp only [sTwo, twos, ha6, decide_true, decide_false, Bool.and_true, Bool.true_and, Bool.and_false, Bool.false_and, Bool.or_true, Bool.true_or, Bool.or_false, Bool.false_or, Bool.not_true, Bool.not_false, if_true, if_false, ite_true, ite_false, Bool.false_eq_true, not_true_eq_false, not_false_eq_true, bI_t, bI_f, decide_eq_true_eq, reduceCtorEq]; done) | (simp [sTwo, twos, ha6]; done) | simp_all) (rfl)
set_option maxRecDepth 20000 in
set_option maxHeartbeats 4000000 in
theorem t_X3_meetableTwos {σ : St} {k : Nat} (hT : isT k) : Ct MX3_meetableTwos [.ref k] σ (some (.int (sMeet σ k))) (σ) := by
  refine ct_of (ls0 := [some (.ref k), none, none, none, none]) ok_MX3_meetableTwos rfl (Nat.le_of_ble_eq_true rfl) rfl ?_
  intro g X F
  refine zw_iconst (v := 0) X dX3_meetableTwos_0 ik_0 ?_
  refine zw_istore_1 X dX3_meetableTwos_1 ?_
  refine zw_iconst (v := 1) X dX3_meetableTwos_2 ik_1 ?_
  refine zw_istore_2 X dX3_meetableTwos_3 ?_
  refine zw_iconst (v := 0) X dX3_meetableTwos_4 ik_0 ?_
  refine zw_istore_3 X dX3_meetableTwos_5 ?_
  refine zw_fg_4 ?_
  refine zloop (α := Int32 × Int32) (S := fun n a => ∀ (v6_1 : Int32) (v6_2 : Int32) (v6_3 : Int32), v6_1 = a.1 → v6_2 = a.2 → v6_3 = nI n → ZW g 6 [some (.ref k), some (.int v6_1), some (.int v6_2), some (.int v6_3), none] [] σ) (N := 6) (f := (twoO (fun i j => ttog σ k (nI i) (nI j)))) (a0 := ((0, 1) : Int32 × Int32)) (fun n6 a6 hn6 ha6 ih6 v6_1 v6_2 v6_3 hv6_1 hv6_2 hv6_3 => ?_) (fun a6 ha6 v6_1 v6_2 v6_3 hv6_1 hv6_2 hv6_3 => ?_) _ _ _ rfl rfl rfl
  · subst hv6_1 hv6_2 hv6_3
    refine zw_iload_3 X dX3_meetableTwos_6 ?_
    refine zw_bipush (v := 6) X dX3_meetableTwos_7 bk_6 ?_
    refine zw_icmpge_f (tgt := 58) X dX3_meetableTwos_9 (by decide) (nI_lt hn6 (by decide)) ?_
    refine zw_iload_3 X dX3_meetableTwos_12 ?_
    refine zw_iconst (v := 1) X dX3_meetableTwos_13 ik_1 ?_
    refine zw_iadd X dX3_meetableTwos_14 ?_
    refine zw_istore_4 X dX3_meetableTwos_15 ?_
    refine zloop (α := Int32 × Int32) (S := fun n a => ∀ (v17_1 : Int32) (v17_2 : Int32) (v17_4 : Int32), v17_1 = a.1 → v17_2 = a.2 → v17_4 = nI (n6 + 1 + n) → ZW g 17 [some (.ref k), some (.int v17_1), some (.int v17_2), some (.int (nI n6)), some (.int v17_4)] [] σ) (N := (5 - n6)) (f := (twoI (fun i j => ttog σ k (nI i) (nI j)) n6)) (a0 := a6) (fun n17 a17 hn17 ha17 ih17 v17_1 v17_2 v17_4 hv17_1 hv17_2 hv17_4 => ?_) (fun a17 ha17 v17_1 v17_2 v17_4 hv17_1 hv17_2 hv17_4 => ?_) _ _ _ rfl rfl (nI_1 n6)
    · subst hv17_1 hv17_2 hv17_4
      refine zw_iload_4 X dX3_meetableTwos_17 ?_
      refine zw_bipush (v := 6) X dX3_meetableTwos_19 bk_6 ?_
      refine zw_icmpge_f (tgt := 52) X dX3_meetableTwos_21 (by decide) (nI_lt (b := 6) (by omega) (by decide)) ?_
      refine zw_iload_1 X dX3_meetableTwos_24 ?_
      refine zw_aload_0 X dX3_meetableTwos_25 ?_
      refine zw_iload_3 X dX3_meetableTwos_26 ?_
      refine zw_iload_4 X dX3_meetableTwos_27 ?_
      refine zw_cV_iii X dX3_meetableTwos_29 lk_X3_52 ok_MX5_rideTogether vi_MX5_rideTogether rm_X3_meetableTwos_X5_rideTogether hT.1 rfl (Nat.le_of_ble_eq_true rfl) (t_X5_rideTogether hT) ?_
      refine zw_ifeqB (tgt := 39) X dX3_meetableTwos_32 (by decide) (fun c_32 => ?_) (fun c_32 => ?_)
      · refine zw_iconst (v := 0) X dX3_meetableTwos_39 ik_0 ?_
        refine zw_ior X dX3_meetableTwos_40 ?_
        refine zw_istore_1 X dX3_meetableTwos_41 ?_
        refine zw_iload_2 X dX3_meetableTwos_42 ?_
        refine zw_iconst (v := 1) X dX3_meetableTwos_43 ik_1 ?_
        refine zw_ishl X dX3_meetableTwos_44 ?_
        refine zw_istore_2 X dX3_meetableTwos_45 ?_
        refine zw_iinc_4_p1 X dX3_meetableTwos_46 ?_
        refine zw_goto (tgt := 17) X dX3_meetableTwos_49 (by decide) ?_
        exact ih17 _ _ _ (by first | (simp only [twoI, c_32, decide_true, decide_false, Bool.and_true, Bool.true_and, Bool.and_false, Bool.false_and, Bool.or_true, Bool.true_or, Bool.or_false, Bool.false_or, Bool.not_true, Bool.not_false, if_true, if_false, ite_true, ite_false, Bool.false_eq_true, not_true_eq_false, not_false_eq_true, bI_t, bI_f, decide_eq_true_eq, reduceCtorEq]; done) | (simp [twoI, c_32]; done) | simp_all) (by first | (simp only [twoI, c_32, decide_true, decide_false, Bool.and_true, Bool.true_and, Bool.and_false, Bool.false_and, Bool.or_true, Bool.true_or, Bool.or_false, Bool.false_or, Bool.not_true, Bool.not_false, if_true, if_false, ite_true, ite_false, Bool.false_eq_true, not_true_eq_false, not_false_eq_true, bI_t, bI_f, decide_eq_true_eq, reduceCtorEq]; done) | (simp [twoI, c_32]; done) | simp_all) (nI_1 _)
      · refine zw_iload_2 X dX3_meetableTwos_35 ?_
        refine zw_goto (tgt := 40) X dX3_meetableTwos_36 (by decide) ?_
        refine zw_ior X dX3_meetableTwos_40 ?_
        refine zw_istore_1 X dX3_meetableTwos_41 ?_
        refine zw_iload_2 X dX3_meetableTwos_42 ?_
        refine zw_iconst (v := 1) X dX3_meetableTwos_43 ik_1 ?_
        refine zw_ishl X dX3_meetableTwos_44 ?_
        refine zw_istore_2 X dX3_meetableTwos_45 ?_
        refine zw_iinc_4_p1 X dX3_meetableTwos_46 ?_
        refine zw_goto (tgt := 17) X dX3_meetableTwos_49 (by decide) ?_
        exact ih17 _ _ _ (by first | (simp only [twoI, c_32, decide_true, decide_false, Bool.and_true, Bool.true_and, Bool.and_false, Bool.false_and, Bool.or_true, Bool.true_or, Bool.or_false, Bool.false_or, Bool.not_true, Bool.not_false, if_true, if_false, ite_true, ite_false, Bool.false_eq_true, not_true_eq_false, not_false_eq_true, bI_t, bI_f, decide_eq_true_eq, reduceCtorEq]; done) | (simp [twoI, c_32]; done) | simp_all) (by first | (simp only [twoI, c_32, decide_true, decide_false, Bool.and_true, Bool.true_and, Bool.and_false, Bool.false_and, Bool.or_true, Bool.true_or, Bool.or_false, Bool.false_or, Bool.not_true, Bool.not_false, if_true, if_false, ite_true, ite_false, Bool.false_eq_true, not_true_eq_false, not_false_eq_true, bI_t, bI_f, decide_eq_true_eq, reduceCtorEq]; done) | (simp [twoI, c_32]; done) | simp_all) (nI_1 _)
    · subst hv17_1 hv17_2 hv17_4
      refine zw_iload_4 X dX3_meetableTwos_17 ?_
      refine zw_bipush (v := 6) X dX3_meetableTwos_19 bk_6 ?_
      refine zw_icmpge_t (tgt := 52) X dX3_meetableTwos_21 (by decide) (nI_nlt (a := n6 + 1 + (5 - n6)) (b := 6) (by omega) (by omega)) ?_
      refine zw_iinc_3_p1 X dX3_meetableTwos_52 ?_
      refine zw_goto (tgt := 6) X dX3_meetableTwos_55 (by decide) ?_
      refine zw_fg_4 ?_
      exact ih6 _ _ _ (by first | (simp only [twoO, ha17, decide_true, decide_false, Bool.and_true, Bool.true_and, Bool.and_false, Bool.false_and, Bool.or_true, Bool.true_or, Bool.or_false, Bool.false_or, Bool.not_true, Bool.not_false, if_true, if_false, ite_true, ite_false, Bool.false_eq_true, not_true_eq_false, not_false_eq_true, bI_t, bI_f, decide_eq_true_eq, reduceCtorEq]; done) | (simp [twoO, ha17]; done) | simp_all) (by first | (simp only [twoO, ha17, decide_true, decide_false, Bool.and_true, Bool.true_and, Bool.and_false, Bool.false_and, Bool.or_true, Bool.true_or, Bool.or_false, Bool.false_or, Bool.not_true, Bool.not_false, if_true, if_false, ite_true, ite_false, Bool.false_eq_true, not_true_eq_false, not_false_eq_true, bI_t, bI_f, decide_eq_true_eq, reduceCtorEq]; done) | (simp [twoO, ha17]; done) | simp_all) (nI_1 n6)
  · subst hv6_1 hv6_2 hv6_3
    refine zw_iload_3 X dX3_meetableTwos_6 ?_
    refine zw_bipush (v := 6) X dX3_meetableTwos_7 bk_6 ?_
    refine zw_icmpge_t (tgt := 58) X dX3_meetableTwos_9 (by decide) (by decide) ?_
    refine zw_iload_1 X dX3_meetableTwos_58 ?_
    exact zw_iret X F dX3_meetableTwos_59 rfl (by first | (simp only [sMeet, twos, ha6, decide_true, decide_false, Bool.and_true, Bool.true_and, Bool.and_false, Bool.false_and, Bool.or_true, Bool.true_or, Bool.or_false, Bool.false_or, Bool.not_true, Bool.not_false, if_true, if_false, ite_true, ite_false, Bool.false_eq_true, not_true_eq_false, not_false_eq_true, bI_t, bI_f, decide_eq_true_eq, reduceCtorEq]; done) | (simp [sMeet, twos, ha6]; done) | simp_all) (rfl)
set_option maxRecDepth 20000 in
set_option maxHeartbeats 4000000 in
theorem t_X3_countWays {σ : St} {ap to : Int32} : Ct MX3_countWays [.ref 19, .ref 1, .int ap, .int to] σ (none) (sCnt σ ap to) := by
  refine ct_of (ls0 := [some (.ref 19), some (.ref 1), some (.int ap), some (.int to), none, none, none, none, none]) ok_MX3_countWays rfl (Nat.le_of_ble_eq_true rfl) rfl ?_
  intro g X F
  refine zw_aload_0 X dX3_countWays_0 ?_
  refine zw_iconst (v := 0) X dX3_countWays_1 ik_0 ?_
  refine zw_put X dX3_countWays_2 fl_X3_15 ck_X3 ft_3_0 sh_19 rfl ?_
  refine zw_aload_0 X dX3_countWays_5 ?_
  refine zw_bipush (v := -6) X dX3_countWays_6 bk_m6 ?_
  refine zw_put X dX3_countWays_8 fl_X3_19 ck_X3 ft_3_1 sh_19 rfl ?_
  refine zw_aload_0 X dX3_countWays_11 ?_
  refine zw_aload_1 X dX3_countWays_12 ?_
  refine zw_cV_ni X dX3_countWays_13 lk_X3_22 ok_MX5_ridersOfLine vi_MX5_ridersOfLine rm_X3_countWays_X5_ridersOfLine sh_1 rfl (Nat.le_of_ble_eq_true rfl) (t_X5_ridersOfLine isT_1) ?_
  refine zw_put X dX3_countWays_16 fl_X3_28 ck_X3 ft_3_2 sh_19 rfl ?_
  refine zw_aload_1 X dX3_countWays_19 ?_
  refine zw_cS_ri X dX3_countWays_20 lk_X3_31 ok_MX3_meetableTwos st_MX3_meetableTwos rm_X3_countWays_X3_meetableTwos (Nat.le_of_ble_eq_true rfl) (t_X3_meetableTwos isT_1) ?_
  refine zw_istore_4 X dX3_countWays_23 ?_
  refine zw_iload_3 X dX3_countWays_25 ?_
  refine zw_iload_4 X dX3_countWays_26 ?_
  refine zw_iconst (v := -1) X dX3_countWays_28 ik_m1 ?_
  refine zw_ixor X dX3_countWays_29 ?_
  refine zw_iand X dX3_countWays_30 ?_
  refine zw_ifeq (tgt := 35) X dX3_countWays_31 (by decide) (fun c_31 => ?_) (fun c_31 => ?_)
  · refine zw_iload_2 X dX3_countWays_35 ?_
    refine zw_iload_4 X dX3_countWays_36 ?_
    refine zw_iand X dX3_countWays_38 ?_
    refine zw_istore_5 X dX3_countWays_39 ?_
    refine zw_aload_0 X dX3_countWays_41 ?_
    refine zw_cV_ni X dX3_countWays_42 lk_X3_35 ok_MX3_waysInAll vi_MX3_waysInAll rm_X3_countWays_X3_waysInAll sh_19 rfl (Nat.le_of_ble_eq_true rfl) t_X3_waysInAll ?_
    refine zw_istore_6 X dX3_countWays_45 ?_
    refine zw_iconst (v := 0) X dX3_countWays_47 ik_0 ?_
    refine zw_istore_7 X dX3_countWays_48 ?_
    refine zw_fg_8 ?_
    refine zloop (α := St) (S := fun n a => ∀ (s50 : St) (v50_7 : Int32), s50 = a → v50_7 = nI n → ZW g 50 [some (.ref 19), some (.ref 1), some (.int ap), some (.int to), some (.int (sMeet (sB σ) 1)), some (.int (ap &&& sMeet (sB σ) 1)), some (.int (sAll (sB σ))), some (.int v50_7), none] [] s50) (N := (clN (sAll (sB σ)))) (f := (sCst (ap &&& sMeet (sB σ) 1) to)) (a0 := (sB σ)) (fun n50 a50 hn50 ha50 ih50 s50 v50_7 hs50 hv50_7 => ?_) (fun a50 ha50 s50 v50_7 hs50 hv50_7 => ?_) _ _ rfl rfl
    · subst hs50 hv50_7
      refine zw_iload_7 X dX3_countWays_50 ?_
      refine zw_iload_6 X dX3_countWays_52 ?_
      refine zw_icmpge_f (tgt := 124) X dX3_countWays_54 (by decide) ((clN_lt (Nat.le_of_lt hn50)).mpr hn50) ?_
      refine zw_aload_0 X dX3_countWays_57 ?_
      refine zw_iload_7 X dX3_countWays_58 ?_
      refine zw_cV_iv X dX3_countWays_60 lk_X3_38 ok_MX3_spread vi_MX3_spread rm_X3_countWays_X3_spread sh_19 rfl (Nat.le_of_ble_eq_true rfl) t_X3_spread ?_
      refine zw_aload_0 X dX3_countWays_63 ?_
      refine zw_cV_ni X dX3_countWays_64 lk_X3_42 ok_MX3_twosInOneCompartment vi_MX3_twosInOneCompartment rm_X3_countWays_X3_twosInOneCompartment sh_19 rfl (Nat.le_of_ble_eq_true rfl) t_X3_twosInOneCompartment ?_
      refine zw_istore_8 X dX3_countWays_67 ?_
      refine zw_iload_8 X dX3_countWays_69 ?_
      refine zw_iload_5 X dX3_countWays_71 ?_
      refine zw_iand X dX3_countWays_73 ?_
      refine zw_ifne (tgt := 118) X dX3_countWays_74 (by decide) (fun c_74 => ?_) (fun c_74 => ?_)
      · refine zw_iinc_7_p1 X dX3_countWays_118 ?_
        refine zw_goto (tgt := 50) X dX3_countWays_121 (by decide) ?_
        refine zw_fg_8 ?_
        exact ih50 _ _ (by first | (simp only [sCst, sC1, sC2, sC3, eq_true c_31, c_74, decide_true, decide_false, Bool.and_true, Bool.true_and, Bool.and_false, Bool.false_and, Bool.or_true, Bool.true_or, Bool.or_false, Bool.false_or, Bool.not_true, Bool.not_false, if_true, if_false, ite_true, ite_false, Bool.false_eq_true, not_true_eq_false, not_false_eq_true, bI_t, bI_f, decide_eq_true_eq, reduceCtorEq]; done) | (simp [sCst, sC1, sC2, sC3, eq_true c_31, c_74]; done) | simp_all) (nI_1 n50)
      · refine zw_iload_3 X dX3_countWays_77 ?_
        refine zw_iload_8 X dX3_countWays_78 ?_
        refine zw_iconst (v := -1) X dX3_countWays_80 ik_m1 ?_
        refine zw_ixor X dX3_countWays_81 ?_
        refine zw_iand X dX3_countWays_82 ?_
        refine zw_ifne (tgt := 118) X dX3_countWays_83 (by decide) (fun c_83 => ?_) (fun c_83 => ?_)
        · refine zw_iinc_7_p1 X dX3_countWays_118 ?_
          refine zw_goto (tgt := 50) X dX3_countWays_121 (by decide) ?_
          refine zw_fg_8 ?_
          exact ih50 _ _ (by first | (simp only [sCst, sC1, sC2, sC3, eq_true c_31, eq_true c_74, c_83, decide_true, decide_false, Bool.and_true, Bool.true_and, Bool.and_false, Bool.false_and, Bool.or_true, Bool.true_or, Bool.or_false, Bool.false_or, Bool.not_true, Bool.not_false, if_true, if_false, ite_true, ite_false, Bool.false_eq_true, not_true_eq_false, not_false_eq_true, bI_t, bI_f, decide_eq_true_eq, reduceCtorEq]; done) | (simp [sCst, sC1, sC2, sC3, eq_true c_31, eq_true c_74, c_83]; done) | simp_all) (nI_1 n50)
        · refine zw_aload_0 X dX3_countWays_86 ?_
          refine zw_aload_0 X dX3_countWays_87 ?_
          refine zw_getI X dX3_countWays_88 fl_X3_15 ck_X3 sh_19 rfl ?_
          refine zw_ifne (tgt := 101) X dX3_countWays_91 (by decide) (fun c_91 => ?_) (fun c_91 => ?_)
          · refine zw_aload_0 X dX3_countWays_101 ?_
            refine zw_getI X dX3_countWays_102 fl_X3_19 ck_X3 sh_19 rfl ?_
            refine zw_put X dX3_countWays_105 fl_X3_19 ck_X3 ft_3_1 sh_19 rfl ?_
            refine zw_aload_0 X dX3_countWays_108 ?_
            refine zw_dup_r X dX3_countWays_109 ?_
            refine zw_getI X dX3_countWays_110 fl_X3_15 ck_X3 sh_19 rfl ?_
            refine zw_iconst (v := 1) X dX3_countWays_113 ik_1 ?_
            refine zw_iadd X dX3_countWays_114 ?_
            refine zw_put X dX3_countWays_115 fl_X3_15 ck_X3 ft_3_0 sh_19 rfl ?_
            refine zw_iinc_7_p1 X dX3_countWays_118 ?_
            refine zw_goto (tgt := 50) X dX3_countWays_121 (by decide) ?_
            refine zw_fg_8 ?_
            exact ih50 _ _ (by first | (simp only [sCst, sC1, sC2, sC3, eq_true c_31, eq_true c_74, eq_true c_83, c_91, decide_true, decide_false, Bool.and_true, Bool.true_and, Bool.and_false, Bool.false_and, Bool.or_true, Bool.true_or, Bool.or_false, Bool.false_or, Bool.not_true, Bool.not_false, if_true, if_false, ite_true, ite_false, Bool.false_eq_true, not_true_eq_false, not_false_eq_true, bI_t, bI_f, decide_eq_true_eq, reduceCtorEq]; done) | (simp [sCst, sC1, sC2, sC3, eq_true c_31, eq_true c_74, eq_true c_83, c_91]; done) | simp_all) (nI_1 n50)
          · refine zw_aload_0 X dX3_countWays_94 ?_
            refine zw_cV_ni X dX3_countWays_95 lk_X3_45 ok_MX3_digitsAsNumber vi_MX3_digitsAsNumber rm_X3_countWays_X3_digitsAsNumber sh_19 rfl (Nat.le_of_ble_eq_true rfl) t_X3_digitsAsNumber ?_
            refine zw_goto (tgt := 105) X dX3_countWays_98 (by decide) ?_
            refine zw_put X dX3_countWays_105 fl_X3_19 ck_X3 ft_3_1 sh_19 rfl ?_
            refine zw_aload_0 X dX3_countWays_108 ?_
            refine zw_dup_r X dX3_countWays_109 ?_
            refine zw_getI X dX3_countWays_110 fl_X3_15 ck_X3 sh_19 rfl ?_
            refine zw_iconst (v := 1) X dX3_countWays_113 ik_1 ?_
            refine zw_iadd X dX3_countWays_114 ?_
            refine zw_put X dX3_countWays_115 fl_X3_15 ck_X3 ft_3_0 sh_19 rfl ?_
            refine zw_iinc_7_p1 X dX3_countWays_118 ?_
            refine zw_goto (tgt := 50) X dX3_countWays_121 (by decide) ?_
            refine zw_fg_8 ?_
            exact ih50 _ _ (by first | (simp only [sCst, sC1, sC2, sC3, eq_true c_31, eq_true c_74, eq_true c_83, eq_true c_91, decide_true, decide_false, Bool.and_true, Bool.true_and, Bool.and_false, Bool.false_and, Bool.or_true, Bool.true_or, Bool.or_false, Bool.false_or, Bool.not_true, Bool.not_false, if_true, if_false, ite_true, ite_false, Bool.false_eq_true, not_true_eq_false, not_false_eq_true, bI_t, bI_f, decide_eq_true_eq, reduceCtorEq]; done) | (simp [sCst, sC1, sC2, sC3, eq_true c_31, eq_true c_74, eq_true c_83, eq_true c_91]; done) | simp_all) (nI_1 n50)
    · subst hs50 hv50_7
      refine zw_iload_7 X dX3_countWays_50 ?_
      refine zw_iload_6 X dX3_countWays_52 ?_
      refine zw_icmpge_t (tgt := 124) X dX3_countWays_54 (by decide) (fun h => Nat.lt_irrefl _ ((clN_lt (Nat.le_refl _)).mp h)) ?_
      exact zw_vret X F dX3_countWays_124 rfl (by simp only [sCnt]; rw [if_pos]; exact ha50; exact c_31)
  · exact zw_vret X F dX3_countWays_34 rfl (by simp only [sCnt]; rw [if_neg]; rfl; exact c_31)
def isS (k : Nat) : Prop := sh k = .inl (4, [some (k + 1), some (k + 2), none]) ∧ sh (k + 1) = .inr (8, false) ∧ sh (k + 2) = .inr (8, false)
theorem isS_16 : isS 16 := ⟨rfl, rfl, rfl⟩
theorem isS_29 : isS 29 := ⟨rfl, rfl, rfl⟩
theorem isS_39 : isS 39 := ⟨rfl, rfl, rfl⟩
def gcp0 (σ : St) (k j : Nat) : St := ups σ k 2 (σ j 2)
def gcst (k j n : Nat) (τ : St) : St := cpA (cpA τ (k + 1) (j + 1) n) (k + 2) (j + 2) n
def gcopy (σ : St) (k j : Nat) : St := itr (gcst k j) 8 (gcp0 σ k j)
def gAdd1 (σ : St) (m : Int32) : St := ups σ 17 (ix (σ 16 2)) m
def gAdd2 (σ : St) (m t : Int32) : St := ups (gAdd1 σ m) 18 (ix (gAdd1 σ m 16 2)) t
def gAdd (σ : St) (m t : Int32) : St := ups (gAdd2 σ m t) 16 2 (gAdd2 σ m t 16 2 + 1)
def gNum (σ : St) : Nat := min (clN (σ 16 2)) 8
def gSus (σ : St) : Int32 := itr (fun n a => a &&& tcomp σ 1 (σ 18 n) (σ 17 n)) (gNum σ) (trol σ 1)
theorem gN1 {σ : St} {n : Nat} (h : n < gNum σ) : nI n < σ 16 2 := (clN_lt (Nat.le_of_lt (Nat.lt_of_lt_of_le h (Nat.min_le_left _ _)))).mpr (Nat.lt_of_lt_of_le h (Nat.min_le_left _ _))
theorem gN2 {σ : St} {n : Nat} (h : n < gNum σ) : n < 8 := Nat.lt_of_lt_of_le h (Nat.min_le_right _ _)
theorem gN3 {σ : St} (h : nI (gNum σ) < σ 16 2) : ¬ nI (gNum σ) < 8 := by
  have h1 := (clN_lt (Nat.min_le_left (clN (σ 16 2)) 8)).mp h
  have h2 : gNum σ = 8 := by unfold gNum at h1 ⊢; omega
  rw [h2]; decide
set_option maxRecDepth 20000 in
set_option maxHeartbeats 4000000 in
theorem t_X4_copyFrom {σ : St} {k j : Nat} (hS : isS k) (hJ : isS j) : Ct MX4_copyFrom [.ref k, .ref j] σ (none) (gcopy σ k j) := by
  refine ct_of (ls0 := [some (.ref k), some (.ref j), none]) ok_MX4_copyFrom rfl (Nat.le_of_ble_eq_true rfl) rfl ?_
  intro g X F
  refine zw_aload_0 X dX4_copyFrom_0 ?_
  refine zw_aload_1 X dX4_copyFrom_1 ?_
  refine zw_getI X dX4_copyFrom_2 fl_X4_16 ck_X4 hJ.1 rfl ?_
  refine zw_put X dX4_copyFrom_5 fl_X4_16 ck_X4 ft_4_2 hS.1 rfl ?_
  refine zw_iconst (v := 0) X dX4_copyFrom_8 ik_0 ?_
  refine zw_istore_2 X dX4_copyFrom_9 ?_
  refine zloop (α := St) (S := fun n a => ∀ (s10 : St) (v10_2 : Int32), s10 = a → v10_2 = nI n → ZW g 10 [some (.ref k), some (.ref j), some (.int v10_2)] [] s10) (N := 8) (f := (gcst k j)) (a0 := (gcp0 σ k j)) (fun n10 a10 hn10 ha10 ih10 s10 v10_2 hs10 hv10_2 => ?_) (fun a10 ha10 s10 v10_2 hs10 hv10_2 => ?_) _ _ rfl rfl
  · subst hs10 hv10_2
    refine zw_iload_2 X dX4_copyFrom_10 ?_
    refine zw_bipush (v := 8) X dX4_copyFrom_11 bk_8 ?_
    refine zw_icmpge_f (tgt := 46) X dX4_copyFrom_13 (by decide) (nI_lt hn10 (by decide)) ?_
    refine zw_aload_0 X dX4_copyFrom_16 ?_
    refine zw_getR X dX4_copyFrom_17 fl_X4_9 ck_X4 hS.1 rfl ?_
    refine zw_iload_2 X dX4_copyFrom_20 ?_
    refine zw_aload_1 X dX4_copyFrom_21 ?_
    refine zw_getR X dX4_copyFrom_22 fl_X4_9 ck_X4 hJ.1 rfl ?_
    refine zw_iload_2 X dX4_copyFrom_25 ?_
    refine zw_ialdN X dX4_copyFrom_26 hJ.2.1 hn10 (by decide) ?_
    refine zw_iastN X dX4_copyFrom_27 hS.2.1 hn10 (by decide) ?_
    refine zw_aload_0 X dX4_copyFrom_28 ?_
    refine zw_getR X dX4_copyFrom_29 fl_X4_13 ck_X4 hS.1 rfl ?_
    refine zw_iload_2 X dX4_copyFrom_32 ?_
    refine zw_aload_1 X dX4_copyFrom_33 ?_
    refine zw_getR X dX4_copyFrom_34 fl_X4_13 ck_X4 hJ.1 rfl ?_
    refine zw_iload_2 X dX4_copyFrom_37 ?_
    refine zw_ialdN X dX4_copyFrom_38 hJ.2.2 hn10 (by decide) ?_
    refine zw_iastN X dX4_copyFrom_39 hS.2.2 hn10 (by decide) ?_
    refine zw_iinc_2_p1 X dX4_copyFrom_40 ?_
    refine zw_goto (tgt := 10) X dX4_copyFrom_43 (by decide) ?_
    exact ih10 _ _ (by first | (simp only [gcst, cpA, decide_true, decide_false, Bool.and_true, Bool.true_and, Bool.and_false, Bool.false_and, Bool.or_true, Bool.true_or, Bool.or_false, Bool.false_or, Bool.not_true, Bool.not_false, if_true, if_false, ite_true, ite_false, Bool.false_eq_true, not_true_eq_false, not_false_eq_true, bI_t, bI_f, decide_eq_true_eq, reduceCtorEq]; done) | (simp [gcst, cpA]; done) | simp_all) (nI_1 n10)
  · subst hs10 hv10_2
    refine zw_iload_2 X dX4_copyFrom_10 ?_
    refine zw_bipush (v := 8) X dX4_copyFrom_11 bk_8 ?_
    refine zw_icmpge_t (tgt := 46) X dX4_copyFrom_13 (by decide) (by decide) ?_
    exact zw_vret X F dX4_copyFrom_46 rfl (ha10)
set_option maxRecDepth 20000 in
set_option maxHeartbeats 4000000 in
theorem t_X4_add {σ : St} {m t : Int32} : Ct MX4_add [.ref 16, .int m, .int t] σ (some (.int (bI (wIn (σ 16 2) 8)))) (if wIn (σ 16 2) 8 then gAdd σ m t else σ) := by
  refine ct_of (ls0 := [some (.ref 16), some (.int m), some (.int t)]) ok_MX4_add rfl (Nat.le_of_ble_eq_true rfl) rfl ?_
  intro g X F
  refine zw_aload_0 X dX4_add_0 ?_
  refine zw_getI X dX4_add_1 fl_X4_16 ck_X4 sh_16 rfl ?_
  refine zw_iflt (tgt := 16) X dX4_add_4 (by decide) (fun c_4 => ?_) (fun c_4 => ?_)
  · refine zw_iconst (v := 0) X dX4_add_16 ik_0 ?_
    exact zw_zret X F dX4_add_17 rfl (by first | (simp only [wIn, bI_0', bI_1', bI_0, bI_1, bI_inj, c_4, decide_true, decide_false, Bool.and_true, Bool.true_and, Bool.and_false, Bool.false_and, Bool.or_true, Bool.true_or, Bool.or_false, Bool.false_or, Bool.not_true, Bool.not_false, if_true, if_false, ite_true, ite_false, Bool.false_eq_true, not_true_eq_false, not_false_eq_true, bI_t, bI_f, decide_eq_true_eq, reduceCtorEq]; done) | (simp [wIn, bI_0', bI_1', bI_0, bI_1, bI_inj, c_4]; done) | simp_all) (by simp [wIn, gAdd, gAdd1, gAdd2, c_4])
  · refine zw_aload_0 X dX4_add_7 ?_
    refine zw_getI X dX4_add_8 fl_X4_16 ck_X4 sh_16 rfl ?_
    refine zw_bipush (v := 8) X dX4_add_11 bk_8 ?_
    refine zw_icmplt (tgt := 18) X dX4_add_13 (by decide) (fun c_13 => ?_) (fun c_13 => ?_)
    · refine zw_aload_0 X dX4_add_18 ?_
      refine zw_getR X dX4_add_19 fl_X4_9 ck_X4 sh_16 rfl ?_
      refine zw_aload_0 X dX4_add_22 ?_
      refine zw_getI X dX4_add_23 fl_X4_16 ck_X4 sh_16 rfl ?_
      refine zw_iload_1 X dX4_add_26 ?_
      refine zw_iast X dX4_add_27 sh_17 (in8 c_4 c_13) ?_
      refine zw_aload_0 X dX4_add_28 ?_
      refine zw_getR X dX4_add_29 fl_X4_13 ck_X4 sh_16 rfl ?_
      refine zw_aload_0 X dX4_add_32 ?_
      refine zw_getI X dX4_add_33 fl_X4_16 ck_X4 sh_16 rfl ?_
      refine zw_iload_2 X dX4_add_36 ?_
      refine zw_iast X dX4_add_37 sh_18 (in8 c_4 c_13) ?_
      refine zw_aload_0 X dX4_add_38 ?_
      refine zw_dup_r X dX4_add_39 ?_
      refine zw_getI X dX4_add_40 fl_X4_16 ck_X4 sh_16 rfl ?_
      refine zw_iconst (v := 1) X dX4_add_43 ik_1 ?_
      refine zw_iadd X dX4_add_44 ?_
      refine zw_put X dX4_add_45 fl_X4_16 ck_X4 ft_4_2 sh_16 rfl ?_
      refine zw_iconst (v := 1) X dX4_add_48 ik_1 ?_
      exact zw_zret X F dX4_add_49 rfl (by first | (simp only [wIn, bI_0', bI_1', bI_0, bI_1, bI_inj, c_4, c_13, decide_true, decide_false, Bool.and_true, Bool.true_and, Bool.and_false, Bool.false_and, Bool.or_true, Bool.true_or, Bool.or_false, Bool.false_or, Bool.not_true, Bool.not_false, if_true, if_false, ite_true, ite_false, Bool.false_eq_true, not_true_eq_false, not_false_eq_true, bI_t, bI_f, decide_eq_true_eq, reduceCtorEq]; done) | (simp [wIn, bI_0', bI_1', bI_0, bI_1, bI_inj, c_4, c_13]; done) | simp_all) (by simp [wIn, gAdd, gAdd1, gAdd2, c_4, c_13])
    · refine zw_iconst (v := 0) X dX4_add_16 ik_0 ?_
      exact zw_zret X F dX4_add_17 rfl (by first | (simp only [wIn, bI_0', bI_1', bI_0, bI_1, bI_inj, c_4, c_13, decide_true, decide_false, Bool.and_true, Bool.true_and, Bool.and_false, Bool.false_and, Bool.or_true, Bool.true_or, Bool.or_false, Bool.false_or, Bool.not_true, Bool.not_false, if_true, if_false, ite_true, ite_false, Bool.false_eq_true, not_true_eq_false, not_false_eq_true, bI_t, bI_f, decide_eq_true_eq, reduceCtorEq]; done) | (simp [wIn, bI_0', bI_1', bI_0, bI_1, bI_inj, c_4, c_13]; done) | simp_all) (by simp [wIn, gAdd, gAdd1, gAdd2, c_4, c_13])
set_option maxRecDepth 20000 in
set_option maxHeartbeats 4000000 in
theorem t_X4_clear {σ : St} : Ct MX4_clear [.ref 16] σ (some (.int (σ 16 2))) (ups σ 16 2 0) := by
  refine ct_of (ls0 := [some (.ref 16), none]) ok_MX4_clear rfl (Nat.le_of_ble_eq_true rfl) rfl ?_
  intro g X F
  refine zw_aload_0 X dX4_clear_0 ?_
  refine zw_getI X dX4_clear_1 fl_X4_16 ck_X4 sh_16 rfl ?_
  refine zw_istore_1 X dX4_clear_4 ?_
  refine zw_aload_0 X dX4_clear_5 ?_
  refine zw_iconst (v := 0) X dX4_clear_6 ik_0 ?_
  refine zw_put X dX4_clear_7 fl_X4_16 ck_X4 ft_4_2 sh_16 rfl ?_
  refine zw_iload_1 X dX4_clear_10 ?_
  exact zw_iret X F dX4_clear_11 rfl (rfl) (rfl)
set_option maxRecDepth 20000 in
set_option maxHeartbeats 4000000 in
theorem t_X4_suspects {σ : St} : Ct MX4_suspects [.ref 16, .ref 1] σ (some (.int (gSus σ))) (σ) := by
  refine ct_of (ls0 := [some (.ref 16), some (.ref 1), none, none]) ok_MX4_suspects rfl (Nat.le_of_ble_eq_true rfl) rfl ?_
  intro g X F
  refine zw_aload_1 X dX4_suspects_0 ?_
  refine zw_cV_ni X dX4_suspects_1 lk_X4_20 ok_MX5_ridersOfLine vi_MX5_ridersOfLine rm_X4_suspects_X5_ridersOfLine sh_1 rfl (Nat.le_of_ble_eq_true rfl) (t_X5_ridersOfLine isT_1) ?_
  refine zw_istore_2 X dX4_suspects_4 ?_
  refine zw_iconst (v := 0) X dX4_suspects_5 ik_0 ?_
  refine zw_istore_3 X dX4_suspects_6 ?_
  refine zloop (α := Int32) (S := fun n a => ∀ (v7_2 : Int32) (v7_3 : Int32), v7_2 = a → v7_3 = nI n → ZW g 7 [some (.ref 16), some (.ref 1), some (.int v7_2), some (.int v7_3)] [] σ) (N := (gNum σ)) (f := (fun n a => a &&& tcomp σ 1 (σ 18 n) (σ 17 n))) (a0 := (trol σ 1)) (fun n7 a7 hn7 ha7 ih7 v7_2 v7_3 hv7_2 hv7_3 => ?_) (fun a7 ha7 v7_2 v7_3 hv7_2 hv7_3 => ?_) _ _ rfl rfl
  · subst hv7_2 hv7_3
    refine zw_iload_3 X dX4_suspects_7 ?_
    refine zw_aload_0 X dX4_suspects_8 ?_
    refine zw_getI X dX4_suspects_9 fl_X4_16 ck_X4 sh_16 rfl ?_
    refine zw_icmpge_f (tgt := 46) X dX4_suspects_12 (by decide) (gN1 hn7) ?_
    refine zw_iload_3 X dX4_suspects_15 ?_
    refine zw_bipush (v := 8) X dX4_suspects_16 bk_8 ?_
    refine zw_icmpge_f (tgt := 46) X dX4_suspects_18 (by decide) (nI_lt (b := 8) (gN2 hn7) (by decide)) ?_
    refine zw_iload_2 X dX4_suspects_21 ?_
    refine zw_aload_1 X dX4_suspects_22 ?_
    refine zw_aload_0 X dX4_suspects_23 ?_
    refine zw_getR X dX4_suspects_24 fl_X4_13 ck_X4 sh_16 rfl ?_
    refine zw_iload_3 X dX4_suspects_27 ?_
    refine zw_ialdN X dX4_suspects_28 sh_18 (gN2 hn7) (by decide) ?_
    refine zw_aload_0 X dX4_suspects_29 ?_
    refine zw_getR X dX4_suspects_30 fl_X4_9 ck_X4 sh_16 rfl ?_
    refine zw_iload_3 X dX4_suspects_33 ?_
    refine zw_ialdN X dX4_suspects_34 sh_17 (gN2 hn7) (by decide) ?_
    refine zw_cV_iii X dX4_suspects_35 lk_X4_26 ok_MX5_companionsOf vi_MX5_companionsOf rm_X4_suspects_X5_companionsOf sh_1 rfl (Nat.le_of_ble_eq_true rfl) (t_X5_companionsOf isT_1) ?_
    refine zw_iand X dX4_suspects_38 ?_
    refine zw_istore_2 X dX4_suspects_39 ?_
    refine zw_iinc_3_p1 X dX4_suspects_40 ?_
    refine zw_goto (tgt := 7) X dX4_suspects_43 (by decide) ?_
    exact ih7 _ _ (by first | rfl | (simp only [decide_true, decide_false, Bool.and_true, Bool.true_and, Bool.and_false, Bool.false_and, Bool.or_true, Bool.true_or, Bool.or_false, Bool.false_or, Bool.not_true, Bool.not_false, if_true, if_false, ite_true, ite_false, Bool.false_eq_true, not_true_eq_false, not_false_eq_true, bI_t, bI_f, decide_eq_true_eq, reduceCtorEq]; done) | (simp; done) | simp_all) (nI_1 n7)
  · subst hv7_2 hv7_3
    refine zw_iload_3 X dX4_suspects_7 ?_
    refine zw_aload_0 X dX4_suspects_8 ?_
    refine zw_getI X dX4_suspects_9 fl_X4_16 ck_X4 sh_16 rfl ?_
    refine zw_icmpge (tgt := 46) X dX4_suspects_12 (by decide) (fun c_12 => ?_) (fun c_12 => ?_)
    · refine zw_iload_2 X dX4_suspects_46 ?_
      exact zw_iret X F dX4_suspects_47 rfl (by first | (simp only [gSus, ha7, c_12, decide_true, decide_false, Bool.and_true, Bool.true_and, Bool.and_false, Bool.false_and, Bool.or_true, Bool.true_or, Bool.or_false, Bool.false_or, Bool.not_true, Bool.not_false, if_true, if_false, ite_true, ite_false, Bool.false_eq_true, not_true_eq_false, not_false_eq_true, bI_t, bI_f, decide_eq_true_eq, reduceCtorEq]; done) | (simp [gSus, ha7, c_12]; done) | simp_all) (rfl)
    · refine zw_iload_3 X dX4_suspects_15 ?_
      refine zw_bipush (v := 8) X dX4_suspects_16 bk_8 ?_
      refine zw_icmpge_t (tgt := 46) X dX4_suspects_18 (by decide) (gN3 c_12) ?_
      refine zw_iload_2 X dX4_suspects_46 ?_
      exact zw_iret X F dX4_suspects_47 rfl (by first | (simp only [gSus, ha7, c_12, decide_true, decide_false, Bool.and_true, Bool.true_and, Bool.and_false, Bool.false_and, Bool.or_true, Bool.true_or, Bool.or_false, Bool.false_or, Bool.not_true, Bool.not_false, if_true, if_false, ite_true, ite_false, Bool.false_eq_true, not_true_eq_false, not_false_eq_true, bI_t, bI_f, decide_eq_true_eq, reduceCtorEq]; done) | (simp [gSus, ha7, c_12]; done) | simp_all) (rfl)
def taB (σ : St) (x : Int32) : Int32 := 10 * (pSign σ (x + 1) - 48) + pSign σ (x + 2) - 48
def taS (σ : St) (x : Int32) : St := if pSign σ x = 46 then tpas σ 7 else if pDig σ (x + 1) then tsetB σ 7 (pSign σ x - 65) (taB σ x) else if trd σ 7 (pSign σ x - 65) (σ 7 1) then (if decide (pSign σ (x + 1) = 115) && !tmay σ 7 (pSign σ x - 65) then σ else if pSign σ (x + 1) = 99 then tcou σ 7 (pSign σ x - 65) else σ) else σ
def taR (σ : St) (x : Int32) : Int32 := if pSign σ x = 46 then (if decide (σ 7 1 < σ 7 0) then -6 else 3) else if pDig σ (x + 1) then -6 else if trd σ 7 (pSign σ x - 65) (σ 7 1) then (if decide (pSign σ (x + 1) = 115) && !tmay σ 7 (pSign σ x - 65) then 2 else -6) else 1
def tr1 (σ : St) (x : Int32) : St := ups (taS σ x) 15 1 (taR σ x)
def tr2 (σ : St) (x : Int32) : St := ups (tr1 σ x) 15 0 (tr1 σ x 15 0 + 1)
def trGo : Nat → Int32 → St → St
  | 0, _, σ => σ
  | n + 1, x, σ => if x < σ 13 1 then (if tr1 σ x 15 1 = -6 then trGo n (x + pLen (tr2 σ x) x) (tr2 σ x) else tr1 σ x) else σ
def tr0 (σ : St) : St := ups (ups σ 15 0 0) 15 1 (-6)
def trAll (σ : St) : St := trGo 60 0 (tr0 σ)
set_option maxRecDepth 20000 in
set_option maxHeartbeats 4000000 in
theorem t_X6_tryAct {σ : St} {x : Int32} : Ct MX6_tryAct [.ref 13, .int x, .ref 7] σ (some (.int (taR σ x))) (taS σ x) := by
  refine ct_of (ls0 := [some (.ref 13), some (.int x), some (.ref 7), none, none, none]) ok_MX6_tryAct rfl (Nat.le_of_ble_eq_true rfl) rfl ?_
  intro g X F
  refine zw_aload_0 X dX6_tryAct_0 ?_
  refine zw_iload_1 X dX6_tryAct_1 ?_
  refine zw_cV_ii X dX6_tryAct_2 lk_X6_31 ok_MX1_signAt vi_MX1_signAt rm_X6_tryAct_X1_signAt sh_13 rfl (Nat.le_of_ble_eq_true rfl) t_X1_signAt ?_
  refine zw_istore_3 X dX6_tryAct_5 ?_
  refine zw_iload_3 X dX6_tryAct_6 ?_
  refine zw_bipush (v := 46) X dX6_tryAct_7 bk_46 ?_
  refine zw_icmpne (tgt := 26) X dX6_tryAct_9 (by decide) (fun c_9 => ?_) (fun c_9 => ?_)
  · refine zw_iload_3 X dX6_tryAct_26 ?_
    refine zw_bipush (v := 65) X dX6_tryAct_27 bk_65 ?_
    refine zw_isub X dX6_tryAct_29 ?_
    refine zw_istore_4 X dX6_tryAct_30 ?_
    refine zw_aload_0 X dX6_tryAct_32 ?_
    refine zw_iload_1 X dX6_tryAct_33 ?_
    refine zw_iconst (v := 1) X dX6_tryAct_34 ik_1 ?_
    refine zw_iadd X dX6_tryAct_35 ?_
    refine zw_cV_ii X dX6_tryAct_36 lk_X6_31 ok_MX1_signAt vi_MX1_signAt rm_X6_tryAct_X1_signAt sh_13 rfl (Nat.le_of_ble_eq_true rfl) t_X1_signAt ?_
    refine zw_istore_5 X dX6_tryAct_39 ?_
    refine zw_aload_0 X dX6_tryAct_41 ?_
    refine zw_iload_1 X dX6_tryAct_42 ?_
    refine zw_iconst (v := 1) X dX6_tryAct_43 ik_1 ?_
    refine zw_iadd X dX6_tryAct_44 ?_
    refine zw_cV_ii X dX6_tryAct_45 lk_X6_40 ok_MX1_isDigitAt vi_MX1_isDigitAt rm_X6_tryAct_X1_isDigitAt sh_13 rfl (Nat.le_of_ble_eq_true rfl) t_X1_isDigitAt ?_
    refine zw_ifeqB (tgt := 79) X dX6_tryAct_48 (by decide) (fun c_48 => ?_) (fun c_48 => ?_)
    · refine zw_aload_2 X dX6_tryAct_79 ?_
      refine zw_iload_4 X dX6_tryAct_80 ?_
      refine zw_cV_ii X dX6_tryAct_82 lk_X6_48 ok_MX5_ridesNow vi_MX5_ridesNow rm_X6_tryAct_X5_ridesNow sh_7 rfl (Nat.le_of_ble_eq_true rfl) (t_X5_ridesNow isT_7) ?_
      refine zw_ifneB (tgt := 90) X dX6_tryAct_85 (by decide) (fun c_85 => ?_) (fun c_85 => ?_)
      · refine zw_iload_5 X dX6_tryAct_90 ?_
        refine zw_bipush (v := 115) X dX6_tryAct_92 bk_115 ?_
        refine zw_icmpne (tgt := 108) X dX6_tryAct_94 (by decide) (fun c_94 => ?_) (fun c_94 => ?_)
        · refine zw_iload_5 X dX6_tryAct_108 ?_
          refine zw_bipush (v := 99) X dX6_tryAct_110 bk_99 ?_
          refine zw_icmpne (tgt := 121) X dX6_tryAct_112 (by decide) (fun c_112 => ?_) (fun c_112 => ?_)
          · refine zw_bipush (v := -6) X dX6_tryAct_121 bk_m6 ?_
            exact zw_iret X F dX6_tryAct_123 rfl (by first | (simp only [taR, c_9, c_48, c_85, c_94, c_112, decide_true, decide_false, Bool.and_true, Bool.true_and, Bool.and_false, Bool.false_and, Bool.or_true, Bool.true_or, Bool.or_false, Bool.false_or, Bool.not_true, Bool.not_false, if_true, if_false, ite_true, ite_false, Bool.false_eq_true, not_true_eq_false, not_false_eq_true, bI_t, bI_f, decide_eq_true_eq, reduceCtorEq]; done) | (simp [taR, c_9, c_48, c_85, c_94, c_112]; done) | simp_all) (by first | (simp only [taS, taB, c_9, c_48, c_85, c_94, c_112, decide_true, decide_false, Bool.and_true, Bool.true_and, Bool.and_false, Bool.false_and, Bool.or_true, Bool.true_or, Bool.or_false, Bool.false_or, Bool.not_true, Bool.not_false, if_true, if_false, ite_true, ite_false, Bool.false_eq_true, not_true_eq_false, not_false_eq_true, bI_t, bI_f, decide_eq_true_eq, reduceCtorEq]; done) | (simp [taS, taB, c_9, c_48, c_85, c_94, c_112]; done) | simp_all)
          · refine zw_aload_2 X dX6_tryAct_115 ?_
            refine zw_iload_4 X dX6_tryAct_116 ?_
            refine zw_cV_iv X dX6_tryAct_118 lk_X6_54 ok_MX5_takeCough vi_MX5_takeCough rm_X6_tryAct_X5_takeCough sh_7 rfl (Nat.le_of_ble_eq_true rfl) (t_X5_takeCough isT_7) ?_
            refine zw_bipush (v := -6) X dX6_tryAct_121 bk_m6 ?_
            exact zw_iret X F dX6_tryAct_123 rfl (by first | (simp only [taR, c_9, c_48, c_85, c_94, eq_true c_112, decide_true, decide_false, Bool.and_true, Bool.true_and, Bool.and_false, Bool.false_and, Bool.or_true, Bool.true_or, Bool.or_false, Bool.false_or, Bool.not_true, Bool.not_false, if_true, if_false, ite_true, ite_false, Bool.false_eq_true, not_true_eq_false, not_false_eq_true, bI_t, bI_f, decide_eq_true_eq, reduceCtorEq]; done) | (simp [taR, c_9, c_48, c_85, c_94, eq_true c_112]; done) | simp_all) (by first | (simp only [taS, taB, c_9, c_48, c_85, c_94, eq_true c_112, decide_true, decide_false, Bool.and_true, Bool.true_and, Bool.and_false, Bool.false_and, Bool.or_true, Bool.true_or, Bool.or_false, Bool.false_or, Bool.not_true, Bool.not_false, if_true, if_false, ite_true, ite_false, Bool.false_eq_true, not_true_eq_false, not_false_eq_true, bI_t, bI_f, decide_eq_true_eq, reduceCtorEq]; done) | (simp [taS, taB, c_9, c_48, c_85, c_94, eq_true c_112]; done) | simp_all)
        · refine zw_aload_2 X dX6_tryAct_97 ?_
          refine zw_iload_4 X dX6_tryAct_98 ?_
          refine zw_cV_ii X dX6_tryAct_100 lk_X6_51 ok_MX5_maySpeak vi_MX5_maySpeak rm_X6_tryAct_X5_maySpeak sh_7 rfl (Nat.le_of_ble_eq_true rfl) (t_X5_maySpeak isT_7) ?_
          refine zw_ifneB (tgt := 108) X dX6_tryAct_103 (by decide) (fun c_103 => ?_) (fun c_103 => ?_)
          · refine zw_iload_5 X dX6_tryAct_108 ?_
            refine zw_bipush (v := 99) X dX6_tryAct_110 bk_99 ?_
            refine zw_icmpne (tgt := 121) X dX6_tryAct_112 (by decide) (fun c_112 => ?_) (fun c_112 => ?_)
            · refine zw_bipush (v := -6) X dX6_tryAct_121 bk_m6 ?_
              exact zw_iret X F dX6_tryAct_123 rfl (by first | (simp only [taR, c_9, c_48, c_85, eq_true c_94, c_103, c_112, decide_true, decide_false, Bool.and_true, Bool.true_and, Bool.and_false, Bool.false_and, Bool.or_true, Bool.true_or, Bool.or_false, Bool.false_or, Bool.not_true, Bool.not_false, if_true, if_false, ite_true, ite_false, Bool.false_eq_true, not_true_eq_false, not_false_eq_true, bI_t, bI_f, decide_eq_true_eq, reduceCtorEq]; done) | (simp [taR, c_9, c_48, c_85, eq_true c_94, c_103, c_112]; done) | simp_all) (by first | (simp only [taS, taB, c_9, c_48, c_85, eq_true c_94, c_103, c_112, decide_true, decide_false, Bool.and_true, Bool.true_and, Bool.and_false, Bool.false_and, Bool.or_true, Bool.true_or, Bool.or_false, Bool.false_or, Bool.not_true, Bool.not_false, if_true, if_false, ite_true, ite_false, Bool.false_eq_true, not_true_eq_false, not_false_eq_true, bI_t, bI_f, decide_eq_true_eq, reduceCtorEq]; done) | (simp [taS, taB, c_9, c_48, c_85, eq_true c_94, c_103, c_112]; done) | simp_all)
            · refine zw_aload_2 X dX6_tryAct_115 ?_
              refine zw_iload_4 X dX6_tryAct_116 ?_
              refine zw_cV_iv X dX6_tryAct_118 lk_X6_54 ok_MX5_takeCough vi_MX5_takeCough rm_X6_tryAct_X5_takeCough sh_7 rfl (Nat.le_of_ble_eq_true rfl) (t_X5_takeCough isT_7) ?_
              refine zw_bipush (v := -6) X dX6_tryAct_121 bk_m6 ?_
              exact zw_iret X F dX6_tryAct_123 rfl (by first | (simp only [taR, c_9, c_48, c_85, eq_true c_94, c_103, eq_true c_112, decide_true, decide_false, Bool.and_true, Bool.true_and, Bool.and_false, Bool.false_and, Bool.or_true, Bool.true_or, Bool.or_false, Bool.false_or, Bool.not_true, Bool.not_false, if_true, if_false, ite_true, ite_false, Bool.false_eq_true, not_true_eq_false, not_false_eq_true, bI_t, bI_f, decide_eq_true_eq, reduceCtorEq]; done) | (simp [taR, c_9, c_48, c_85, eq_true c_94, c_103, eq_true c_112]; done) | simp_all) (by first | (simp only [taS, taB, c_9, c_48, c_85, eq_true c_94, c_103, eq_true c_112, decide_true, decide_false, Bool.and_true, Bool.true_and, Bool.and_false, Bool.false_and, Bool.or_true, Bool.true_or, Bool.or_false, Bool.false_or, Bool.not_true, Bool.not_false, if_true, if_false, ite_true, ite_false, Bool.false_eq_true, not_true_eq_false, not_false_eq_true, bI_t, bI_f, decide_eq_true_eq, reduceCtorEq]; done) | (simp [taS, taB, c_9, c_48, c_85, eq_true c_94, c_103, eq_true c_112]; done) | simp_all)
          · refine zw_iconst (v := 2) X dX6_tryAct_106 ik_2 ?_
            exact zw_iret X F dX6_tryAct_107 rfl (by first | (simp only [taR, c_9, c_48, c_85, eq_true c_94, c_103, decide_true, decide_false, Bool.and_true, Bool.true_and, Bool.and_false, Bool.false_and, Bool.or_true, Bool.true_or, Bool.or_false, Bool.false_or, Bool.not_true, Bool.not_false, if_true, if_false, ite_true, ite_false, Bool.false_eq_true, not_true_eq_false, not_false_eq_true, bI_t, bI_f, decide_eq_true_eq, reduceCtorEq]; done) | (simp [taR, c_9, c_48, c_85, eq_true c_94, c_103]; done) | simp_all) (by first | (simp only [taS, taB, c_9, c_48, c_85, eq_true c_94, c_103, decide_true, decide_false, Bool.and_true, Bool.true_and, Bool.and_false, Bool.false_and, Bool.or_true, Bool.true_or, Bool.or_false, Bool.false_or, Bool.not_true, Bool.not_false, if_true, if_false, ite_true, ite_false, Bool.false_eq_true, not_true_eq_false, not_false_eq_true, bI_t, bI_f, decide_eq_true_eq, reduceCtorEq]; done) | (simp [taS, taB, c_9, c_48, c_85, eq_true c_94, c_103]; done) | simp_all)
      · refine zw_iconst (v := 1) X dX6_tryAct_88 ik_1 ?_
        exact zw_iret X F dX6_tryAct_89 rfl (by first | (simp only [taR, c_9, c_48, c_85, decide_true, decide_false, Bool.and_true, Bool.true_and, Bool.and_false, Bool.false_and, Bool.or_true, Bool.true_or, Bool.or_false, Bool.false_or, Bool.not_true, Bool.not_false, if_true, if_false, ite_true, ite_false, Bool.false_eq_true, not_true_eq_false, not_false_eq_true, bI_t, bI_f, decide_eq_true_eq, reduceCtorEq]; done) | (simp [taR, c_9, c_48, c_85]; done) | simp_all) (by first | (simp only [taS, taB, c_9, c_48, c_85, decide_true, decide_false, Bool.and_true, Bool.true_and, Bool.and_false, Bool.false_and, Bool.or_true, Bool.true_or, Bool.or_false, Bool.false_or, Bool.not_true, Bool.not_false, if_true, if_false, ite_true, ite_false, Bool.false_eq_true, not_true_eq_false, not_false_eq_true, bI_t, bI_f, decide_eq_true_eq, reduceCtorEq]; done) | (simp [taS, taB, c_9, c_48, c_85]; done) | simp_all)
    · refine zw_aload_2 X dX6_tryAct_51 ?_
      refine zw_iload_4 X dX6_tryAct_52 ?_
      refine zw_bipush (v := 10) X dX6_tryAct_54 bk_10 ?_
      refine zw_iload_5 X dX6_tryAct_56 ?_
      refine zw_bipush (v := 48) X dX6_tryAct_58 bk_48 ?_
      refine zw_isub X dX6_tryAct_60 ?_
      refine zw_imul X dX6_tryAct_61 ?_
      refine zw_aload_0 X dX6_tryAct_62 ?_
      refine zw_iload_1 X dX6_tryAct_63 ?_
      refine zw_iconst (v := 2) X dX6_tryAct_64 ik_2 ?_
      refine zw_iadd X dX6_tryAct_65 ?_
      refine zw_cV_ii X dX6_tryAct_66 lk_X6_31 ok_MX1_signAt vi_MX1_signAt rm_X6_tryAct_X1_signAt sh_13 rfl (Nat.le_of_ble_eq_true rfl) t_X1_signAt ?_
      refine zw_iadd X dX6_tryAct_69 ?_
      refine zw_bipush (v := 48) X dX6_tryAct_70 bk_48 ?_
      refine zw_isub X dX6_tryAct_72 ?_
      refine zw_cV_iiv X dX6_tryAct_73 lk_X6_44 ok_MX5_setBid vi_MX5_setBid rm_X6_tryAct_X5_setBid sh_7 rfl (Nat.le_of_ble_eq_true rfl) (t_X5_setBid isT_7) ?_
      refine zw_bipush (v := -6) X dX6_tryAct_76 bk_m6 ?_
      exact zw_iret X F dX6_tryAct_78 rfl (by first | (simp only [taR, c_9, c_48, decide_true, decide_false, Bool.and_true, Bool.true_and, Bool.and_false, Bool.false_and, Bool.or_true, Bool.true_or, Bool.or_false, Bool.false_or, Bool.not_true, Bool.not_false, if_true, if_false, ite_true, ite_false, Bool.false_eq_true, not_true_eq_false, not_false_eq_true, bI_t, bI_f, decide_eq_true_eq, reduceCtorEq]; done) | (simp [taR, c_9, c_48]; done) | simp_all) (by first | (simp only [taS, taB, c_9, c_48, decide_true, decide_false, Bool.and_true, Bool.true_and, Bool.and_false, Bool.false_and, Bool.or_true, Bool.true_or, Bool.or_false, Bool.false_or, Bool.not_true, Bool.not_false, if_true, if_false, ite_true, ite_false, Bool.false_eq_true, not_true_eq_false, not_false_eq_true, bI_t, bI_f, decide_eq_true_eq, reduceCtorEq]; done) | (simp [taS, taB, c_9, c_48]; done) | simp_all)
  · refine zw_aload_2 X dX6_tryAct_12 ?_
    refine zw_cV_ni X dX6_tryAct_13 lk_X6_34 ok_MX5_passMinute vi_MX5_passMinute rm_X6_tryAct_X5_passMinute sh_7 rfl (Nat.le_of_ble_eq_true rfl) (t_X5_passMinute isT_7) ?_
    refine zw_ifeqB (tgt := 24) X dX6_tryAct_16 (by decide) (fun c_16 => ?_) (fun c_16 => ?_)
    · refine zw_iconst (v := 3) X dX6_tryAct_24 ik_3 ?_
      exact zw_iret X F dX6_tryAct_25 rfl (by first | (simp only [taR, eq_true c_9, c_16, decide_true, decide_false, Bool.and_true, Bool.true_and, Bool.and_false, Bool.false_and, Bool.or_true, Bool.true_or, Bool.or_false, Bool.false_or, Bool.not_true, Bool.not_false, if_true, if_false, ite_true, ite_false, Bool.false_eq_true, not_true_eq_false, not_false_eq_true, bI_t, bI_f, decide_eq_true_eq, reduceCtorEq]; done) | (simp [taR, eq_true c_9, c_16]; done) | simp_all) (by first | (simp only [taS, taB, eq_true c_9, c_16, decide_true, decide_false, Bool.and_true, Bool.true_and, Bool.and_false, Bool.false_and, Bool.or_true, Bool.true_or, Bool.or_false, Bool.false_or, Bool.not_true, Bool.not_false, if_true, if_false, ite_true, ite_false, Bool.false_eq_true, not_true_eq_false, not_false_eq_true, bI_t, bI_f, decide_eq_true_eq, reduceCtorEq]; done) | (simp [taS, taB, eq_true c_9, c_16]; done) | simp_all)
    · refine zw_bipush (v := -6) X dX6_tryAct_19 bk_m6 ?_
      refine zw_goto (tgt := 25) X dX6_tryAct_21 (by decide) ?_
      exact zw_iret X F dX6_tryAct_25 rfl (by first | (simp only [taR, eq_true c_9, c_16, decide_true, decide_false, Bool.and_true, Bool.true_and, Bool.and_false, Bool.false_and, Bool.or_true, Bool.true_or, Bool.or_false, Bool.false_or, Bool.not_true, Bool.not_false, if_true, if_false, ite_true, ite_false, Bool.false_eq_true, not_true_eq_false, not_false_eq_true, bI_t, bI_f, decide_eq_true_eq, reduceCtorEq]; done) | (simp [taR, eq_true c_9, c_16]; done) | simp_all) (by first | (simp only [taS, taB, eq_true c_9, c_16, decide_true, decide_false, Bool.and_true, Bool.true_and, Bool.and_false, Bool.false_and, Bool.or_true, Bool.true_or, Bool.or_false, Bool.false_or, Bool.not_true, Bool.not_false, if_true, if_false, ite_true, ite_false, Bool.false_eq_true, not_true_eq_false, not_false_eq_true, bI_t, bI_f, decide_eq_true_eq, reduceCtorEq]; done) | (simp [taS, taB, eq_true c_9, c_16]; done) | simp_all)
set_option maxRecDepth 20000 in
set_option maxHeartbeats 4000000 in
theorem l_X6_tryRides {g : Gt} (X : CX g MX6_tryRides) : ∀ (n : Nat) (x T : Int32) (σ : St), n ≤ 60 → T = nI (60 - n) → FnZ g MX6_tryRides none (trGo n x σ) → ZW g 16 [some (.ref 15), some (.ref 13), some (.ref 7), some (.int x), some (.int T)] [] σ := by
  intro n
  induction n with
  | zero =>
    intro x T σ h0 hT F
    subst hT
    refine zw_iload_4 X dX6_tryRides_16 ?_
    refine zw_bipush (v := 60) X dX6_tryRides_18 bk_60 ?_
    refine zw_icmpge_t (tgt := 75) X dX6_tryRides_20 (by decide) (by decide) ?_
    exact zw_vret X F dX6_tryRides_75 rfl rfl
  | succ n ih =>
    intro x T σ h0 hT F
    subst hT
    refine zw_iload_4 X dX6_tryRides_16 ?_
    refine zw_bipush (v := 60) X dX6_tryRides_18 bk_60 ?_
    refine zw_icmpge_f (tgt := 75) X dX6_tryRides_20 (by decide) (nI_lt (b := 60) (by omega) (by decide)) ?_
    refine zw_iload_3 X dX6_tryRides_23 ?_
    refine zw_aload_1 X dX6_tryRides_24 ?_
    refine zw_getI X dX6_tryRides_25 fl_X6_20 ck_X1 sh_13 rfl ?_
    refine zw_icmpge (tgt := 75) X dX6_tryRides_28 (by decide) (fun c_28 => ?_) (fun c_28 => ?_)
    · exact zw_vret X F dX6_tryRides_75 rfl (by simp only [trGo]; rw [if_neg c_28])
    · refine zw_aload_0 X dX6_tryRides_31 ?_
      refine zw_aload_1 X dX6_tryRides_32 ?_
      refine zw_iload_3 X dX6_tryRides_33 ?_
      refine zw_aload_2 X dX6_tryRides_34 ?_
      refine zw_cS_riri X dX6_tryRides_35 lk_X6_23 ok_MX6_tryAct st_MX6_tryAct rm_X6_tryRides_X6_tryAct (Nat.le_of_ble_eq_true rfl) t_X6_tryAct ?_
      refine zw_put X dX6_tryRides_38 fl_X6_15 ck_X6 ft_6_1 sh_15 rfl ?_
      refine zw_aload_0 X dX6_tryRides_41 ?_
      refine zw_getI X dX6_tryRides_42 fl_X6_15 ck_X6 sh_15 rfl ?_
      refine zw_bipush (v := -6) X dX6_tryRides_45 bk_m6 ?_
      refine zw_icmpeq (tgt := 51) X dX6_tryRides_47 (by decide) (fun c_47 => ?_) (fun c_47 => ?_)
      · refine zw_aload_0 X dX6_tryRides_51 ?_
        refine zw_dup_r X dX6_tryRides_52 ?_
        refine zw_getI X dX6_tryRides_53 fl_X6_9 ck_X6 sh_15 rfl ?_
        refine zw_iconst (v := 1) X dX6_tryRides_56 ik_1 ?_
        refine zw_iadd X dX6_tryRides_57 ?_
        refine zw_put X dX6_tryRides_58 fl_X6_9 ck_X6 ft_6_0 sh_15 rfl ?_
        refine zw_iload_3 X dX6_tryRides_61 ?_
        refine zw_aload_1 X dX6_tryRides_62 ?_
        refine zw_iload_3 X dX6_tryRides_63 ?_
        refine zw_cV_ii X dX6_tryRides_64 lk_X6_27 ok_MX1_actLength vi_MX1_actLength rm_X6_tryRides_X1_actLength sh_13 rfl (Nat.le_of_ble_eq_true rfl) t_X1_actLength ?_
        refine zw_iadd X dX6_tryRides_67 ?_
        refine zw_istore_3 X dX6_tryRides_68 ?_
        refine zw_iinc_4_p1 X dX6_tryRides_69 ?_
        refine zw_goto (tgt := 16) X dX6_tryRides_72 (by decide) ?_
        exact ih _ _ _ (by omega) (by rw [show 60 - n = 60 - (n + 1) + 1 by omega]; exact nI_1 _) (by have h := F; simp only [trGo] at h; rw [if_pos c_28, if_pos] at h; exact h; exact c_47)
      · exact zw_vret X F dX6_tryRides_50 rfl (by simp only [trGo]; rw [if_pos c_28, if_neg]; rfl; exact c_47)
set_option maxRecDepth 20000 in
set_option maxHeartbeats 4000000 in
theorem t_X6_tryRides {σ : St} : Ct MX6_tryRides [.ref 15, .ref 13, .ref 7] σ (none) (trAll σ) := by
  refine ct_of (ls0 := [some (.ref 15), some (.ref 13), some (.ref 7), none, none]) ok_MX6_tryRides rfl (Nat.le_of_ble_eq_true rfl) rfl ?_
  intro g X F
  refine zw_iconst (v := 0) X dX6_tryRides_0 ik_0 ?_
  refine zw_istore_3 X dX6_tryRides_1 ?_
  refine zw_aload_0 X dX6_tryRides_2 ?_
  refine zw_iconst (v := 0) X dX6_tryRides_3 ik_0 ?_
  refine zw_put X dX6_tryRides_4 fl_X6_9 ck_X6 ft_6_0 sh_15 rfl ?_
  refine zw_aload_0 X dX6_tryRides_7 ?_
  refine zw_bipush (v := -6) X dX6_tryRides_8 bk_m6 ?_
  refine zw_put X dX6_tryRides_10 fl_X6_15 ck_X6 ft_6_1 sh_15 rfl ?_
  refine zw_iconst (v := 0) X dX6_tryRides_13 ik_0 ?_
  refine zw_istore_4 X dX6_tryRides_14 ?_
  exact l_X6_tryRides X 60 _ _ _ (Nat.le_refl _) rfl F
def isI (k t s : Nat) : Prop := sh k = .inl (0, [none, some t, some s]) ∧ isT t ∧ isS s
theorem isI_22 : isI 22 23 29 := ⟨rfl, isT_23, isS_29⟩
theorem isI_32 : isI 32 33 39 := ⟨rfl, isT_33, isS_39⟩
def iKeep (σ : St) (k t s : Nat) : St := ups (gcopy (tcopy σ t 1) s 16) k 0 1
def iBack (σ : St) (k t s : Nat) : St := gcopy (tcopy σ 1 t) 16 s
set_option maxRecDepth 20000 in
set_option maxHeartbeats 4000000 in
theorem t_X0_keep {σ : St} {k t s : Nat} (hI : isI k t s) : Ct MX0_keep [.ref k, .ref 1, .ref 16] σ (none) (iKeep σ k t s) := by
  refine ct_of (ls0 := [some (.ref k), some (.ref 1), some (.ref 16)]) ok_MX0_keep rfl (Nat.le_of_ble_eq_true rfl) rfl ?_
  intro g X F
  refine zw_aload_0 X dX0_keep_0 ?_
  refine zw_getR X dX0_keep_1 fl_X0_10 ck_X0 hI.1 rfl ?_
  refine zw_aload_1 X dX0_keep_4 ?_
  refine zw_cV_rv X dX0_keep_5 lk_X0_23 ok_MX5_copyFrom vi_MX5_copyFrom rm_X0_keep_X5_copyFrom hI.2.1.1 rfl (Nat.le_of_ble_eq_true rfl) (t_X5_copyFrom hI.2.1 isT_1) ?_
  refine zw_aload_0 X dX0_keep_8 ?_
  refine zw_getR X dX0_keep_9 fl_X0_19 ck_X0 hI.1 rfl ?_
  refine zw_aload_2 X dX0_keep_12 ?_
  refine zw_cV_rv X dX0_keep_13 lk_X0_27 ok_MX4_copyFrom vi_MX4_copyFrom rm_X0_keep_X4_copyFrom hI.2.2.1 rfl (Nat.le_of_ble_eq_true rfl) (t_X4_copyFrom hI.2.2 isS_16) ?_
  refine zw_aload_0 X dX0_keep_16 ?_
  refine zw_iconst (v := 1) X dX0_keep_17 ik_1 ?_
  refine zw_putT .boolean rfl rfl X dX0_keep_18 fl_X0_30 ck_X0 ft_0_0 hI.1 rfl ?_
  exact zw_vret X F dX0_keep_21 rfl (rfl)
set_option maxRecDepth 20000 in
set_option maxHeartbeats 4000000 in
theorem t_X0_bringBack {σ : St} {k t s : Nat} (hI : isI k t s) : Ct MX0_bringBack [.ref k, .ref 1, .ref 16] σ (some (.int (bI (!decide (σ k 0 = 0))))) (if σ k 0 = 0 then σ else iBack σ k t s) := by
  refine ct_of (ls0 := [some (.ref k), some (.ref 1), some (.ref 16)]) ok_MX0_bringBack rfl (Nat.le_of_ble_eq_true rfl) rfl ?_
  intro g X F
  refine zw_aload_0 X dX0_bringBack_0 ?_
  refine zw_getI X dX0_bringBack_1 fl_X0_30 ck_X0 hI.1 rfl ?_
  refine zw_ifne (tgt := 9) X dX0_bringBack_4 (by decide) (fun c_4 => ?_) (fun c_4 => ?_)
  · refine zw_aload_1 X dX0_bringBack_9 ?_
    refine zw_aload_0 X dX0_bringBack_10 ?_
    refine zw_getR X dX0_bringBack_11 fl_X0_10 ck_X0 hI.1 rfl ?_
    refine zw_cV_rv X dX0_bringBack_14 lk_X0_23 ok_MX5_copyFrom vi_MX5_copyFrom rm_X0_bringBack_X5_copyFrom sh_1 rfl (Nat.le_of_ble_eq_true rfl) (t_X5_copyFrom isT_1 hI.2.1) ?_
    refine zw_aload_2 X dX0_bringBack_17 ?_
    refine zw_aload_0 X dX0_bringBack_18 ?_
    refine zw_getR X dX0_bringBack_19 fl_X0_19 ck_X0 hI.1 rfl ?_
    refine zw_cV_rv X dX0_bringBack_22 lk_X0_27 ok_MX4_copyFrom vi_MX4_copyFrom rm_X0_bringBack_X4_copyFrom sh_16 rfl (Nat.le_of_ble_eq_true rfl) (t_X4_copyFrom isS_16 hI.2.2) ?_
    refine zw_iconst (v := 1) X dX0_bringBack_25 ik_1 ?_
    exact zw_zret X F dX0_bringBack_26 rfl (by first | (simp only [bI_0', bI_1', bI_0, bI_1, bI_inj, c_4, decide_true, decide_false, Bool.and_true, Bool.true_and, Bool.and_false, Bool.false_and, Bool.or_true, Bool.true_or, Bool.or_false, Bool.false_or, Bool.not_true, Bool.not_false, if_true, if_false, ite_true, ite_false, Bool.false_eq_true, not_true_eq_false, not_false_eq_true, bI_t, bI_f, decide_eq_true_eq, reduceCtorEq]; done) | (simp [bI_0', bI_1', bI_0, bI_1, bI_inj, c_4]; done) | simp_all) (by simp [iBack, c_4])
  · refine zw_iconst (v := 0) X dX0_bringBack_7 ik_0 ?_
    exact zw_zret X F dX0_bringBack_8 rfl (by first | (simp only [bI_0', bI_1', bI_0, bI_1, bI_inj, eq_true c_4, decide_true, decide_false, Bool.and_true, Bool.true_and, Bool.and_false, Bool.false_and, Bool.or_true, Bool.true_or, Bool.or_false, Bool.false_or, Bool.not_true, Bool.not_false, if_true, if_false, ite_true, ite_false, Bool.false_eq_true, not_true_eq_false, not_false_eq_true, bI_t, bI_f, decide_eq_true_eq, reduceCtorEq]; done) | (simp [bI_0', bI_1', bI_0, bI_1, bI_inj, eq_true c_4]; done) | simp_all) (by simp [iBack, eq_true c_4])
def us (x y : Int32) : Int32 := (x.toUInt32 >>> (y.toUInt32 &&& Int32.toUInt32 31)).toInt32
def bc1 (x : Int32) : Int32 := x - (us x 1 &&& 1431655765)
def bc2 (x : Int32) : Int32 := (x &&& 858993459) + (us x 2 &&& 858993459)
def bc3 (x : Int32) : Int32 := (x + us x 4) &&& 252645135
def bitC (x : Int32) : Int32 := (bc3 (bc2 (bc1 x)) + us (bc3 (bc2 (bc1 x))) 8 + us (bc3 (bc2 (bc1 x)) + us (bc3 (bc2 (bc1 x))) 8) 16) &&& 63
set_option maxRecDepth 20000 in
set_option maxHeartbeats 4000000 in
theorem t_J6_bitCount {σ : St} {x : Int32} : Ct MJ6_bitCount [.int x] σ (some (.int (bitC x))) (σ) := by
  refine ct_of (ls0 := [some (.int x)]) ok_MJ6_bitCount rfl (Nat.le_of_ble_eq_true rfl) rfl ?_
  intro g X F
  refine zw_iload_0 X dJ6_bitCount_0 ?_
  refine zw_iload_0 X dJ6_bitCount_1 ?_
  refine zw_iconst (v := 1) X dJ6_bitCount_2 ik_1 ?_
  refine zw_iushr X dJ6_bitCount_3 ?_
  refine zw_ldcw X dJ6_bitCount_4 kc_J6_265 ?_
  refine zw_iand X dJ6_bitCount_7 ?_
  refine zw_isub X dJ6_bitCount_8 ?_
  refine zw_istore_0 X dJ6_bitCount_9 ?_
  refine zw_iload_0 X dJ6_bitCount_10 ?_
  refine zw_ldcw X dJ6_bitCount_11 kc_J6_266 ?_
  refine zw_iand X dJ6_bitCount_14 ?_
  refine zw_iload_0 X dJ6_bitCount_15 ?_
  refine zw_iconst (v := 2) X dJ6_bitCount_16 ik_2 ?_
  refine zw_iushr X dJ6_bitCount_17 ?_
  refine zw_ldcw X dJ6_bitCount_18 kc_J6_266 ?_
  refine zw_iand X dJ6_bitCount_21 ?_
  refine zw_iadd X dJ6_bitCount_22 ?_
  refine zw_istore_0 X dJ6_bitCount_23 ?_
  refine zw_iload_0 X dJ6_bitCount_24 ?_
  refine zw_iload_0 X dJ6_bitCount_25 ?_
  refine zw_iconst (v := 4) X dJ6_bitCount_26 ik_4 ?_
  refine zw_iushr X dJ6_bitCount_27 ?_
  refine zw_iadd X dJ6_bitCount_28 ?_
  refine zw_ldcw X dJ6_bitCount_29 kc_J6_267 ?_
  refine zw_iand X dJ6_bitCount_32 ?_
  refine zw_istore_0 X dJ6_bitCount_33 ?_
  refine zw_iload_0 X dJ6_bitCount_34 ?_
  refine zw_iload_0 X dJ6_bitCount_35 ?_
  refine zw_bipush (v := 8) X dJ6_bitCount_36 bk_8 ?_
  refine zw_iushr X dJ6_bitCount_38 ?_
  refine zw_iadd X dJ6_bitCount_39 ?_
  refine zw_istore_0 X dJ6_bitCount_40 ?_
  refine zw_iload_0 X dJ6_bitCount_41 ?_
  refine zw_iload_0 X dJ6_bitCount_42 ?_
  refine zw_bipush (v := 16) X dJ6_bitCount_43 bk_16 ?_
  refine zw_iushr X dJ6_bitCount_45 ?_
  refine zw_iadd X dJ6_bitCount_46 ?_
  refine zw_istore_0 X dJ6_bitCount_47 ?_
  refine zw_iload_0 X dJ6_bitCount_48 ?_
  refine zw_bipush (v := 63) X dJ6_bitCount_49 bk_63 ?_
  refine zw_iand X dJ6_bitCount_51 ?_
  exact zw_iret X F dJ6_bitCount_52 rfl (rfl) (rfl)
