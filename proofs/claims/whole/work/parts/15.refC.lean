set_option maxRecDepth 20000 in
set_option maxHeartbeats 1000000 in
theorem t_X8_goWord {σ : St} {k m q : Int32} : Ct MX8_goWord [.ref 42, .int k, .int m, .int q] σ (some (.int ((mgwA σ k m q).1))) ((mgwA σ k m q).2) := by
  refine ct_of (ls0 := [some (.ref 42), some (.int k), some (.int m), some (.int q), none, none, none, none, none, none]) ok_MX8_goWord rfl (Nat.le_of_ble_eq_true rfl) rfl ?_
  intro g X F
  refine zw_aload_0 X dX8_goWord_0 ?_
  refine zw_iconst (v := 1) X dX8_goWord_1 ik_1 ?_
  refine zw_iload_1 X dX8_goWord_2 ?_
  refine zw_ishl X dX8_goWord_3 ?_
  refine zw_put X dX8_goWord_4 fl_X8_160 ck_X8 ft_8_23 sh_42 rfl ?_
  refine zw_iload_3 X dX8_goWord_7 ?_
  refine zw_iload_1 X dX8_goWord_8 ?_
  refine zw_icmpne (tgt := 16) X dX8_goWord_9 (by decide) (fun c_9 => ?_) (fun c_9 => ?_)
  · refine zw_bipush (v := -6) X dX8_goWord_16 bk_m6 ?_
    refine zw_istore_4 X dX8_goWord_18 ?_
    refine zw_iload_2 X dX8_goWord_20 ?_
    refine zw_istore_5 X dX8_goWord_21 ?_
    refine zw_fg_6 ?_
    refine zw_fg_7 ?_
    refine zw_fg_8 ?_
    refine zw_fg_9 ?_
    refine zloop (α := Int32 × St) (S := fun zn za => ∀ (v23_4 : Int32) (s23 : St) (v23_5 : Int32), v23_4 = za.1 → s23 = za.2 → v23_5 = m + nI zn → ZW g 23 [some (.ref 42), some (.int k), some (.int m), some (.int q), some (.int v23_4), some (.int v23_5), none, none, none, none] [] s23) (N := (cnt m (σ 42 0))) (f := (mgwF m q)) (a0 := ((if q = k then m else -6, mgw0 σ k) : Int32 × St)) (fun n23 a23 hn23 ha23 ih23 v23_4 s23 v23_5 hv23_4 hs23 hv23_5 => ?_) (fun a23 ha23 v23_4 s23 v23_5 hv23_4 hs23 hv23_5 => ?_) _ _ _ (by first | (simp only [c_9, decide_true, decide_false, Bool.and_true, Bool.true_and, Bool.and_false, Bool.false_and, Bool.or_true, Bool.true_or, Bool.or_false, Bool.false_or, Bool.not_true, Bool.not_false, if_true, if_false, ite_true, ite_false, Bool.false_eq_true, not_true_eq_false, not_false_eq_true, bI_t, bI_f, decide_eq_true_eq, reduceCtorEq]; done) | (simp [c_9]; done) | contradiction | simp_all) rfl (by rw [nI_0, Int32.add_zero])
    · subst hv23_4 hs23 hv23_5
      have e1 : a23.2 42 0 = σ 42 0 := by rw [ha23]; exact mgw_len _ _ _ _ _
      refine zw_iload_5 X dX8_goWord_23 ?_
      refine zw_aload_0 X dX8_goWord_25 ?_
      refine zw_getI X dX8_goWord_26 fl_X8_7 ck_X8 sh_42 rfl ?_
      refine zw_icmpge_f (tgt := 192) X dX8_goWord_29 (by decide) (by rw [e1]; exact (cnt_lt (Nat.le_of_lt hn23)).mpr hn23) ?_
      refine zw_aload_0 X dX8_goWord_32 ?_
      refine zw_getI X dX8_goWord_33 fl_X8_160 ck_X8 sh_42 rfl ?_
      refine zw_istore_6 X dX8_goWord_36 ?_
      refine zw_iconst (v := 0) X dX8_goWord_38 ik_0 ?_
      refine zw_istore_7 X dX8_goWord_39 ?_
      by_cases hv : hasB (a23.2 42 1) (m + nI n23) = true
      · refine zw_fg_8 ?_
        refine zw_fg_9 ?_
        refine zloop (α := Int32) (S := fun zn za => ∀ (v41_6 : Int32) (v41_7 : Int32), za = v41_6 → v41_7 = nI zn → ZW g 41 [some (.ref 42), some (.int k), some (.int m), some (.int q), some (.int a23.1), some (.int (m + nI n23)), some (.int v41_6), some (.int v41_7), none, none] [] a23.2) (N := 6) (f := (mgw2 a23.2 (m + nI n23) (a23.2 42 23))) (a0 := (a23.2 42 23)) (fun n41 a41 hn41 ha41 ih41 v41_6 v41_7 hv41_6 hv41_7 => ?_) (fun a41 ha41 v41_6 v41_7 hv41_6 hv41_7 => ?_) _ _ rfl rfl
        · subst hv41_6 hv41_7
          refine zw_iload_7 X dX8_goWord_41 ?_
          refine zw_bipush (v := 6) X dX8_goWord_43 bk_6 ?_
          refine zw_icmpge_f (tgt := 155) X dX8_goWord_45 (by decide) (nI_lt hn41 (by decide)) ?_
          refine zw_aload_0 X dX8_goWord_48 ?_
          refine zw_iload_5 X dX8_goWord_49 ?_
          refine zw_cV_ii X dX8_goWord_51 lk_X8_113 ok_MX8_isTunnel vi_MX8_isTunnel rm_X8_goWord_X8_isTunnel sh_42 rfl (Nat.le_of_ble_eq_true rfl) t_X8_isTunnel ?_
          refine zw_ifeq_f (tgt := 155) X dX8_goWord_54 (by decide) (by rw [hv]; decide) ?_
          refine zw_iconst (v := 0) X dX8_goWord_57 ik_0 ?_
          refine zw_istore_8 X dX8_goWord_58 ?_
          refine zw_fg_9 ?_
          refine zloop (α := Int32) (S := fun zn za => ∀ (v60_6 : Int32) (v60_8 : Int32), za = v60_6 → v60_8 = nI zn → ZW g 60 [some (.ref 42), some (.int k), some (.int m), some (.int q), some (.int a23.1), some (.int (m + nI n23)), some (.int v60_6), some (.int (nI n41)), some (.int v60_8), none] [] a23.2) (N := 6) (f := (mgw3 a23.2 (m + nI n23) (a23.2 42 23) n41)) (a0 := a41) (fun n60 a60 hn60 ha60 ih60 v60_6 v60_8 hv60_6 hv60_8 => ?_) (fun a60 ha60 v60_6 v60_8 hv60_6 hv60_8 => ?_) _ _ rfl rfl
          · subst hv60_6 hv60_8
            refine zw_iload_8 X dX8_goWord_60 ?_
            refine zw_bipush (v := 6) X dX8_goWord_62 bk_6 ?_
            refine zw_icmpge_f (tgt := 149) X dX8_goWord_64 (by decide) (nI_lt hn60 (by decide)) ?_
            refine zw_aload_0 X dX8_goWord_67 ?_
            refine zw_iload_7 X dX8_goWord_68 ?_
            refine zw_iload_5 X dX8_goWord_70 ?_
            refine zw_cV_iii X dX8_goWord_72 lk_X8_78 ok_MX8_rides vi_MX8_rides rm_X8_goWord_X8_rides sh_42 rfl (Nat.le_of_ble_eq_true rfl) (t_X8_rides (vp_in_nI hn41 (by decide))) ?_
            refine zw_ifeqB (tgt := 110) X dX8_goWord_75 (by decide) (fun c_75 => ?_) (fun c_75 => ?_)
            · refine zw_iconst (v := 0) X dX8_goWord_110 ik_0 ?_
              refine zw_istore_9 X dX8_goWord_111 ?_
              refine zw_iload_6 X dX8_goWord_113 ?_
              refine zw_iload_9 X dX8_goWord_115 ?_
              refine zw_ifeq_t (tgt := 139) X dX8_goWord_117 (by decide) (by decide) ?_
              refine zw_iconst (v := 0) X dX8_goWord_139 ik_0 ?_
              refine zw_ior X dX8_goWord_140 ?_
              refine zw_istore_6 X dX8_goWord_141 ?_
              refine zw_iinc_8_p1 X dX8_goWord_143 ?_
              refine zw_goto (tgt := 60) X dX8_goWord_146 (by decide) ?_
              refine zw_fg_9 ?_
              exact ih60 _ _ (by first | (simp only [mgw3, hv, c_75, decide_true, decide_false, Bool.and_true, Bool.true_and, Bool.and_false, Bool.false_and, Bool.or_true, Bool.true_or, Bool.or_false, Bool.false_or, Bool.not_true, Bool.not_false, if_true, if_false, ite_true, ite_false, Bool.false_eq_true, not_true_eq_false, not_false_eq_true, bI_t, bI_f, decide_eq_true_eq, reduceCtorEq]; done) | (simp [mgw3, hv, c_75]; done) | contradiction | simp_all) (nI_1 n60)
            · refine zw_aload_0 X dX8_goWord_78 ?_
              refine zw_iload_8 X dX8_goWord_79 ?_
              refine zw_iload_5 X dX8_goWord_81 ?_
              refine zw_cV_iii X dX8_goWord_83 lk_X8_78 ok_MX8_rides vi_MX8_rides rm_X8_goWord_X8_rides sh_42 rfl (Nat.le_of_ble_eq_true rfl) (t_X8_rides (vp_in_nI hn60 (by decide))) ?_
              refine zw_ifeqB (tgt := 110) X dX8_goWord_86 (by decide) (fun c_86 => ?_) (fun c_86 => ?_)
              · refine zw_iconst (v := 0) X dX8_goWord_110 ik_0 ?_
                refine zw_istore_9 X dX8_goWord_111 ?_
                refine zw_iload_6 X dX8_goWord_113 ?_
                refine zw_iload_9 X dX8_goWord_115 ?_
                refine zw_ifeq_t (tgt := 139) X dX8_goWord_117 (by decide) (by decide) ?_
                refine zw_iconst (v := 0) X dX8_goWord_139 ik_0 ?_
                refine zw_ior X dX8_goWord_140 ?_
                refine zw_istore_6 X dX8_goWord_141 ?_
                refine zw_iinc_8_p1 X dX8_goWord_143 ?_
                refine zw_goto (tgt := 60) X dX8_goWord_146 (by decide) ?_
                refine zw_fg_9 ?_
                exact ih60 _ _ (by first | (simp only [mgw3, hv, c_75, c_86, decide_true, decide_false, Bool.and_true, Bool.true_and, Bool.and_false, Bool.false_and, Bool.or_true, Bool.true_or, Bool.or_false, Bool.false_or, Bool.not_true, Bool.not_false, if_true, if_false, ite_true, ite_false, Bool.false_eq_true, not_true_eq_false, not_false_eq_true, bI_t, bI_f, decide_eq_true_eq, reduceCtorEq]; done) | (simp [mgw3, hv, c_75, c_86]; done) | contradiction | simp_all) (nI_1 n60)
              · refine zw_aload_0 X dX8_goWord_89 ?_
                refine zw_getR X dX8_goWord_90 fl_X8_20 ck_X8 sh_42 rfl ?_
                refine zw_iload_7 X dX8_goWord_93 ?_
                refine zw_ialdN X dX8_goWord_95 sh_45 hn41 (by decide) ?_
                refine zw_aload_0 X dX8_goWord_96 ?_
                refine zw_getR X dX8_goWord_97 fl_X8_20 ck_X8 sh_42 rfl ?_
                refine zw_iload_8 X dX8_goWord_100 ?_
                refine zw_ialdN X dX8_goWord_102 sh_45 hn60 (by decide) ?_
                refine zw_icmpne (tgt := 110) X dX8_goWord_103 (by decide) (fun c_103 => ?_) (fun c_103 => ?_)
                · refine zw_iconst (v := 0) X dX8_goWord_110 ik_0 ?_
                  refine zw_istore_9 X dX8_goWord_111 ?_
                  refine zw_iload_6 X dX8_goWord_113 ?_
                  refine zw_iload_9 X dX8_goWord_115 ?_
                  refine zw_ifeq_t (tgt := 139) X dX8_goWord_117 (by decide) (by decide) ?_
                  refine zw_iconst (v := 0) X dX8_goWord_139 ik_0 ?_
                  refine zw_ior X dX8_goWord_140 ?_
                  refine zw_istore_6 X dX8_goWord_141 ?_
                  refine zw_iinc_8_p1 X dX8_goWord_143 ?_
                  refine zw_goto (tgt := 60) X dX8_goWord_146 (by decide) ?_
                  refine zw_fg_9 ?_
                  exact ih60 _ _ (by first | (simp only [mgw3, hv, c_75, c_86, c_103, decide_true, decide_false, Bool.and_true, Bool.true_and, Bool.and_false, Bool.false_and, Bool.or_true, Bool.true_or, Bool.or_false, Bool.false_or, Bool.not_true, Bool.not_false, if_true, if_false, ite_true, ite_false, Bool.false_eq_true, not_true_eq_false, not_false_eq_true, bI_t, bI_f, decide_eq_true_eq, reduceCtorEq]; done) | (simp [mgw3, hv, c_75, c_86, c_103]; done) | contradiction | simp_all) (nI_1 n60)
                · refine zw_iconst (v := 1) X dX8_goWord_106 ik_1 ?_
                  refine zw_goto (tgt := 111) X dX8_goWord_107 (by decide) ?_
                  refine zw_istore_9 X dX8_goWord_111 ?_
                  refine zw_iload_6 X dX8_goWord_113 ?_
                  refine zw_iload_9 X dX8_goWord_115 ?_
                  refine zw_ifeq_f (tgt := 139) X dX8_goWord_117 (by decide) (by decide) ?_
                  refine zw_aload_0 X dX8_goWord_120 ?_
                  refine zw_getI X dX8_goWord_121 fl_X8_160 ck_X8 sh_42 rfl ?_
                  refine zw_iload_8 X dX8_goWord_124 ?_
                  refine zw_cS_iii X dX8_goWord_126 lk_X8_110 ok_MX8_has st_MX8_has rm_X8_goWord_X8_has (Nat.le_of_ble_eq_true rfl) t_X8_has ?_
                  refine zw_ifeqB (tgt := 139) X dX8_goWord_129 (by decide) (fun c_129 => ?_) (fun c_129 => ?_)
                  · refine zw_iconst (v := 0) X dX8_goWord_139 ik_0 ?_
                    refine zw_ior X dX8_goWord_140 ?_
                    refine zw_istore_6 X dX8_goWord_141 ?_
                    refine zw_iinc_8_p1 X dX8_goWord_143 ?_
                    refine zw_goto (tgt := 60) X dX8_goWord_146 (by decide) ?_
                    refine zw_fg_9 ?_
                    exact ih60 _ _ (by first | (simp only [mgw3, hv, c_75, c_86, eq_true c_103, c_129, decide_true, decide_false, Bool.and_true, Bool.true_and, Bool.and_false, Bool.false_and, Bool.or_true, Bool.true_or, Bool.or_false, Bool.false_or, Bool.not_true, Bool.not_false, if_true, if_false, ite_true, ite_false, Bool.false_eq_true, not_true_eq_false, not_false_eq_true, bI_t, bI_f, decide_eq_true_eq, reduceCtorEq]; done) | (simp [mgw3, hv, c_75, c_86, eq_true c_103, c_129]; done) | contradiction | simp_all) (nI_1 n60)
                  · refine zw_iconst (v := 1) X dX8_goWord_132 ik_1 ?_
                    refine zw_iload_7 X dX8_goWord_133 ?_
                    refine zw_ishl X dX8_goWord_135 ?_
                    refine zw_goto (tgt := 140) X dX8_goWord_136 (by decide) ?_
                    refine zw_ior X dX8_goWord_140 ?_
                    refine zw_istore_6 X dX8_goWord_141 ?_
                    refine zw_iinc_8_p1 X dX8_goWord_143 ?_
                    refine zw_goto (tgt := 60) X dX8_goWord_146 (by decide) ?_
                    refine zw_fg_9 ?_
                    exact ih60 _ _ (by first | (simp only [mgw3, hv, c_75, c_86, eq_true c_103, c_129, decide_true, decide_false, Bool.and_true, Bool.true_and, Bool.and_false, Bool.false_and, Bool.or_true, Bool.true_or, Bool.or_false, Bool.false_or, Bool.not_true, Bool.not_false, if_true, if_false, ite_true, ite_false, Bool.false_eq_true, not_true_eq_false, not_false_eq_true, bI_t, bI_f, decide_eq_true_eq, reduceCtorEq]; done) | (simp [mgw3, hv, c_75, c_86, eq_true c_103, c_129]; done) | contradiction | simp_all) (nI_1 n60)
          · subst hv60_6 hv60_8
            refine zw_iload_8 X dX8_goWord_60 ?_
            refine zw_bipush (v := 6) X dX8_goWord_62 bk_6 ?_
            refine zw_icmpge_t (tgt := 149) X dX8_goWord_64 (by decide) (by decide) ?_
            refine zw_iinc_7_p1 X dX8_goWord_149 ?_
            refine zw_goto (tgt := 41) X dX8_goWord_152 (by decide) ?_
            refine zw_fg_8 ?_
            refine zw_fg_9 ?_
            exact ih41 _ _ (by first | (simp only [mgw2, ← ha60, hv, decide_true, decide_false, Bool.and_true, Bool.true_and, Bool.and_false, Bool.false_and, Bool.or_true, Bool.true_or, Bool.or_false, Bool.false_or, Bool.not_true, Bool.not_false, if_true, if_false, ite_true, ite_false, Bool.false_eq_true, not_true_eq_false, not_false_eq_true, bI_t, bI_f, decide_eq_true_eq, reduceCtorEq]; done) | (simp [mgw2, ← ha60, hv]; done) | contradiction | simp_all) (nI_1 n41)
        · subst hv41_6 hv41_7
          refine zw_iload_7 X dX8_goWord_41 ?_
          refine zw_bipush (v := 6) X dX8_goWord_43 bk_6 ?_
          refine zw_icmpge_t (tgt := 155) X dX8_goWord_45 (by decide) (by decide) ?_
          refine zw_aload_0 X dX8_goWord_155 ?_
          refine zw_iload_6 X dX8_goWord_156 ?_
          refine zw_put X dX8_goWord_158 fl_X8_160 ck_X8 ft_8_23 sh_42 rfl ?_
          refine zw_iload_4 X dX8_goWord_161 ?_
          refine zw_ifge (tgt := 182) X dX8_goWord_163 (by decide) (fun c_163 => ?_) (fun c_163 => ?_)
          · refine zw_iload_4 X dX8_goWord_182 ?_
            refine zw_istore_4 X dX8_goWord_184 ?_
            refine zw_iinc_5_p1 X dX8_goWord_186 ?_
            refine zw_goto (tgt := 23) X dX8_goWord_189 (by decide) ?_
            refine zw_fg_6 ?_
            refine zw_fg_7 ?_
            refine zw_fg_8 ?_
            refine zw_fg_9 ?_
            exact ih23 _ _ _ (by first | (simp only [mgwF, mgw1, hv, ← ha41, c_163, decide_true, decide_false, Bool.and_true, Bool.true_and, Bool.and_false, Bool.false_and, Bool.or_true, Bool.true_or, Bool.or_false, Bool.false_or, Bool.not_true, Bool.not_false, if_true, if_false, ite_true, ite_false, Bool.false_eq_true, not_true_eq_false, not_false_eq_true, bI_t, bI_f, decide_eq_true_eq, reduceCtorEq]; done) | (simp [mgwF, mgw1, hv, ← ha41, c_163]; done) | contradiction | simp_all) (by first | (simp only [mgwF, mgw1, hv, ← ha41, c_163, decide_true, decide_false, Bool.and_true, Bool.true_and, Bool.and_false, Bool.false_and, Bool.or_true, Bool.true_or, Bool.or_false, Bool.false_or, Bool.not_true, Bool.not_false, if_true, if_false, ite_true, ite_false, Bool.false_eq_true, not_true_eq_false, not_false_eq_true, bI_t, bI_f, decide_eq_true_eq, reduceCtorEq]; done) | (simp [mgwF, mgw1, hv, ← ha41, c_163]; done) | contradiction | simp_all) (add_nI _ n23)
          · refine zw_aload_0 X dX8_goWord_166 ?_
            refine zw_getI X dX8_goWord_167 fl_X8_160 ck_X8 sh_42 rfl ?_
            rw [ups_s]
            refine zw_iload_3 X dX8_goWord_170 ?_
            refine zw_cS_iii X dX8_goWord_171 lk_X8_110 ok_MX8_has st_MX8_has rm_X8_goWord_X8_has (Nat.le_of_ble_eq_true rfl) t_X8_has ?_
            refine zw_ifeqB (tgt := 182) X dX8_goWord_174 (by decide) (fun c_174 => ?_) (fun c_174 => ?_)
            · refine zw_iload_4 X dX8_goWord_182 ?_
              refine zw_istore_4 X dX8_goWord_184 ?_
              refine zw_iinc_5_p1 X dX8_goWord_186 ?_
              refine zw_goto (tgt := 23) X dX8_goWord_189 (by decide) ?_
              refine zw_fg_6 ?_
              refine zw_fg_7 ?_
              refine zw_fg_8 ?_
              refine zw_fg_9 ?_
              exact ih23 _ _ _ (by first | (simp only [mgwF, mgw1, hv, ← ha41, c_163, c_174, decide_true, decide_false, Bool.and_true, Bool.true_and, Bool.and_false, Bool.false_and, Bool.or_true, Bool.true_or, Bool.or_false, Bool.false_or, Bool.not_true, Bool.not_false, if_true, if_false, ite_true, ite_false, Bool.false_eq_true, not_true_eq_false, not_false_eq_true, bI_t, bI_f, decide_eq_true_eq, reduceCtorEq]; done) | (simp [mgwF, mgw1, hv, ← ha41, c_163, c_174]; done) | contradiction | simp_all) (by first | (simp only [mgwF, mgw1, hv, ← ha41, c_163, c_174, decide_true, decide_false, Bool.and_true, Bool.true_and, Bool.and_false, Bool.false_and, Bool.or_true, Bool.true_or, Bool.or_false, Bool.false_or, Bool.not_true, Bool.not_false, if_true, if_false, ite_true, ite_false, Bool.false_eq_true, not_true_eq_false, not_false_eq_true, bI_t, bI_f, decide_eq_true_eq, reduceCtorEq]; done) | (simp [mgwF, mgw1, hv, ← ha41, c_163, c_174]; done) | contradiction | simp_all) (add_nI _ n23)
            · refine zw_iload_5 X dX8_goWord_177 ?_
              refine zw_goto (tgt := 184) X dX8_goWord_179 (by decide) ?_
              refine zw_istore_4 X dX8_goWord_184 ?_
              refine zw_iinc_5_p1 X dX8_goWord_186 ?_
              refine zw_goto (tgt := 23) X dX8_goWord_189 (by decide) ?_
              refine zw_fg_6 ?_
              refine zw_fg_7 ?_
              refine zw_fg_8 ?_
              refine zw_fg_9 ?_
              exact ih23 _ _ _ (by first | (simp only [mgwF, mgw1, hv, ← ha41, c_163, c_174, decide_true, decide_false, Bool.and_true, Bool.true_and, Bool.and_false, Bool.false_and, Bool.or_true, Bool.true_or, Bool.or_false, Bool.false_or, Bool.not_true, Bool.not_false, if_true, if_false, ite_true, ite_false, Bool.false_eq_true, not_true_eq_false, not_false_eq_true, bI_t, bI_f, decide_eq_true_eq, reduceCtorEq]; done) | (simp [mgwF, mgw1, hv, ← ha41, c_163, c_174]; done) | contradiction | simp_all) (by first | (simp only [mgwF, mgw1, hv, ← ha41, c_163, c_174, decide_true, decide_false, Bool.and_true, Bool.true_and, Bool.and_false, Bool.false_and, Bool.or_true, Bool.true_or, Bool.or_false, Bool.false_or, Bool.not_true, Bool.not_false, if_true, if_false, ite_true, ite_false, Bool.false_eq_true, not_true_eq_false, not_false_eq_true, bI_t, bI_f, decide_eq_true_eq, reduceCtorEq]; done) | (simp [mgwF, mgw1, hv, ← ha41, c_163, c_174]; done) | contradiction | simp_all) (add_nI _ n23)
      · have hv : hasB (a23.2 42 1) (m + nI n23) = false := by simpa using hv
        refine zw_iload_7 X dX8_goWord_41 ?_
        refine zw_bipush (v := 6) X dX8_goWord_43 bk_6 ?_
        refine zw_icmpge_f (tgt := 155) X dX8_goWord_45 (by decide) (by decide) ?_
        refine zw_aload_0 X dX8_goWord_48 ?_
        refine zw_iload_5 X dX8_goWord_49 ?_
        refine zw_cV_ii X dX8_goWord_51 lk_X8_113 ok_MX8_isTunnel vi_MX8_isTunnel rm_X8_goWord_X8_isTunnel sh_42 rfl (Nat.le_of_ble_eq_true rfl) t_X8_isTunnel ?_
        refine zw_ifeq_t (tgt := 155) X dX8_goWord_54 (by decide) (by rw [hv]; rfl) ?_
        refine zw_aload_0 X dX8_goWord_155 ?_
        refine zw_iload_6 X dX8_goWord_156 ?_
        refine zw_put X dX8_goWord_158 fl_X8_160 ck_X8 ft_8_23 sh_42 rfl ?_
        refine zw_iload_4 X dX8_goWord_161 ?_
        refine zw_ifge (tgt := 182) X dX8_goWord_163 (by decide) (fun c_163 => ?_) (fun c_163 => ?_)
        · refine zw_iload_4 X dX8_goWord_182 ?_
          refine zw_istore_4 X dX8_goWord_184 ?_
          refine zw_iinc_5_p1 X dX8_goWord_186 ?_
          refine zw_goto (tgt := 23) X dX8_goWord_189 (by decide) ?_
          refine zw_fg_6 ?_
          refine zw_fg_7 ?_
          refine zw_fg_8 ?_
          refine zw_fg_9 ?_
          exact ih23 _ _ _ (by first | (simp only [mgwF, mgw1, hv, c_163, decide_true, decide_false, Bool.and_true, Bool.true_and, Bool.and_false, Bool.false_and, Bool.or_true, Bool.true_or, Bool.or_false, Bool.false_or, Bool.not_true, Bool.not_false, if_true, if_false, ite_true, ite_false, Bool.false_eq_true, not_true_eq_false, not_false_eq_true, bI_t, bI_f, decide_eq_true_eq, reduceCtorEq]; done) | (simp [mgwF, mgw1, hv, c_163]; done) | contradiction | simp_all) (by first | (simp only [mgwF, mgw1, hv, c_163, decide_true, decide_false, Bool.and_true, Bool.true_and, Bool.and_false, Bool.false_and, Bool.or_true, Bool.true_or, Bool.or_false, Bool.false_or, Bool.not_true, Bool.not_false, if_true, if_false, ite_true, ite_false, Bool.false_eq_true, not_true_eq_false, not_false_eq_true, bI_t, bI_f, decide_eq_true_eq, reduceCtorEq]; done) | (simp [mgwF, mgw1, hv, c_163]; done) | contradiction | simp_all) (add_nI _ n23)
        · refine zw_aload_0 X dX8_goWord_166 ?_
          refine zw_getI X dX8_goWord_167 fl_X8_160 ck_X8 sh_42 rfl ?_
          rw [ups_s]
          refine zw_iload_3 X dX8_goWord_170 ?_
          refine zw_cS_iii X dX8_goWord_171 lk_X8_110 ok_MX8_has st_MX8_has rm_X8_goWord_X8_has (Nat.le_of_ble_eq_true rfl) t_X8_has ?_
          refine zw_ifeqB (tgt := 182) X dX8_goWord_174 (by decide) (fun c_174 => ?_) (fun c_174 => ?_)
          · refine zw_iload_4 X dX8_goWord_182 ?_
            refine zw_istore_4 X dX8_goWord_184 ?_
            refine zw_iinc_5_p1 X dX8_goWord_186 ?_
            refine zw_goto (tgt := 23) X dX8_goWord_189 (by decide) ?_
            refine zw_fg_6 ?_
            refine zw_fg_7 ?_
            refine zw_fg_8 ?_
            refine zw_fg_9 ?_
            exact ih23 _ _ _ (by first | (simp only [mgwF, mgw1, hv, c_163, c_174, decide_true, decide_false, Bool.and_true, Bool.true_and, Bool.and_false, Bool.false_and, Bool.or_true, Bool.true_or, Bool.or_false, Bool.false_or, Bool.not_true, Bool.not_false, if_true, if_false, ite_true, ite_false, Bool.false_eq_true, not_true_eq_false, not_false_eq_true, bI_t, bI_f, decide_eq_true_eq, reduceCtorEq]; done) | (simp [mgwF, mgw1, hv, c_163, c_174]; done) | contradiction | simp_all) (by first | (simp only [mgwF, mgw1, hv, c_163, c_174, decide_true, decide_false, Bool.and_true, Bool.true_and, Bool.and_false, Bool.false_and, Bool.or_true, Bool.true_or, Bool.or_false, Bool.false_or, Bool.not_true, Bool.not_false, if_true, if_false, ite_true, ite_false, Bool.false_eq_true, not_true_eq_false, not_false_eq_true, bI_t, bI_f, decide_eq_true_eq, reduceCtorEq]; done) | (simp [mgwF, mgw1, hv, c_163, c_174]; done) | contradiction | simp_all) (add_nI _ n23)
          · refine zw_iload_5 X dX8_goWord_177 ?_
            refine zw_goto (tgt := 184) X dX8_goWord_179 (by decide) ?_
            refine zw_istore_4 X dX8_goWord_184 ?_
            refine zw_iinc_5_p1 X dX8_goWord_186 ?_
            refine zw_goto (tgt := 23) X dX8_goWord_189 (by decide) ?_
            refine zw_fg_6 ?_
            refine zw_fg_7 ?_
            refine zw_fg_8 ?_
            refine zw_fg_9 ?_
            exact ih23 _ _ _ (by first | (simp only [mgwF, mgw1, hv, c_163, c_174, decide_true, decide_false, Bool.and_true, Bool.true_and, Bool.and_false, Bool.false_and, Bool.or_true, Bool.true_or, Bool.or_false, Bool.false_or, Bool.not_true, Bool.not_false, if_true, if_false, ite_true, ite_false, Bool.false_eq_true, not_true_eq_false, not_false_eq_true, bI_t, bI_f, decide_eq_true_eq, reduceCtorEq]; done) | (simp [mgwF, mgw1, hv, c_163, c_174]; done) | contradiction | simp_all) (by first | (simp only [mgwF, mgw1, hv, c_163, c_174, decide_true, decide_false, Bool.and_true, Bool.true_and, Bool.and_false, Bool.false_and, Bool.or_true, Bool.true_or, Bool.or_false, Bool.false_or, Bool.not_true, Bool.not_false, if_true, if_false, ite_true, ite_false, Bool.false_eq_true, not_true_eq_false, not_false_eq_true, bI_t, bI_f, decide_eq_true_eq, reduceCtorEq]; done) | (simp [mgwF, mgw1, hv, c_163, c_174]; done) | contradiction | simp_all) (add_nI _ n23)
    · subst hv23_4 hs23 hv23_5
      have e1 : a23.2 42 0 = σ 42 0 := by rw [ha23]; exact mgw_len _ _ _ _ _
      refine zw_iload_5 X dX8_goWord_23 ?_
      refine zw_aload_0 X dX8_goWord_25 ?_
      refine zw_getI X dX8_goWord_26 fl_X8_7 ck_X8 sh_42 rfl ?_
      refine zw_icmpge_t (tgt := 192) X dX8_goWord_29 (by decide) (by rw [e1]; exact fun h => Nat.lt_irrefl _ ((cnt_lt (Nat.le_refl _)).mp h)) ?_
      refine zw_iload_4 X dX8_goWord_192 ?_
      exact zw_iret X F dX8_goWord_194 rfl (by rw [mgwA, ← ha23]) (by rw [mgwA, ← ha23])
  · refine zw_iload_2 X dX8_goWord_12 ?_
    refine zw_goto (tgt := 18) X dX8_goWord_13 (by decide) ?_
    refine zw_istore_4 X dX8_goWord_18 ?_
    refine zw_iload_2 X dX8_goWord_20 ?_
    refine zw_istore_5 X dX8_goWord_21 ?_
    refine zw_fg_6 ?_
    refine zw_fg_7 ?_
    refine zw_fg_8 ?_
    refine zw_fg_9 ?_
    refine zloop (α := Int32 × St) (S := fun zn za => ∀ (v23_4 : Int32) (s23 : St) (v23_5 : Int32), v23_4 = za.1 → s23 = za.2 → v23_5 = m + nI zn → ZW g 23 [some (.ref 42), some (.int k), some (.int m), some (.int q), some (.int v23_4), some (.int v23_5), none, none, none, none] [] s23) (N := (cnt m (σ 42 0))) (f := (mgwF m q)) (a0 := ((if q = k then m else -6, mgw0 σ k) : Int32 × St)) (fun n23 a23 hn23 ha23 ih23 v23_4 s23 v23_5 hv23_4 hs23 hv23_5 => ?_) (fun a23 ha23 v23_4 s23 v23_5 hv23_4 hs23 hv23_5 => ?_) _ _ _ (by first | (simp only [eq_true c_9, decide_true, decide_false, Bool.and_true, Bool.true_and, Bool.and_false, Bool.false_and, Bool.or_true, Bool.true_or, Bool.or_false, Bool.false_or, Bool.not_true, Bool.not_false, if_true, if_false, ite_true, ite_false, Bool.false_eq_true, not_true_eq_false, not_false_eq_true, bI_t, bI_f, decide_eq_true_eq, reduceCtorEq]; done) | (simp [eq_true c_9]; done) | contradiction | simp_all) rfl (by rw [nI_0, Int32.add_zero])
    · subst hv23_4 hs23 hv23_5
      have e1 : a23.2 42 0 = σ 42 0 := by rw [ha23]; exact mgw_len _ _ _ _ _
      refine zw_iload_5 X dX8_goWord_23 ?_
      refine zw_aload_0 X dX8_goWord_25 ?_
      refine zw_getI X dX8_goWord_26 fl_X8_7 ck_X8 sh_42 rfl ?_
      refine zw_icmpge_f (tgt := 192) X dX8_goWord_29 (by decide) (by rw [e1]; exact (cnt_lt (Nat.le_of_lt hn23)).mpr hn23) ?_
      refine zw_aload_0 X dX8_goWord_32 ?_
      refine zw_getI X dX8_goWord_33 fl_X8_160 ck_X8 sh_42 rfl ?_
      refine zw_istore_6 X dX8_goWord_36 ?_
      refine zw_iconst (v := 0) X dX8_goWord_38 ik_0 ?_
      refine zw_istore_7 X dX8_goWord_39 ?_
      by_cases hv : hasB (a23.2 42 1) (m + nI n23) = true
      · refine zw_fg_8 ?_
        refine zw_fg_9 ?_
        refine zloop (α := Int32) (S := fun zn za => ∀ (v41_6 : Int32) (v41_7 : Int32), za = v41_6 → v41_7 = nI zn → ZW g 41 [some (.ref 42), some (.int k), some (.int m), some (.int q), some (.int a23.1), some (.int (m + nI n23)), some (.int v41_6), some (.int v41_7), none, none] [] a23.2) (N := 6) (f := (mgw2 a23.2 (m + nI n23) (a23.2 42 23))) (a0 := (a23.2 42 23)) (fun n41 a41 hn41 ha41 ih41 v41_6 v41_7 hv41_6 hv41_7 => ?_) (fun a41 ha41 v41_6 v41_7 hv41_6 hv41_7 => ?_) _ _ rfl rfl
        · subst hv41_6 hv41_7
          refine zw_iload_7 X dX8_goWord_41 ?_
          refine zw_bipush (v := 6) X dX8_goWord_43 bk_6 ?_
          refine zw_icmpge_f (tgt := 155) X dX8_goWord_45 (by decide) (nI_lt hn41 (by decide)) ?_
          refine zw_aload_0 X dX8_goWord_48 ?_
          refine zw_iload_5 X dX8_goWord_49 ?_
          refine zw_cV_ii X dX8_goWord_51 lk_X8_113 ok_MX8_isTunnel vi_MX8_isTunnel rm_X8_goWord_X8_isTunnel sh_42 rfl (Nat.le_of_ble_eq_true rfl) t_X8_isTunnel ?_
          refine zw_ifeq_f (tgt := 155) X dX8_goWord_54 (by decide) (by rw [hv]; decide) ?_
          refine zw_iconst (v := 0) X dX8_goWord_57 ik_0 ?_
          refine zw_istore_8 X dX8_goWord_58 ?_
          refine zw_fg_9 ?_
          refine zloop (α := Int32) (S := fun zn za => ∀ (v60_6 : Int32) (v60_8 : Int32), za = v60_6 → v60_8 = nI zn → ZW g 60 [some (.ref 42), some (.int k), some (.int m), some (.int q), some (.int a23.1), some (.int (m + nI n23)), some (.int v60_6), some (.int (nI n41)), some (.int v60_8), none] [] a23.2) (N := 6) (f := (mgw3 a23.2 (m + nI n23) (a23.2 42 23) n41)) (a0 := a41) (fun n60 a60 hn60 ha60 ih60 v60_6 v60_8 hv60_6 hv60_8 => ?_) (fun a60 ha60 v60_6 v60_8 hv60_6 hv60_8 => ?_) _ _ rfl rfl
          · subst hv60_6 hv60_8
            refine zw_iload_8 X dX8_goWord_60 ?_
            refine zw_bipush (v := 6) X dX8_goWord_62 bk_6 ?_
            refine zw_icmpge_f (tgt := 149) X dX8_goWord_64 (by decide) (nI_lt hn60 (by decide)) ?_
            refine zw_aload_0 X dX8_goWord_67 ?_
            refine zw_iload_7 X dX8_goWord_68 ?_
            refine zw_iload_5 X dX8_goWord_70 ?_
            refine zw_cV_iii X dX8_goWord_72 lk_X8_78 ok_MX8_rides vi_MX8_rides rm_X8_goWord_X8_rides sh_42 rfl (Nat.le_of_ble_eq_true rfl) (t_X8_rides (vp_in_nI hn41 (by decide))) ?_
            refine zw_ifeqB (tgt := 110) X dX8_goWord_75 (by decide) (fun c_75 => ?_) (fun c_75 => ?_)
            · refine zw_iconst (v := 0) X dX8_goWord_110 ik_0 ?_
              refine zw_istore_9 X dX8_goWord_111 ?_
              refine zw_iload_6 X dX8_goWord_113 ?_
              refine zw_iload_9 X dX8_goWord_115 ?_
              refine zw_ifeq_t (tgt := 139) X dX8_goWord_117 (by decide) (by decide) ?_
              refine zw_iconst (v := 0) X dX8_goWord_139 ik_0 ?_
              refine zw_ior X dX8_goWord_140 ?_
              refine zw_istore_6 X dX8_goWord_141 ?_
              refine zw_iinc_8_p1 X dX8_goWord_143 ?_
              refine zw_goto (tgt := 60) X dX8_goWord_146 (by decide) ?_
              refine zw_fg_9 ?_
              exact ih60 _ _ (by first | (simp only [mgw3, hv, c_75, decide_true, decide_false, Bool.and_true, Bool.true_and, Bool.and_false, Bool.false_and, Bool.or_true, Bool.true_or, Bool.or_false, Bool.false_or, Bool.not_true, Bool.not_false, if_true, if_false, ite_true, ite_false, Bool.false_eq_true, not_true_eq_false, not_false_eq_true, bI_t, bI_f, decide_eq_true_eq, reduceCtorEq]; done) | (simp [mgw3, hv, c_75]; done) | contradiction | simp_all) (nI_1 n60)
            · refine zw_aload_0 X dX8_goWord_78 ?_
              refine zw_iload_8 X dX8_goWord_79 ?_
              refine zw_iload_5 X dX8_goWord_81 ?_
              refine zw_cV_iii X dX8_goWord_83 lk_X8_78 ok_MX8_rides vi_MX8_rides rm_X8_goWord_X8_rides sh_42 rfl (Nat.le_of_ble_eq_true rfl) (t_X8_rides (vp_in_nI hn60 (by decide))) ?_
              refine zw_ifeqB (tgt := 110) X dX8_goWord_86 (by decide) (fun c_86 => ?_) (fun c_86 => ?_)
              · refine zw_iconst (v := 0) X dX8_goWord_110 ik_0 ?_
                refine zw_istore_9 X dX8_goWord_111 ?_
                refine zw_iload_6 X dX8_goWord_113 ?_
                refine zw_iload_9 X dX8_goWord_115 ?_
                refine zw_ifeq_t (tgt := 139) X dX8_goWord_117 (by decide) (by decide) ?_
                refine zw_iconst (v := 0) X dX8_goWord_139 ik_0 ?_
                refine zw_ior X dX8_goWord_140 ?_
                refine zw_istore_6 X dX8_goWord_141 ?_
                refine zw_iinc_8_p1 X dX8_goWord_143 ?_
                refine zw_goto (tgt := 60) X dX8_goWord_146 (by decide) ?_
                refine zw_fg_9 ?_
                exact ih60 _ _ (by first | (simp only [mgw3, hv, c_75, c_86, decide_true, decide_false, Bool.and_true, Bool.true_and, Bool.and_false, Bool.false_and, Bool.or_true, Bool.true_or, Bool.or_false, Bool.false_or, Bool.not_true, Bool.not_false, if_true, if_false, ite_true, ite_false, Bool.false_eq_true, not_true_eq_false, not_false_eq_true, bI_t, bI_f, decide_eq_true_eq, reduceCtorEq]; done) | (simp [mgw3, hv, c_75, c_86]; done) | contradiction | simp_all) (nI_1 n60)
              · refine zw_aload_0 X dX8_goWord_89 ?_
                refine zw_getR X dX8_goWord_90 fl_X8_20 ck_X8 sh_42 rfl ?_
                refine zw_iload_7 X dX8_goWord_93 ?_
                refine zw_ialdN X dX8_goWord_95 sh_45 hn41 (by decide) ?_
                refine zw_aload_0 X dX8_goWord_96 ?_
                refine zw_getR X dX8_goWord_97 fl_X8_20 ck_X8 sh_42 rfl ?_
                refine zw_iload_8 X dX8_goWord_100 ?_
                refine zw_ialdN X dX8_goWord_102 sh_45 hn60 (by decide) ?_
                refine zw_icmpne (tgt := 110) X dX8_goWord_103 (by decide) (fun c_103 => ?_) (fun c_103 => ?_)
                · refine zw_iconst (v := 0) X dX8_goWord_110 ik_0 ?_
                  refine zw_istore_9 X dX8_goWord_111 ?_
                  refine zw_iload_6 X dX8_goWord_113 ?_
                  refine zw_iload_9 X dX8_goWord_115 ?_
                  refine zw_ifeq_t (tgt := 139) X dX8_goWord_117 (by decide) (by decide) ?_
                  refine zw_iconst (v := 0) X dX8_goWord_139 ik_0 ?_
                  refine zw_ior X dX8_goWord_140 ?_
                  refine zw_istore_6 X dX8_goWord_141 ?_
                  refine zw_iinc_8_p1 X dX8_goWord_143 ?_
                  refine zw_goto (tgt := 60) X dX8_goWord_146 (by decide) ?_
                  refine zw_fg_9 ?_
                  exact ih60 _ _ (by first | (simp only [mgw3, hv, c_75, c_86, c_103, decide_true, decide_false, Bool.and_true, Bool.true_and, Bool.and_false, Bool.false_and, Bool.or_true, Bool.true_or, Bool.or_false, Bool.false_or, Bool.not_true, Bool.not_false, if_true, if_false, ite_true, ite_false, Bool.false_eq_true, not_true_eq_false, not_false_eq_true, bI_t, bI_f, decide_eq_true_eq, reduceCtorEq]; done) | (simp [mgw3, hv, c_75, c_86, c_103]; done) | contradiction | simp_all) (nI_1 n60)
                · refine zw_iconst (v := 1) X dX8_goWord_106 ik_1 ?_
                  refine zw_goto (tgt := 111) X dX8_goWord_107 (by decide) ?_
                  refine zw_istore_9 X dX8_goWord_111 ?_
                  refine zw_iload_6 X dX8_goWord_113 ?_
                  refine zw_iload_9 X dX8_goWord_115 ?_
                  refine zw_ifeq_f (tgt := 139) X dX8_goWord_117 (by decide) (by decide) ?_
                  refine zw_aload_0 X dX8_goWord_120 ?_
                  refine zw_getI X dX8_goWord_121 fl_X8_160 ck_X8 sh_42 rfl ?_
                  refine zw_iload_8 X dX8_goWord_124 ?_
                  refine zw_cS_iii X dX8_goWord_126 lk_X8_110 ok_MX8_has st_MX8_has rm_X8_goWord_X8_has (Nat.le_of_ble_eq_true rfl) t_X8_has ?_
                  refine zw_ifeqB (tgt := 139) X dX8_goWord_129 (by decide) (fun c_129 => ?_) (fun c_129 => ?_)
                  · refine zw_iconst (v := 0) X dX8_goWord_139 ik_0 ?_
                    refine zw_ior X dX8_goWord_140 ?_
                    refine zw_istore_6 X dX8_goWord_141 ?_
                    refine zw_iinc_8_p1 X dX8_goWord_143 ?_
                    refine zw_goto (tgt := 60) X dX8_goWord_146 (by decide) ?_
                    refine zw_fg_9 ?_
                    exact ih60 _ _ (by first | (simp only [mgw3, hv, c_75, c_86, eq_true c_103, c_129, decide_true, decide_false, Bool.and_true, Bool.true_and, Bool.and_false, Bool.false_and, Bool.or_true, Bool.true_or, Bool.or_false, Bool.false_or, Bool.not_true, Bool.not_false, if_true, if_false, ite_true, ite_false, Bool.false_eq_true, not_true_eq_false, not_false_eq_true, bI_t, bI_f, decide_eq_true_eq, reduceCtorEq]; done) | (simp [mgw3, hv, c_75, c_86, eq_true c_103, c_129]; done) | contradiction | simp_all) (nI_1 n60)
                  · refine zw_iconst (v := 1) X dX8_goWord_132 ik_1 ?_
                    refine zw_iload_7 X dX8_goWord_133 ?_
                    refine zw_ishl X dX8_goWord_135 ?_
                    refine zw_goto (tgt := 140) X dX8_goWord_136 (by decide) ?_
                    refine zw_ior X dX8_goWord_140 ?_
                    refine zw_istore_6 X dX8_goWord_141 ?_
                    refine zw_iinc_8_p1 X dX8_goWord_143 ?_
                    refine zw_goto (tgt := 60) X dX8_goWord_146 (by decide) ?_
                    refine zw_fg_9 ?_
                    exact ih60 _ _ (by first | (simp only [mgw3, hv, c_75, c_86, eq_true c_103, c_129, decide_true, decide_false, Bool.and_true, Bool.true_and, Bool.and_false, Bool.false_and, Bool.or_true, Bool.true_or, Bool.or_false, Bool.false_or, Bool.not_true, Bool.not_false, if_true, if_false, ite_true, ite_false, Bool.false_eq_true, not_true_eq_false, not_false_eq_true, bI_t, bI_f, decide_eq_true_eq, reduceCtorEq]; done) | (simp [mgw3, hv, c_75, c_86, eq_true c_103, c_129]; done) | contradiction | simp_all) (nI_1 n60)
          · subst hv60_6 hv60_8
            refine zw_iload_8 X dX8_goWord_60 ?_
            refine zw_bipush (v := 6) X dX8_goWord_62 bk_6 ?_
            refine zw_icmpge_t (tgt := 149) X dX8_goWord_64 (by decide) (by decide) ?_
            refine zw_iinc_7_p1 X dX8_goWord_149 ?_
            refine zw_goto (tgt := 41) X dX8_goWord_152 (by decide) ?_
            refine zw_fg_8 ?_
            refine zw_fg_9 ?_
            exact ih41 _ _ (by first | (simp only [mgw2, ← ha60, hv, decide_true, decide_false, Bool.and_true, Bool.true_and, Bool.and_false, Bool.false_and, Bool.or_true, Bool.true_or, Bool.or_false, Bool.false_or, Bool.not_true, Bool.not_false, if_true, if_false, ite_true, ite_false, Bool.false_eq_true, not_true_eq_false, not_false_eq_true, bI_t, bI_f, decide_eq_true_eq, reduceCtorEq]; done) | (simp [mgw2, ← ha60, hv]; done) | contradiction | simp_all) (nI_1 n41)
        · subst hv41_6 hv41_7
          refine zw_iload_7 X dX8_goWord_41 ?_
          refine zw_bipush (v := 6) X dX8_goWord_43 bk_6 ?_
          refine zw_icmpge_t (tgt := 155) X dX8_goWord_45 (by decide) (by decide) ?_
          refine zw_aload_0 X dX8_goWord_155 ?_
          refine zw_iload_6 X dX8_goWord_156 ?_
          refine zw_put X dX8_goWord_158 fl_X8_160 ck_X8 ft_8_23 sh_42 rfl ?_
          refine zw_iload_4 X dX8_goWord_161 ?_
          refine zw_ifge (tgt := 182) X dX8_goWord_163 (by decide) (fun c_163 => ?_) (fun c_163 => ?_)
          · refine zw_iload_4 X dX8_goWord_182 ?_
            refine zw_istore_4 X dX8_goWord_184 ?_
            refine zw_iinc_5_p1 X dX8_goWord_186 ?_
            refine zw_goto (tgt := 23) X dX8_goWord_189 (by decide) ?_
            refine zw_fg_6 ?_
            refine zw_fg_7 ?_
            refine zw_fg_8 ?_
            refine zw_fg_9 ?_
            exact ih23 _ _ _ (by first | (simp only [mgwF, mgw1, hv, ← ha41, c_163, decide_true, decide_false, Bool.and_true, Bool.true_and, Bool.and_false, Bool.false_and, Bool.or_true, Bool.true_or, Bool.or_false, Bool.false_or, Bool.not_true, Bool.not_false, if_true, if_false, ite_true, ite_false, Bool.false_eq_true, not_true_eq_false, not_false_eq_true, bI_t, bI_f, decide_eq_true_eq, reduceCtorEq]; done) | (simp [mgwF, mgw1, hv, ← ha41, c_163]; done) | contradiction | simp_all) (by first | (simp only [mgwF, mgw1, hv, ← ha41, c_163, decide_true, decide_false, Bool.and_true, Bool.true_and, Bool.and_false, Bool.false_and, Bool.or_true, Bool.true_or, Bool.or_false, Bool.false_or, Bool.not_true, Bool.not_false, if_true, if_false, ite_true, ite_false, Bool.false_eq_true, not_true_eq_false, not_false_eq_true, bI_t, bI_f, decide_eq_true_eq, reduceCtorEq]; done) | (simp [mgwF, mgw1, hv, ← ha41, c_163]; done) | contradiction | simp_all) (add_nI _ n23)
          · refine zw_aload_0 X dX8_goWord_166 ?_
            refine zw_getI X dX8_goWord_167 fl_X8_160 ck_X8 sh_42 rfl ?_
            rw [ups_s]
            refine zw_iload_3 X dX8_goWord_170 ?_
            refine zw_cS_iii X dX8_goWord_171 lk_X8_110 ok_MX8_has st_MX8_has rm_X8_goWord_X8_has (Nat.le_of_ble_eq_true rfl) t_X8_has ?_
            refine zw_ifeqB (tgt := 182) X dX8_goWord_174 (by decide) (fun c_174 => ?_) (fun c_174 => ?_)
            · refine zw_iload_4 X dX8_goWord_182 ?_
              refine zw_istore_4 X dX8_goWord_184 ?_
              refine zw_iinc_5_p1 X dX8_goWord_186 ?_
              refine zw_goto (tgt := 23) X dX8_goWord_189 (by decide) ?_
              refine zw_fg_6 ?_
              refine zw_fg_7 ?_
              refine zw_fg_8 ?_
              refine zw_fg_9 ?_
              exact ih23 _ _ _ (by first | (simp only [mgwF, mgw1, hv, ← ha41, c_163, c_174, decide_true, decide_false, Bool.and_true, Bool.true_and, Bool.and_false, Bool.false_and, Bool.or_true, Bool.true_or, Bool.or_false, Bool.false_or, Bool.not_true, Bool.not_false, if_true, if_false, ite_true, ite_false, Bool.false_eq_true, not_true_eq_false, not_false_eq_true, bI_t, bI_f, decide_eq_true_eq, reduceCtorEq]; done) | (simp [mgwF, mgw1, hv, ← ha41, c_163, c_174]; done) | contradiction | simp_all) (by first | (simp only [mgwF, mgw1, hv, ← ha41, c_163, c_174, decide_true, decide_false, Bool.and_true, Bool.true_and, Bool.and_false, Bool.false_and, Bool.or_true, Bool.true_or, Bool.or_false, Bool.false_or, Bool.not_true, Bool.not_false, if_true, if_false, ite_true, ite_false, Bool.false_eq_true, not_true_eq_false, not_false_eq_true, bI_t, bI_f, decide_eq_true_eq, reduceCtorEq]; done) | (simp [mgwF, mgw1, hv, ← ha41, c_163, c_174]; done) | contradiction | simp_all) (add_nI _ n23)
            · refine zw_iload_5 X dX8_goWord_177 ?_
              refine zw_goto (tgt := 184) X dX8_goWord_179 (by decide) ?_
              refine zw_istore_4 X dX8_goWord_184 ?_
              refine zw_iinc_5_p1 X dX8_goWord_186 ?_
              refine zw_goto (tgt := 23) X dX8_goWord_189 (by decide) ?_
              refine zw_fg_6 ?_
              refine zw_fg_7 ?_
              refine zw_fg_8 ?_
              refine zw_fg_9 ?_
              exact ih23 _ _ _ (by first | (simp only [mgwF, mgw1, hv, ← ha41, c_163, c_174, decide_true, decide_false, Bool.and_true, Bool.true_and, Bool.and_false, Bool.false_and, Bool.or_true, Bool.true_or, Bool.or_false, Bool.false_or, Bool.not_true, Bool.not_false, if_true, if_false, ite_true, ite_false, Bool.false_eq_true, not_true_eq_false, not_false_eq_true, bI_t, bI_f, decide_eq_true_eq, reduceCtorEq]; done) | (simp [mgwF, mgw1, hv, ← ha41, c_163, c_174]; done) | contradiction | simp_all) (by first | (simp only [mgwF, mgw1, hv, ← ha41, c_163, c_174, decide_true, decide_false, Bool.and_true, Bool.true_and, Bool.and_false, Bool.false_and, Bool.or_true, Bool.true_or, Bool.or_false, Bool.false_or, Bool.not_true, Bool.not_false, if_true, if_false, ite_true, ite_false, Bool.false_eq_true, not_true_eq_false, not_false_eq_true, bI_t, bI_f, decide_eq_true_eq, reduceCtorEq]; done) | (simp [mgwF, mgw1, hv, ← ha41, c_163, c_174]; done) | contradiction | simp_all) (add_nI _ n23)
      · have hv : hasB (a23.2 42 1) (m + nI n23) = false := by simpa using hv
        refine zw_iload_7 X dX8_goWord_41 ?_
        refine zw_bipush (v := 6) X dX8_goWord_43 bk_6 ?_
        refine zw_icmpge_f (tgt := 155) X dX8_goWord_45 (by decide) (by decide) ?_
        refine zw_aload_0 X dX8_goWord_48 ?_
        refine zw_iload_5 X dX8_goWord_49 ?_
        refine zw_cV_ii X dX8_goWord_51 lk_X8_113 ok_MX8_isTunnel vi_MX8_isTunnel rm_X8_goWord_X8_isTunnel sh_42 rfl (Nat.le_of_ble_eq_true rfl) t_X8_isTunnel ?_
        refine zw_ifeq_t (tgt := 155) X dX8_goWord_54 (by decide) (by rw [hv]; rfl) ?_
        refine zw_aload_0 X dX8_goWord_155 ?_
        refine zw_iload_6 X dX8_goWord_156 ?_
        refine zw_put X dX8_goWord_158 fl_X8_160 ck_X8 ft_8_23 sh_42 rfl ?_
        refine zw_iload_4 X dX8_goWord_161 ?_
        refine zw_ifge (tgt := 182) X dX8_goWord_163 (by decide) (fun c_163 => ?_) (fun c_163 => ?_)
        · refine zw_iload_4 X dX8_goWord_182 ?_
          refine zw_istore_4 X dX8_goWord_184 ?_
          refine zw_iinc_5_p1 X dX8_goWord_186 ?_
          refine zw_goto (tgt := 23) X dX8_goWord_189 (by decide) ?_
          refine zw_fg_6 ?_
          refine zw_fg_7 ?_
          refine zw_fg_8 ?_
          refine zw_fg_9 ?_
          exact ih23 _ _ _ (by first | (simp only [mgwF, mgw1, hv, c_163, decide_true, decide_false, Bool.and_true, Bool.true_and, Bool.and_false, Bool.false_and, Bool.or_true, Bool.true_or, Bool.or_false, Bool.false_or, Bool.not_true, Bool.not_false, if_true, if_false, ite_true, ite_false, Bool.false_eq_true, not_true_eq_false, not_false_eq_true, bI_t, bI_f, decide_eq_true_eq, reduceCtorEq]; done) | (simp [mgwF, mgw1, hv, c_163]; done) | contradiction | simp_all) (by first | (simp only [mgwF, mgw1, hv, c_163, decide_true, decide_false, Bool.and_true, Bool.true_and, Bool.and_false, Bool.false_and, Bool.or_true, Bool.true_or, Bool.or_false, Bool.false_or, Bool.not_true, Bool.not_false, if_true, if_false, ite_true, ite_false, Bool.false_eq_true, not_true_eq_false, not_false_eq_true, bI_t, bI_f, decide_eq_true_eq, reduceCtorEq]; done) | (simp [mgwF, mgw1, hv, c_163]; done) | contradiction | simp_all) (add_nI _ n23)
        · refine zw_aload_0 X dX8_goWord_166 ?_
          refine zw_getI X dX8_goWord_167 fl_X8_160 ck_X8 sh_42 rfl ?_
          rw [ups_s]
          refine zw_iload_3 X dX8_goWord_170 ?_
          refine zw_cS_iii X dX8_goWord_171 lk_X8_110 ok_MX8_has st_MX8_has rm_X8_goWord_X8_has (Nat.le_of_ble_eq_true rfl) t_X8_has ?_
          refine zw_ifeqB (tgt := 182) X dX8_goWord_174 (by decide) (fun c_174 => ?_) (fun c_174 => ?_)
          · refine zw_iload_4 X dX8_goWord_182 ?_
            refine zw_istore_4 X dX8_goWord_184 ?_
            refine zw_iinc_5_p1 X dX8_goWord_186 ?_
            refine zw_goto (tgt := 23) X dX8_goWord_189 (by decide) ?_
            refine zw_fg_6 ?_
            refine zw_fg_7 ?_
            refine zw_fg_8 ?_
            refine zw_fg_9 ?_
            exact ih23 _ _ _ (by first | (simp only [mgwF, mgw1, hv, c_163, c_174, decide_true, decide_false, Bool.and_true, Bool.true_and, Bool.and_false, Bool.false_and, Bool.or_true, Bool.true_or, Bool.or_false, Bool.false_or, Bool.not_true, Bool.not_false, if_true, if_false, ite_true, ite_false, Bool.false_eq_true, not_true_eq_false, not_false_eq_true, bI_t, bI_f, decide_eq_true_eq, reduceCtorEq]; done) | (simp [mgwF, mgw1, hv, c_163, c_174]; done) | contradiction | simp_all) (by first | (simp only [mgwF, mgw1, hv, c_163, c_174, decide_true, decide_false, Bool.and_true, Bool.true_and, Bool.and_false, Bool.false_and, Bool.or_true, Bool.true_or, Bool.or_false, Bool.false_or, Bool.not_true, Bool.not_false, if_true, if_false, ite_true, ite_false, Bool.false_eq_true, not_true_eq_false, not_false_eq_true, bI_t, bI_f, decide_eq_true_eq, reduceCtorEq]; done) | (simp [mgwF, mgw1, hv, c_163, c_174]; done) | contradiction | simp_all) (add_nI _ n23)
          · refine zw_iload_5 X dX8_goWord_177 ?_
            refine zw_goto (tgt := 184) X dX8_goWord_179 (by decide) ?_
            refine zw_istore_4 X dX8_goWord_184 ?_
            refine zw_iinc_5_p1 X dX8_goWord_186 ?_
            refine zw_goto (tgt := 23) X dX8_goWord_189 (by decide) ?_
            refine zw_fg_6 ?_
            refine zw_fg_7 ?_
            refine zw_fg_8 ?_
            refine zw_fg_9 ?_
            exact ih23 _ _ _ (by first | (simp only [mgwF, mgw1, hv, c_163, c_174, decide_true, decide_false, Bool.and_true, Bool.true_and, Bool.and_false, Bool.false_and, Bool.or_true, Bool.true_or, Bool.or_false, Bool.false_or, Bool.not_true, Bool.not_false, if_true, if_false, ite_true, ite_false, Bool.false_eq_true, not_true_eq_false, not_false_eq_true, bI_t, bI_f, decide_eq_true_eq, reduceCtorEq]; done) | (simp [mgwF, mgw1, hv, c_163, c_174]; done) | contradiction | simp_all) (by first | (simp only [mgwF, mgw1, hv, c_163, c_174, decide_true, decide_false, Bool.and_true, Bool.true_and, Bool.and_false, Bool.false_and, Bool.or_true, Bool.true_or, Bool.or_false, Bool.false_or, Bool.not_true, Bool.not_false, if_true, if_false, ite_true, ite_false, Bool.false_eq_true, not_true_eq_false, not_false_eq_true, bI_t, bI_f, decide_eq_true_eq, reduceCtorEq]; done) | (simp [mgwF, mgw1, hv, c_163, c_174]; done) | contradiction | simp_all) (add_nI _ n23)
    · subst hv23_4 hs23 hv23_5
      have e1 : a23.2 42 0 = σ 42 0 := by rw [ha23]; exact mgw_len _ _ _ _ _
      refine zw_iload_5 X dX8_goWord_23 ?_
      refine zw_aload_0 X dX8_goWord_25 ?_
      refine zw_getI X dX8_goWord_26 fl_X8_7 ck_X8 sh_42 rfl ?_
      refine zw_icmpge_t (tgt := 192) X dX8_goWord_29 (by decide) (by rw [e1]; exact fun h => Nat.lt_irrefl _ ((cnt_lt (Nat.le_refl _)).mp h)) ?_
      refine zw_iload_4 X dX8_goWord_192 ?_
      exact zw_iret X F dX8_goWord_194 rfl (by rw [mgwA, ← ha23]) (by rw [mgwA, ← ha23])
set_option maxRecDepth 20000 in
set_option maxHeartbeats 1000000 in
theorem t_X8_word {σ : St} {k m : Int32} : Ct MX8_word [.ref 42, .int k, .int m] σ (some (.int (Y_word σ k m).1)) ((Y_word σ k m).2) := by
  refine ct_of (ls0 := [some (.ref 42), some (.int k), some (.int m)]) ok_MX8_word rfl (Nat.le_of_ble_eq_true rfl) rfl ?_
  intro g X F
  refine zw_iload_1 X dX8_word_0 ?_
  refine zw_cS_ii X dX8_word_1 lk_X8_74 ok_MX8_isOne st_MX8_isOne rm_X8_word_X8_isOne (Nat.le_of_ble_eq_true rfl) t_X8_isOne ?_
  refine zw_ifneB (tgt := 9) X dX8_word_4 (by decide) (fun c_4 => ?_) (fun c_4 => ?_)
  · refine zw_iload_2 X dX8_word_9 ?_
    refine zw_iconst (v := 0) X dX8_word_10 ik_0 ?_
    refine zw_bipush (v := 29) X dX8_word_11 bk_29 ?_
    refine zw_cS_iiii X dX8_word_13 lk_X8_60 ok_MX8_in st_MX8_in rm_X8_word_X8_in (Nat.le_of_ble_eq_true rfl) t_X8_in ?_
    refine zw_ifneB (tgt := 22) X dX8_word_16 (by decide) (fun c_16 => ?_) (fun c_16 => ?_)
    · refine zw_aload_0 X dX8_word_22 ?_
      refine zw_iload_1 X dX8_word_23 ?_
      refine zw_iload_2 X dX8_word_24 ?_
      refine zw_iload_1 X dX8_word_25 ?_
      refine zw_cV_iiii X dX8_word_26 lk_X8_163 ok_MX8_goWord vi_MX8_goWord rm_X8_word_X8_goWord sh_42 rfl (Nat.le_of_ble_eq_true rfl) t_X8_goWord ?_
      refine zw_pop_i X dX8_word_29 ?_
      refine zw_aload_0 X dX8_word_30 ?_
      refine zw_getI X dX8_word_31 fl_X8_160 ck_X8 sh_42 rfl ?_
      exact zw_iret X F dX8_word_34 rfl (by first | (simp only [Y_word, c_4, c_16, decide_true, decide_false, Bool.and_true, Bool.true_and, Bool.and_false, Bool.false_and, Bool.or_true, Bool.true_or, Bool.or_false, Bool.false_or, Bool.not_true, Bool.not_false, if_true, if_false, ite_true, ite_false, Bool.false_eq_true, not_true_eq_false, not_false_eq_true, bI_t, bI_f, decide_eq_true_eq, reduceCtorEq]; done) | (simp [Y_word, c_4, c_16]; done) | contradiction | simp_all) (by first | (simp only [Y_word, c_4, c_16, decide_true, decide_false, Bool.and_true, Bool.true_and, Bool.and_false, Bool.false_and, Bool.or_true, Bool.true_or, Bool.or_false, Bool.false_or, Bool.not_true, Bool.not_false, if_true, if_false, ite_true, ite_false, Bool.false_eq_true, not_true_eq_false, not_false_eq_true, bI_t, bI_f, decide_eq_true_eq, reduceCtorEq]; done) | (simp [Y_word, c_4, c_16]; done) | contradiction | simp_all)
    · refine zw_bipush (v := -2) X dX8_word_19 bk_m2 ?_
      exact zw_iret X F dX8_word_21 rfl (by first | (simp only [Y_word, c_4, c_16, decide_true, decide_false, Bool.and_true, Bool.true_and, Bool.and_false, Bool.false_and, Bool.or_true, Bool.true_or, Bool.or_false, Bool.false_or, Bool.not_true, Bool.not_false, if_true, if_false, ite_true, ite_false, Bool.false_eq_true, not_true_eq_false, not_false_eq_true, bI_t, bI_f, decide_eq_true_eq, reduceCtorEq]; done) | (simp [Y_word, c_4, c_16]; done) | contradiction | simp_all) (by first | (simp only [Y_word, c_4, c_16, decide_true, decide_false, Bool.and_true, Bool.true_and, Bool.and_false, Bool.false_and, Bool.or_true, Bool.true_or, Bool.or_false, Bool.false_or, Bool.not_true, Bool.not_false, if_true, if_false, ite_true, ite_false, Bool.false_eq_true, not_true_eq_false, not_false_eq_true, bI_t, bI_f, decide_eq_true_eq, reduceCtorEq]; done) | (simp [Y_word, c_4, c_16]; done) | contradiction | simp_all)
  · refine zw_iconst (v := -1) X dX8_word_7 ik_m1 ?_
    exact zw_iret X F dX8_word_8 rfl (by first | (simp only [Y_word, c_4, decide_true, decide_false, Bool.and_true, Bool.true_and, Bool.and_false, Bool.false_and, Bool.or_true, Bool.true_or, Bool.or_false, Bool.false_or, Bool.not_true, Bool.not_false, if_true, if_false, ite_true, ite_false, Bool.false_eq_true, not_true_eq_false, not_false_eq_true, bI_t, bI_f, decide_eq_true_eq, reduceCtorEq]; done) | (simp [Y_word, c_4]; done) | contradiction | simp_all) (by first | (simp only [Y_word, c_4, decide_true, decide_false, Bool.and_true, Bool.true_and, Bool.and_false, Bool.false_and, Bool.or_true, Bool.true_or, Bool.or_false, Bool.false_or, Bool.not_true, Bool.not_false, if_true, if_false, ite_true, ite_false, Bool.false_eq_true, not_true_eq_false, not_false_eq_true, bI_t, bI_f, decide_eq_true_eq, reduceCtorEq]; done) | (simp [Y_word, c_4]; done) | contradiction | simp_all)
set_option maxRecDepth 20000 in
set_option maxHeartbeats 1000000 in
theorem t_X8_heard {σ : St} {k m q : Int32} : Ct MX8_heard [.ref 42, .int k, .int m, .int q] σ (some (.int (Y_heard σ k m q).1)) ((Y_heard σ k m q).2) := by
  refine ct_of (ls0 := [some (.ref 42), some (.int k), some (.int m), some (.int q)]) ok_MX8_heard rfl (Nat.le_of_ble_eq_true rfl) rfl ?_
  intro g X F
  refine zw_iload_1 X dX8_heard_0 ?_
  refine zw_cS_ii X dX8_heard_1 lk_X8_74 ok_MX8_isOne st_MX8_isOne rm_X8_heard_X8_isOne (Nat.le_of_ble_eq_true rfl) t_X8_isOne ?_
  refine zw_ifeqB (tgt := 14) X dX8_heard_4 (by decide) (fun c_4 => ?_) (fun c_4 => ?_)
  · refine zw_iconst (v := -1) X dX8_heard_14 ik_m1 ?_
    exact zw_iret X F dX8_heard_15 rfl (by first | (simp only [Y_heard, c_4, decide_true, decide_false, Bool.and_true, Bool.true_and, Bool.and_false, Bool.false_and, Bool.or_true, Bool.true_or, Bool.or_false, Bool.false_or, Bool.not_true, Bool.not_false, if_true, if_false, ite_true, ite_false, Bool.false_eq_true, not_true_eq_false, not_false_eq_true, bI_t, bI_f, decide_eq_true_eq, reduceCtorEq]; done) | (simp [Y_heard, c_4]; done) | contradiction | simp_all) (by first | (simp only [Y_heard, c_4, decide_true, decide_false, Bool.and_true, Bool.true_and, Bool.and_false, Bool.false_and, Bool.or_true, Bool.true_or, Bool.or_false, Bool.false_or, Bool.not_true, Bool.not_false, if_true, if_false, ite_true, ite_false, Bool.false_eq_true, not_true_eq_false, not_false_eq_true, bI_t, bI_f, decide_eq_true_eq, reduceCtorEq]; done) | (simp [Y_heard, c_4]; done) | contradiction | simp_all)
  · refine zw_iload_3 X dX8_heard_7 ?_
    refine zw_cS_ii X dX8_heard_8 lk_X8_74 ok_MX8_isOne st_MX8_isOne rm_X8_heard_X8_isOne (Nat.le_of_ble_eq_true rfl) t_X8_isOne ?_
    refine zw_ifneB (tgt := 16) X dX8_heard_11 (by decide) (fun c_11 => ?_) (fun c_11 => ?_)
    · refine zw_iload_2 X dX8_heard_16 ?_
      refine zw_iconst (v := 0) X dX8_heard_17 ik_0 ?_
      refine zw_bipush (v := 29) X dX8_heard_18 bk_29 ?_
      refine zw_cS_iiii X dX8_heard_20 lk_X8_60 ok_MX8_in st_MX8_in rm_X8_heard_X8_in (Nat.le_of_ble_eq_true rfl) t_X8_in ?_
      refine zw_ifeqB (tgt := 36) X dX8_heard_23 (by decide) (fun c_23 => ?_) (fun c_23 => ?_)
      · refine zw_bipush (v := -2) X dX8_heard_36 bk_m2 ?_
        exact zw_iret X F dX8_heard_38 rfl (by first | (simp only [Y_heard, c_4, c_11, c_23, decide_true, decide_false, Bool.and_true, Bool.true_and, Bool.and_false, Bool.false_and, Bool.or_true, Bool.true_or, Bool.or_false, Bool.false_or, Bool.not_true, Bool.not_false, if_true, if_false, ite_true, ite_false, Bool.false_eq_true, not_true_eq_false, not_false_eq_true, bI_t, bI_f, decide_eq_true_eq, reduceCtorEq]; done) | (simp [Y_heard, c_4, c_11, c_23]; done) | contradiction | simp_all) (by first | (simp only [Y_heard, c_4, c_11, c_23, decide_true, decide_false, Bool.and_true, Bool.true_and, Bool.and_false, Bool.false_and, Bool.or_true, Bool.true_or, Bool.or_false, Bool.false_or, Bool.not_true, Bool.not_false, if_true, if_false, ite_true, ite_false, Bool.false_eq_true, not_true_eq_false, not_false_eq_true, bI_t, bI_f, decide_eq_true_eq, reduceCtorEq]; done) | (simp [Y_heard, c_4, c_11, c_23]; done) | contradiction | simp_all)
      · refine zw_aload_0 X dX8_heard_26 ?_
        refine zw_iload_1 X dX8_heard_27 ?_
        refine zw_iload_2 X dX8_heard_28 ?_
        refine zw_iload_3 X dX8_heard_29 ?_
        refine zw_cV_iiii X dX8_heard_30 lk_X8_163 ok_MX8_goWord vi_MX8_goWord rm_X8_heard_X8_goWord sh_42 rfl (Nat.le_of_ble_eq_true rfl) t_X8_goWord ?_
        refine zw_goto (tgt := 38) X dX8_heard_33 (by decide) ?_
        exact zw_iret X F dX8_heard_38 rfl (by first | (simp only [Y_heard, c_4, c_11, c_23, decide_true, decide_false, Bool.and_true, Bool.true_and, Bool.and_false, Bool.false_and, Bool.or_true, Bool.true_or, Bool.or_false, Bool.false_or, Bool.not_true, Bool.not_false, if_true, if_false, ite_true, ite_false, Bool.false_eq_true, not_true_eq_false, not_false_eq_true, bI_t, bI_f, decide_eq_true_eq, reduceCtorEq]; done) | (simp [Y_heard, c_4, c_11, c_23]; done) | contradiction | simp_all) (by first | (simp only [Y_heard, c_4, c_11, c_23, decide_true, decide_false, Bool.and_true, Bool.true_and, Bool.and_false, Bool.false_and, Bool.or_true, Bool.true_or, Bool.or_false, Bool.false_or, Bool.not_true, Bool.not_false, if_true, if_false, ite_true, ite_false, Bool.false_eq_true, not_true_eq_false, not_false_eq_true, bI_t, bI_f, decide_eq_true_eq, reduceCtorEq]; done) | (simp [Y_heard, c_4, c_11, c_23]; done) | contradiction | simp_all)
    · refine zw_iconst (v := -1) X dX8_heard_14 ik_m1 ?_
      exact zw_iret X F dX8_heard_15 rfl (by first | (simp only [Y_heard, c_4, c_11, decide_true, decide_false, Bool.and_true, Bool.true_and, Bool.and_false, Bool.false_and, Bool.or_true, Bool.true_or, Bool.or_false, Bool.false_or, Bool.not_true, Bool.not_false, if_true, if_false, ite_true, ite_false, Bool.false_eq_true, not_true_eq_false, not_false_eq_true, bI_t, bI_f, decide_eq_true_eq, reduceCtorEq]; done) | (simp [Y_heard, c_4, c_11]; done) | contradiction | simp_all) (by first | (simp only [Y_heard, c_4, c_11, decide_true, decide_false, Bool.and_true, Bool.true_and, Bool.and_false, Bool.false_and, Bool.or_true, Bool.true_or, Bool.or_false, Bool.false_or, Bool.not_true, Bool.not_false, if_true, if_false, ite_true, ite_false, Bool.false_eq_true, not_true_eq_false, not_false_eq_true, bI_t, bI_f, decide_eq_true_eq, reduceCtorEq]; done) | (simp [Y_heard, c_4, c_11]; done) | contradiction | simp_all)
set_option maxRecDepth 20000 in
set_option maxHeartbeats 1000000 in
theorem t_X8_richest {σ : St} {w : Int32} : Ct MX8_richest [.ref 42, .int w] σ (some (.int (Y_rich σ w).1)) ((Y_rich σ w).2) := by
  refine ct_of (ls0 := [some (.ref 42), some (.int w), none, none, none, none]) ok_MX8_richest rfl (Nat.le_of_ble_eq_true rfl) rfl ?_
  intro g X F
  refine zw_iload_1 X dX8_richest_0 ?_
  refine zw_iconst (v := 0) X dX8_richest_1 ik_0 ?_
  refine zw_iconst (v := 2) X dX8_richest_2 ik_2 ?_
  refine zw_cS_iiii X dX8_richest_3 lk_X8_60 ok_MX8_in st_MX8_in rm_X8_richest_X8_in (Nat.le_of_ble_eq_true rfl) t_X8_in ?_
  refine zw_ifneB (tgt := 12) X dX8_richest_6 (by decide) (fun c_6 => ?_) (fun c_6 => ?_)
  · refine zw_aload_0 X dX8_richest_12 ?_
    refine zw_cV_nv X dX8_richest_13 lk_X8_125 ok_MX8_asNow vi_MX8_asNow rm_X8_richest_X8_asNow sh_42 rfl (Nat.le_of_ble_eq_true rfl) t_X8_asNow ?_
    refine zw_aload_0 X dX8_richest_16 ?_
    refine zw_cV_nv X dX8_richest_17 lk_X8_151 ok_MX8_toEnd vi_MX8_toEnd rm_X8_richest_X8_toEnd sh_42 rfl (Nat.le_of_ble_eq_true rfl) t_X8_toEnd ?_
    refine zw_iconst (v := 0) X dX8_richest_20 ik_0 ?_
    refine zw_istore_2 X dX8_richest_21 ?_
    refine zw_iconst (v := 1) X dX8_richest_22 ik_1 ?_
    refine zw_istore_3 X dX8_richest_23 ?_
    refine zloop (α := Int32) (S := fun zn za => ∀ (v24_2 : Int32) (v24_3 : Int32), za = v24_2 → v24_3 = nI (1 + zn) → ZW g 24 [some (.ref 42), some (.int w), some (.int v24_2), some (.int v24_3), none, none] [] (mEnd (mNow σ))) (N := 2) (f := (mrF (mEnd (mNow σ)))) (a0 := (0 : Int32)) (fun n24 a24 hn24 ha24 ih24 v24_2 v24_3 hv24_2 hv24_3 => ?_) (fun a24 ha24 v24_2 v24_3 hv24_2 hv24_3 => ?_) _ _ rfl rfl
    · subst hv24_2 hv24_3
      refine zw_iload_3 X dX8_richest_24 ?_
      refine zw_iconst (v := 3) X dX8_richest_25 ik_3 ?_
      refine zw_icmpge_f (tgt := 56) X dX8_richest_26 (by decide) (nI_lt (b := 3) (by omega) (by decide)) ?_
      refine zw_aload_0 X dX8_richest_29 ?_
      refine zw_getR X dX8_richest_30 fl_X8_47 ck_X8 sh_42 rfl ?_
      refine zw_iload_3 X dX8_richest_33 ?_
      refine zw_iald X dX8_richest_34 sh_53 (vp_in_nI (n := 1 + n24) (by omega) (by decide)) ?_
      refine zw_aload_0 X dX8_richest_35 ?_
      refine zw_getR X dX8_richest_36 fl_X8_47 ck_X8 sh_42 rfl ?_
      refine zw_iload_2 X dX8_richest_39 ?_
      refine zw_iald X dX8_richest_40 sh_53 (mr_in (Nat.le_of_lt hn24) ha24) ?_
      refine zw_icmple (tgt := 48) X dX8_richest_41 (by decide) (fun c_41 => ?_) (fun c_41 => ?_)
      · refine zw_iload_2 X dX8_richest_48 ?_
        refine zw_istore_2 X dX8_richest_49 ?_
        refine zw_iinc_3_p1 X dX8_richest_50 ?_
        refine zw_goto (tgt := 24) X dX8_richest_53 (by decide) ?_
        exact ih24 _ _ (by first | (simp only [mrF, c_6, c_41, decide_true, decide_false, Bool.and_true, Bool.true_and, Bool.and_false, Bool.false_and, Bool.or_true, Bool.true_or, Bool.or_false, Bool.false_or, Bool.not_true, Bool.not_false, if_true, if_false, ite_true, ite_false, Bool.false_eq_true, not_true_eq_false, not_false_eq_true, bI_t, bI_f, decide_eq_true_eq, reduceCtorEq]; done) | (simp [mrF, c_6, c_41]; done) | contradiction | simp_all) (nI_1 _)
      · refine zw_iload_3 X dX8_richest_44 ?_
        refine zw_goto (tgt := 49) X dX8_richest_45 (by decide) ?_
        refine zw_istore_2 X dX8_richest_49 ?_
        refine zw_iinc_3_p1 X dX8_richest_50 ?_
        refine zw_goto (tgt := 24) X dX8_richest_53 (by decide) ?_
        exact ih24 _ _ (by first | (simp only [mrF, c_6, c_41, decide_true, decide_false, Bool.and_true, Bool.true_and, Bool.and_false, Bool.false_and, Bool.or_true, Bool.true_or, Bool.or_false, Bool.false_or, Bool.not_true, Bool.not_false, if_true, if_false, ite_true, ite_false, Bool.false_eq_true, not_true_eq_false, not_false_eq_true, bI_t, bI_f, decide_eq_true_eq, reduceCtorEq]; done) | (simp [mrF, c_6, c_41]; done) | contradiction | simp_all) (nI_1 _)
    · subst hv24_2 hv24_3
      refine zw_iload_3 X dX8_richest_24 ?_
      refine zw_iconst (v := 3) X dX8_richest_25 ik_3 ?_
      refine zw_icmpge_t (tgt := 56) X dX8_richest_26 (by decide) (by decide) ?_
      refine zw_bipush (v := -6) X dX8_richest_56 bk_m6 ?_
      refine zw_istore_3 X dX8_richest_58 ?_
      refine zw_iconst (v := 0) X dX8_richest_59 ik_0 ?_
      refine zw_istore_4 X dX8_richest_60 ?_
      refine zw_iconst (v := 0) X dX8_richest_62 ik_0 ?_
      refine zw_istore_5 X dX8_richest_63 ?_
      refine zloop (α := Int32 × Int32) (S := fun zn za => ∀ (v65_3 : Int32) (v65_4 : Int32) (v65_5 : Int32), v65_3 = za.1 → v65_4 = za.2 → v65_5 = nI zn → ZW g 65 [some (.ref 42), some (.int w), some (.int a24), some (.int v65_3), some (.int v65_4), some (.int v65_5)] [] (mEnd (mNow σ))) (N := 6) (f := (mtF (mEnd (mNow σ)))) (a0 := ((-6, 0) : Int32 × Int32)) (fun n65 a65 hn65 ha65 ih65 v65_3 v65_4 v65_5 hv65_3 hv65_4 hv65_5 => ?_) (fun a65 ha65 v65_3 v65_4 v65_5 hv65_3 hv65_4 hv65_5 => ?_) _ _ _ rfl rfl rfl
      · subst hv65_3 hv65_4 hv65_5
        refine zw_iload_5 X dX8_richest_65 ?_
        refine zw_bipush (v := 6) X dX8_richest_67 bk_6 ?_
        refine zw_icmpge_f (tgt := 123) X dX8_richest_69 (by decide) (nI_lt hn65 (by decide)) ?_
        refine zw_aload_0 X dX8_richest_72 ?_
        refine zw_getR X dX8_richest_73 fl_X8_44 ck_X8 sh_42 rfl ?_
        refine zw_iload_5 X dX8_richest_76 ?_
        refine zw_ialdN X dX8_richest_78 sh_52 hn65 (by decide) ?_
        refine zw_iload_4 X dX8_richest_79 ?_
        refine zw_icmple (tgt := 89) X dX8_richest_81 (by decide) (fun c_81 => ?_) (fun c_81 => ?_)
        · refine zw_iload_3 X dX8_richest_89 ?_
          refine zw_istore_3 X dX8_richest_90 ?_
          refine zw_aload_0 X dX8_richest_91 ?_
          refine zw_getR X dX8_richest_92 fl_X8_44 ck_X8 sh_42 rfl ?_
          refine zw_iload_5 X dX8_richest_95 ?_
          refine zw_ialdN X dX8_richest_97 sh_52 hn65 (by decide) ?_
          refine zw_iload_4 X dX8_richest_98 ?_
          refine zw_icmple (tgt := 113) X dX8_richest_100 (by decide) (fun c_100 => ?_) (fun c_100 => ?_)
          · refine zw_iload_4 X dX8_richest_113 ?_
            refine zw_istore_4 X dX8_richest_115 ?_
            refine zw_iinc_5_p1 X dX8_richest_117 ?_
            refine zw_goto (tgt := 65) X dX8_richest_120 (by decide) ?_
            exact ih65 _ _ _ (by first | (simp only [mtF, c_6, c_81, c_100, decide_true, decide_false, Bool.and_true, Bool.true_and, Bool.and_false, Bool.false_and, Bool.or_true, Bool.true_or, Bool.or_false, Bool.false_or, Bool.not_true, Bool.not_false, if_true, if_false, ite_true, ite_false, Bool.false_eq_true, not_true_eq_false, not_false_eq_true, bI_t, bI_f, decide_eq_true_eq, reduceCtorEq]; done) | (simp [mtF, c_6, c_81, c_100]; done) | contradiction | simp_all) (by first | (simp only [mtF, c_6, c_81, c_100, decide_true, decide_false, Bool.and_true, Bool.true_and, Bool.and_false, Bool.false_and, Bool.or_true, Bool.true_or, Bool.or_false, Bool.false_or, Bool.not_true, Bool.not_false, if_true, if_false, ite_true, ite_false, Bool.false_eq_true, not_true_eq_false, not_false_eq_true, bI_t, bI_f, decide_eq_true_eq, reduceCtorEq]; done) | (simp [mtF, c_6, c_81, c_100]; done) | contradiction | simp_all) (nI_1 n65)
          · refine zw_aload_0 X dX8_richest_103 ?_
            refine zw_getR X dX8_richest_104 fl_X8_44 ck_X8 sh_42 rfl ?_
            refine zw_iload_5 X dX8_richest_107 ?_
            refine zw_ialdN X dX8_richest_109 sh_52 hn65 (by decide) ?_
            refine zw_goto (tgt := 115) X dX8_richest_110 (by decide) ?_
            refine zw_istore_4 X dX8_richest_115 ?_
            refine zw_iinc_5_p1 X dX8_richest_117 ?_
            refine zw_goto (tgt := 65) X dX8_richest_120 (by decide) ?_
            exact ih65 _ _ _ (by first | (simp only [mtF, c_6, c_81, c_100, decide_true, decide_false, Bool.and_true, Bool.true_and, Bool.and_false, Bool.false_and, Bool.or_true, Bool.true_or, Bool.or_false, Bool.false_or, Bool.not_true, Bool.not_false, if_true, if_false, ite_true, ite_false, Bool.false_eq_true, not_true_eq_false, not_false_eq_true, bI_t, bI_f, decide_eq_true_eq, reduceCtorEq]; done) | (simp [mtF, c_6, c_81, c_100]; done) | contradiction | simp_all) (by first | (simp only [mtF, c_6, c_81, c_100, decide_true, decide_false, Bool.and_true, Bool.true_and, Bool.and_false, Bool.false_and, Bool.or_true, Bool.true_or, Bool.or_false, Bool.false_or, Bool.not_true, Bool.not_false, if_true, if_false, ite_true, ite_false, Bool.false_eq_true, not_true_eq_false, not_false_eq_true, bI_t, bI_f, decide_eq_true_eq, reduceCtorEq]; done) | (simp [mtF, c_6, c_81, c_100]; done) | contradiction | simp_all) (nI_1 n65)
        · refine zw_iload_5 X dX8_richest_84 ?_
          refine zw_goto (tgt := 90) X dX8_richest_86 (by decide) ?_
          refine zw_istore_3 X dX8_richest_90 ?_
          refine zw_aload_0 X dX8_richest_91 ?_
          refine zw_getR X dX8_richest_92 fl_X8_44 ck_X8 sh_42 rfl ?_
          refine zw_iload_5 X dX8_richest_95 ?_
          refine zw_ialdN X dX8_richest_97 sh_52 hn65 (by decide) ?_
          refine zw_iload_4 X dX8_richest_98 ?_
          refine zw_icmple (tgt := 113) X dX8_richest_100 (by decide) (fun c_100 => ?_) (fun c_100 => ?_)
          · refine zw_iload_4 X dX8_richest_113 ?_
            refine zw_istore_4 X dX8_richest_115 ?_
            refine zw_iinc_5_p1 X dX8_richest_117 ?_
            refine zw_goto (tgt := 65) X dX8_richest_120 (by decide) ?_
            exact ih65 _ _ _ (by first | (simp only [mtF, c_6, c_81, c_100, decide_true, decide_false, Bool.and_true, Bool.true_and, Bool.and_false, Bool.false_and, Bool.or_true, Bool.true_or, Bool.or_false, Bool.false_or, Bool.not_true, Bool.not_false, if_true, if_false, ite_true, ite_false, Bool.false_eq_true, not_true_eq_false, not_false_eq_true, bI_t, bI_f, decide_eq_true_eq, reduceCtorEq]; done) | (simp [mtF, c_6, c_81, c_100]; done) | contradiction | simp_all) (by first | (simp only [mtF, c_6, c_81, c_100, decide_true, decide_false, Bool.and_true, Bool.true_and, Bool.and_false, Bool.false_and, Bool.or_true, Bool.true_or, Bool.or_false, Bool.false_or, Bool.not_true, Bool.not_false, if_true, if_false, ite_true, ite_false, Bool.false_eq_true, not_true_eq_false, not_false_eq_true, bI_t, bI_f, decide_eq_true_eq, reduceCtorEq]; done) | (simp [mtF, c_6, c_81, c_100]; done) | contradiction | simp_all) (nI_1 n65)
          · refine zw_aload_0 X dX8_richest_103 ?_
            refine zw_getR X dX8_richest_104 fl_X8_44 ck_X8 sh_42 rfl ?_
            refine zw_iload_5 X dX8_richest_107 ?_
            refine zw_ialdN X dX8_richest_109 sh_52 hn65 (by decide) ?_
            refine zw_goto (tgt := 115) X dX8_richest_110 (by decide) ?_
            refine zw_istore_4 X dX8_richest_115 ?_
            refine zw_iinc_5_p1 X dX8_richest_117 ?_
            refine zw_goto (tgt := 65) X dX8_richest_120 (by decide) ?_
            exact ih65 _ _ _ (by first | (simp only [mtF, c_6, c_81, c_100, decide_true, decide_false, Bool.and_true, Bool.true_and, Bool.and_false, Bool.false_and, Bool.or_true, Bool.true_or, Bool.or_false, Bool.false_or, Bool.not_true, Bool.not_false, if_true, if_false, ite_true, ite_false, Bool.false_eq_true, not_true_eq_false, not_false_eq_true, bI_t, bI_f, decide_eq_true_eq, reduceCtorEq]; done) | (simp [mtF, c_6, c_81, c_100]; done) | contradiction | simp_all) (by first | (simp only [mtF, c_6, c_81, c_100, decide_true, decide_false, Bool.and_true, Bool.true_and, Bool.and_false, Bool.false_and, Bool.or_true, Bool.true_or, Bool.or_false, Bool.false_or, Bool.not_true, Bool.not_false, if_true, if_false, ite_true, ite_false, Bool.false_eq_true, not_true_eq_false, not_false_eq_true, bI_t, bI_f, decide_eq_true_eq, reduceCtorEq]; done) | (simp [mtF, c_6, c_81, c_100]; done) | contradiction | simp_all) (nI_1 n65)
      · subst hv65_3 hv65_4 hv65_5
        refine zw_iload_5 X dX8_richest_65 ?_
        refine zw_bipush (v := 6) X dX8_richest_67 bk_6 ?_
        refine zw_icmpge_t (tgt := 123) X dX8_richest_69 (by decide) (by decide) ?_
        refine zw_iload_1 X dX8_richest_123 ?_
        refine zw_ifne (tgt := 131) X dX8_richest_124 (by decide) (fun c_124 => ?_) (fun c_124 => ?_)
        · refine zw_iload_1 X dX8_richest_131 ?_
          refine zw_iconst (v := 1) X dX8_richest_132 ik_1 ?_
          refine zw_icmpne (tgt := 145) X dX8_richest_133 (by decide) (fun c_133 => ?_) (fun c_133 => ?_)
          · refine zw_iload_3 X dX8_richest_145 ?_
            exact zw_iret X F dX8_richest_146 rfl (by simp only [Y_rich, mrC, mtP, ← ha24, ← ha65, c_6, c_124, c_133, decide_true, decide_false, Bool.and_true, Bool.true_and, Bool.and_false, Bool.false_and, Bool.or_true, Bool.true_or, Bool.or_false, Bool.false_or, Bool.not_true, Bool.not_false, if_true, if_false, ite_true, ite_false, Bool.false_eq_true, not_true_eq_false, not_false_eq_true, bI_t, bI_f, decide_eq_true_eq, reduceCtorEq]) (by first | (simp only [Y_rich, c_6, c_124, c_133, decide_true, decide_false, Bool.and_true, Bool.true_and, Bool.and_false, Bool.false_and, Bool.or_true, Bool.true_or, Bool.or_false, Bool.false_or, Bool.not_true, Bool.not_false, if_true, if_false, ite_true, ite_false, Bool.false_eq_true, not_true_eq_false, not_false_eq_true, bI_t, bI_f, decide_eq_true_eq, reduceCtorEq]; done) | (simp [Y_rich, c_6, c_124, c_133]; done) | contradiction | simp_all)
          · refine zw_aload_0 X dX8_richest_136 ?_
            refine zw_getR X dX8_richest_137 fl_X8_47 ck_X8 sh_42 rfl ?_
            refine zw_iload_2 X dX8_richest_140 ?_
            refine zw_iald X dX8_richest_141 sh_53 (mr_in (Nat.le_refl 2) ha24) ?_
            refine zw_goto (tgt := 146) X dX8_richest_142 (by decide) ?_
            exact zw_iret X F dX8_richest_146 rfl (by simp only [Y_rich, mrC, mtP, ← ha24, ← ha65, c_6, c_124, eq_true c_133, decide_true, decide_false, Bool.and_true, Bool.true_and, Bool.and_false, Bool.false_and, Bool.or_true, Bool.true_or, Bool.or_false, Bool.false_or, Bool.not_true, Bool.not_false, if_true, if_false, ite_true, ite_false, Bool.false_eq_true, not_true_eq_false, not_false_eq_true, bI_t, bI_f, decide_eq_true_eq, reduceCtorEq]) (by first | (simp only [Y_rich, c_6, c_124, eq_true c_133, decide_true, decide_false, Bool.and_true, Bool.true_and, Bool.and_false, Bool.false_and, Bool.or_true, Bool.true_or, Bool.or_false, Bool.false_or, Bool.not_true, Bool.not_false, if_true, if_false, ite_true, ite_false, Bool.false_eq_true, not_true_eq_false, not_false_eq_true, bI_t, bI_f, decide_eq_true_eq, reduceCtorEq]; done) | (simp [Y_rich, c_6, c_124, eq_true c_133]; done) | contradiction | simp_all)
        · refine zw_iload_2 X dX8_richest_127 ?_
          refine zw_goto (tgt := 146) X dX8_richest_128 (by decide) ?_
          exact zw_iret X F dX8_richest_146 rfl (by simp only [Y_rich, mrC, mtP, ← ha24, ← ha65, c_6, eq_true c_124, decide_true, decide_false, Bool.and_true, Bool.true_and, Bool.and_false, Bool.false_and, Bool.or_true, Bool.true_or, Bool.or_false, Bool.false_or, Bool.not_true, Bool.not_false, if_true, if_false, ite_true, ite_false, Bool.false_eq_true, not_true_eq_false, not_false_eq_true, bI_t, bI_f, decide_eq_true_eq, reduceCtorEq]) (by first | (simp only [Y_rich, c_6, eq_true c_124, decide_true, decide_false, Bool.and_true, Bool.true_and, Bool.and_false, Bool.false_and, Bool.or_true, Bool.true_or, Bool.or_false, Bool.false_or, Bool.not_true, Bool.not_false, if_true, if_false, ite_true, ite_false, Bool.false_eq_true, not_true_eq_false, not_false_eq_true, bI_t, bI_f, decide_eq_true_eq, reduceCtorEq]; done) | (simp [Y_rich, c_6, eq_true c_124]; done) | contradiction | simp_all)
  · refine zw_bipush (v := -2) X dX8_richest_9 bk_m2 ?_
    exact zw_iret X F dX8_richest_11 rfl (by first | (simp only [Y_rich, c_6, decide_true, decide_false, Bool.and_true, Bool.true_and, Bool.and_false, Bool.false_and, Bool.or_true, Bool.true_or, Bool.or_false, Bool.false_or, Bool.not_true, Bool.not_false, if_true, if_false, ite_true, ite_false, Bool.false_eq_true, not_true_eq_false, not_false_eq_true, bI_t, bI_f, decide_eq_true_eq, reduceCtorEq]; done) | (simp [Y_rich, c_6]; done) | contradiction | simp_all) (by first | (simp only [Y_rich, c_6, decide_true, decide_false, Bool.and_true, Bool.true_and, Bool.and_false, Bool.false_and, Bool.or_true, Bool.true_or, Bool.or_false, Bool.false_or, Bool.not_true, Bool.not_false, if_true, if_false, ite_true, ite_false, Bool.false_eq_true, not_true_eq_false, not_false_eq_true, bI_t, bI_f, decide_eq_true_eq, reduceCtorEq]; done) | (simp [Y_rich, c_6]; done) | contradiction | simp_all)
set_option maxRecDepth 20000 in
set_option maxHeartbeats 1000000 in
theorem t_X8_seen {σ : St} {m k : Int32} {S : Nat} (hS : σ 42 10 = nI S) (hS8 : S ≤ 8) : Ct MX8_seen [.ref 42, .int m, .int k] σ (some (.int (Y_seen σ m k).1)) ((Y_seen σ m k).2) := by
  refine ct_of (ls0 := [some (.ref 42), some (.int m), some (.int k)]) ok_MX8_seen rfl (Nat.le_of_ble_eq_true rfl) rfl ?_
  intro g X F
  refine zw_iload_2 X dX8_seen_0 ?_
  refine zw_cS_ii X dX8_seen_1 lk_X8_74 ok_MX8_isOne st_MX8_isOne rm_X8_seen_X8_isOne (Nat.le_of_ble_eq_true rfl) t_X8_isOne ?_
  refine zw_ifneB (tgt := 9) X dX8_seen_4 (by decide) (fun c_4 => ?_) (fun c_4 => ?_)
  · refine zw_iload_1 X dX8_seen_9 ?_
    refine zw_iconst (v := 0) X dX8_seen_10 ik_0 ?_
    refine zw_bipush (v := 29) X dX8_seen_11 bk_29 ?_
    refine zw_cS_iiii X dX8_seen_13 lk_X8_60 ok_MX8_in st_MX8_in rm_X8_seen_X8_in (Nat.le_of_ble_eq_true rfl) t_X8_in ?_
    refine zw_ifneB (tgt := 22) X dX8_seen_16 (by decide) (fun c_16 => ?_) (fun c_16 => ?_)
    · refine zw_aload_0 X dX8_seen_22 ?_
      refine zw_getI X dX8_seen_23 fl_X8_167 ck_X8 sh_42 rfl ?_
      refine zw_bipush (v := 8) X dX8_seen_26 bk_8 ?_
      refine zw_icmpne (tgt := 34) X dX8_seen_28 (by decide) (fun c_28 => ?_) (fun c_28 => ?_)
      · refine zw_aload_0 X dX8_seen_34 ?_
        refine zw_getR X dX8_seen_35 fl_X8_32 ck_X8 sh_42 rfl ?_
        refine zw_iconst (v := 2) X dX8_seen_38 ik_2 ?_
        refine zw_aload_0 X dX8_seen_39 ?_
        refine zw_getI X dX8_seen_40 fl_X8_167 ck_X8 sh_42 rfl ?_
        refine zw_imul X dX8_seen_43 ?_
        refine zw_iload_1 X dX8_seen_44 ?_
        refine zw_iast X dX8_seen_45 sh_48 (seen_in hS hS8 c_28).1 ?_
        refine zw_aload_0 X dX8_seen_46 ?_
        refine zw_getR X dX8_seen_47 fl_X8_32 ck_X8 sh_42 rfl ?_
        refine zw_iconst (v := 2) X dX8_seen_50 ik_2 ?_
        refine zw_aload_0 X dX8_seen_51 ?_
        refine zw_getI X dX8_seen_52 fl_X8_167 ck_X8 sh_42 rfl ?_
        refine zw_imul X dX8_seen_55 ?_
        refine zw_iconst (v := 1) X dX8_seen_56 ik_1 ?_
        refine zw_iadd X dX8_seen_57 ?_
        refine zw_iload_2 X dX8_seen_58 ?_
        refine zw_iast X dX8_seen_59 sh_48 (seen_in2 hS hS8 c_28) ?_
        refine zw_aload_0 X dX8_seen_60 ?_
        refine zw_dup_r X dX8_seen_61 ?_
        refine zw_getI X dX8_seen_62 fl_X8_167 ck_X8 sh_42 rfl ?_
        refine zw_iconst (v := 1) X dX8_seen_65 ik_1 ?_
        refine zw_iadd X dX8_seen_66 ?_
        refine zw_put X dX8_seen_67 fl_X8_167 ck_X8 ft_8_10 sh_42 rfl ?_
        refine zw_aload_0 X dX8_seen_70 ?_
        refine zw_getI X dX8_seen_71 fl_X8_167 ck_X8 sh_42 rfl ?_
        exact zw_iret X F dX8_seen_74 rfl (by first | (simp only [ms1, ms2, ms3, Y_seen, c_4, c_16, c_28, decide_true, decide_false, Bool.and_true, Bool.true_and, Bool.and_false, Bool.false_and, Bool.or_true, Bool.true_or, Bool.or_false, Bool.false_or, Bool.not_true, Bool.not_false, if_true, if_false, ite_true, ite_false, Bool.false_eq_true, not_true_eq_false, not_false_eq_true, bI_t, bI_f, decide_eq_true_eq, reduceCtorEq]; done) | (simp [ms1, ms2, ms3, Y_seen, c_4, c_16, c_28]; done) | contradiction | simp_all) (by first | (simp only [ms1, ms2, ms3, Y_seen, c_4, c_16, c_28, decide_true, decide_false, Bool.and_true, Bool.true_and, Bool.and_false, Bool.false_and, Bool.or_true, Bool.true_or, Bool.or_false, Bool.false_or, Bool.not_true, Bool.not_false, if_true, if_false, ite_true, ite_false, Bool.false_eq_true, not_true_eq_false, not_false_eq_true, bI_t, bI_f, decide_eq_true_eq, reduceCtorEq]; done) | (simp [ms1, ms2, ms3, Y_seen, c_4, c_16, c_28]; done) | contradiction | simp_all)
      · refine zw_bipush (v := -4) X dX8_seen_31 bk_m4 ?_
        exact zw_iret X F dX8_seen_33 rfl (by first | (simp only [ms1, ms2, ms3, Y_seen, c_4, c_16, eq_true c_28, decide_true, decide_false, Bool.and_true, Bool.true_and, Bool.and_false, Bool.false_and, Bool.or_true, Bool.true_or, Bool.or_false, Bool.false_or, Bool.not_true, Bool.not_false, if_true, if_false, ite_true, ite_false, Bool.false_eq_true, not_true_eq_false, not_false_eq_true, bI_t, bI_f, decide_eq_true_eq, reduceCtorEq]; done) | (simp [ms1, ms2, ms3, Y_seen, c_4, c_16, eq_true c_28]; done) | contradiction | simp_all) (by first | (simp only [ms1, ms2, ms3, Y_seen, c_4, c_16, eq_true c_28, decide_true, decide_false, Bool.and_true, Bool.true_and, Bool.and_false, Bool.false_and, Bool.or_true, Bool.true_or, Bool.or_false, Bool.false_or, Bool.not_true, Bool.not_false, if_true, if_false, ite_true, ite_false, Bool.false_eq_true, not_true_eq_false, not_false_eq_true, bI_t, bI_f, decide_eq_true_eq, reduceCtorEq]; done) | (simp [ms1, ms2, ms3, Y_seen, c_4, c_16, eq_true c_28]; done) | contradiction | simp_all)
    · refine zw_bipush (v := -2) X dX8_seen_19 bk_m2 ?_
      exact zw_iret X F dX8_seen_21 rfl (by first | (simp only [ms1, ms2, ms3, Y_seen, c_4, c_16, decide_true, decide_false, Bool.and_true, Bool.true_and, Bool.and_false, Bool.false_and, Bool.or_true, Bool.true_or, Bool.or_false, Bool.false_or, Bool.not_true, Bool.not_false, if_true, if_false, ite_true, ite_false, Bool.false_eq_true, not_true_eq_false, not_false_eq_true, bI_t, bI_f, decide_eq_true_eq, reduceCtorEq]; done) | (simp [ms1, ms2, ms3, Y_seen, c_4, c_16]; done) | contradiction | simp_all) (by first | (simp only [ms1, ms2, ms3, Y_seen, c_4, c_16, decide_true, decide_false, Bool.and_true, Bool.true_and, Bool.and_false, Bool.false_and, Bool.or_true, Bool.true_or, Bool.or_false, Bool.false_or, Bool.not_true, Bool.not_false, if_true, if_false, ite_true, ite_false, Bool.false_eq_true, not_true_eq_false, not_false_eq_true, bI_t, bI_f, decide_eq_true_eq, reduceCtorEq]; done) | (simp [ms1, ms2, ms3, Y_seen, c_4, c_16]; done) | contradiction | simp_all)
  · refine zw_iconst (v := -1) X dX8_seen_7 ik_m1 ?_
    exact zw_iret X F dX8_seen_8 rfl (by first | (simp only [ms1, ms2, ms3, Y_seen, c_4, decide_true, decide_false, Bool.and_true, Bool.true_and, Bool.and_false, Bool.false_and, Bool.or_true, Bool.true_or, Bool.or_false, Bool.false_or, Bool.not_true, Bool.not_false, if_true, if_false, ite_true, ite_false, Bool.false_eq_true, not_true_eq_false, not_false_eq_true, bI_t, bI_f, decide_eq_true_eq, reduceCtorEq]; done) | (simp [ms1, ms2, ms3, Y_seen, c_4]; done) | contradiction | simp_all) (by first | (simp only [ms1, ms2, ms3, Y_seen, c_4, decide_true, decide_false, Bool.and_true, Bool.true_and, Bool.and_false, Bool.false_and, Bool.or_true, Bool.true_or, Bool.or_false, Bool.false_or, Bool.not_true, Bool.not_false, if_true, if_false, ite_true, ite_false, Bool.false_eq_true, not_true_eq_false, not_false_eq_true, bI_t, bI_f, decide_eq_true_eq, reduceCtorEq]; done) | (simp [ms1, ms2, ms3, Y_seen, c_4]; done) | contradiction | simp_all)
set_option maxRecDepth 20000 in
set_option maxHeartbeats 1000000 in
theorem t_X8_forget {σ : St}  : Ct MX8_forget [.ref 42] σ (some (.int (Y_forg σ).1)) ((Y_forg σ).2) := by
  refine ct_of (ls0 := [some (.ref 42), none]) ok_MX8_forget rfl (Nat.le_of_ble_eq_true rfl) rfl ?_
  intro g X F
  refine zw_aload_0 X dX8_forget_0 ?_
  refine zw_getI X dX8_forget_1 fl_X8_167 ck_X8 sh_42 rfl ?_
  refine zw_istore_1 X dX8_forget_4 ?_
  refine zw_aload_0 X dX8_forget_5 ?_
  refine zw_iconst (v := 0) X dX8_forget_6 ik_0 ?_
  refine zw_put X dX8_forget_7 fl_X8_167 ck_X8 ft_8_10 sh_42 rfl ?_
  refine zw_iload_1 X dX8_forget_10 ?_
  exact zw_iret X F dX8_forget_11 rfl (by first | (simp only [Y_forg, decide_true, decide_false, Bool.and_true, Bool.true_and, Bool.and_false, Bool.false_and, Bool.or_true, Bool.true_or, Bool.or_false, Bool.false_or, Bool.not_true, Bool.not_false, if_true, if_false, ite_true, ite_false, Bool.false_eq_true, not_true_eq_false, not_false_eq_true, bI_t, bI_f, decide_eq_true_eq, reduceCtorEq]; done) | (simp [Y_forg]; done) | contradiction | simp_all) (by first | (simp only [Y_forg, decide_true, decide_false, Bool.and_true, Bool.true_and, Bool.and_false, Bool.false_and, Bool.or_true, Bool.true_or, Bool.or_false, Bool.false_or, Bool.not_true, Bool.not_false, if_true, if_false, ite_true, ite_false, Bool.false_eq_true, not_true_eq_false, not_false_eq_true, bI_t, bI_f, decide_eq_true_eq, reduceCtorEq]; done) | (simp [Y_forg]; done) | contradiction | simp_all)
set_option maxRecDepth 20000 in
set_option maxHeartbeats 1000000 in
theorem t_X8_humSet {σ : St} (hS : SI σ) : Ct MX8_humSet [.ref 42] σ (some (.int (mHum σ))) (σ) := by
  refine ct_of (ls0 := [some (.ref 42), none, none, none, none, none]) ok_MX8_humSet rfl (Nat.le_of_ble_eq_true rfl) rfl ?_
  intro g X F
  refine zw_iconst (v := 0) X dX8_humSet_0 ik_0 ?_
  refine zw_istore_1 X dX8_humSet_1 ?_
  refine zw_iconst (v := 0) X dX8_humSet_2 ik_0 ?_
  refine zw_istore_2 X dX8_humSet_3 ?_
  refine zw_fg_3 ?_
  refine zw_fg_4 ?_
  refine zw_fg_5 ?_
  refine zloop (α := Int32) (S := fun zn za => ∀ (v4_1 : Int32) (v4_2 : Int32), za = v4_1 → v4_2 = nI zn → ZW g 4 [some (.ref 42), some (.int v4_1), some (.int v4_2), none, none, none] [] σ) (N := 6) (f := (muO σ)) (a0 := (0 : Int32)) (fun n4 a4 hn4 ha4 ih4 v4_1 v4_2 hv4_1 hv4_2 => ?_) (fun a4 ha4 v4_1 v4_2 hv4_1 hv4_2 => ?_) _ _ rfl rfl
  · subst hv4_1 hv4_2
    refine zw_iload_2 X dX8_humSet_4 ?_
    refine zw_bipush (v := 6) X dX8_humSet_5 bk_6 ?_
    refine zw_icmpge_f (tgt := 134) X dX8_humSet_7 (by decide) (nI_lt hn4 (by decide)) ?_
    refine zw_aload_0 X dX8_humSet_10 ?_
    refine zw_iload_2 X dX8_humSet_11 ?_
    refine zw_cV_ii X dX8_humSet_12 lk_X8_154 ok_MX8_ridesAtAll vi_MX8_ridesAtAll rm_X8_humSet_X8_ridesAtAll sh_42 rfl (Nat.le_of_ble_eq_true rfl) (t_X8_ridesAtAll (vp_in_nI hn4 (by decide))) ?_
    refine zw_istore_3 X dX8_humSet_15 ?_
    refine zw_iconst (v := 0) X dX8_humSet_16 ik_0 ?_
    refine zw_istore_4 X dX8_humSet_17 ?_
    refine zw_fg_5 ?_
    refine zloop (α := Bool) (S := fun zn za => ∀ (v19_3 : Int32) (v19_4 : Int32), v19_3 = bI za → v19_4 = nI zn → ZW g 19 [some (.ref 42), some (.int a4), some (.int (nI n4)), some (.int v19_3), some (.int v19_4), none] [] σ) (N := (clN (σ 42 10))) (f := (muI σ n4)) (a0 := (mAt σ (nI n4))) (fun n19 a19 hn19 ha19 ih19 v19_3 v19_4 hv19_3 hv19_4 => ?_) (fun a19 ha19 v19_3 v19_4 hv19_3 hv19_4 => ?_) _ _ rfl rfl
    · subst hv19_3 hv19_4
      refine zw_iload_4 X dX8_humSet_19 ?_
      refine zw_aload_0 X dX8_humSet_21 ?_
      refine zw_getI X dX8_humSet_22 fl_X8_167 ck_X8 sh_42 rfl ?_
      refine zw_icmpge_f (tgt := 114) X dX8_humSet_25 (by decide) ((clN_lt (Nat.le_of_lt hn19)).mpr hn19) ?_
      refine zw_aload_0 X dX8_humSet_28 ?_
      refine zw_getR X dX8_humSet_29 fl_X8_32 ck_X8 sh_42 rfl ?_
      refine zw_iconst (v := 2) X dX8_humSet_32 ik_2 ?_
      refine zw_iload_4 X dX8_humSet_33 ?_
      refine zw_imul X dX8_humSet_35 ?_
      refine zw_iconst (v := 1) X dX8_humSet_36 ik_1 ?_
      refine zw_iadd X dX8_humSet_37 ?_
      refine zw_iald X dX8_humSet_38 sh_48 (sg_in (Nat.lt_of_lt_of_le hn19 hS.1)).2 ?_
      refine zw_istore_5 X dX8_humSet_39 ?_
      refine zw_iload_3 X dX8_humSet_41 ?_
      refine zw_ifeqB (tgt := 106) X dX8_humSet_42 (by decide) (fun c_42 => ?_) (fun c_42 => ?_)
      · refine zw_iconst (v := 0) X dX8_humSet_106 ik_0 ?_
        refine zw_istore_3 X dX8_humSet_107 ?_
        refine zw_iinc_4_p1 X dX8_humSet_108 ?_
        refine zw_goto (tgt := 19) X dX8_humSet_111 (by decide) ?_
        refine zw_fg_5 ?_
        exact ih19 _ _ (by first | (simp only [muI, bI_0', bI_1', bI_0, bI_1, bI_inj, c_42, decide_true, decide_false, Bool.and_true, Bool.true_and, Bool.and_false, Bool.false_and, Bool.or_true, Bool.true_or, Bool.or_false, Bool.false_or, Bool.not_true, Bool.not_false, if_true, if_false, ite_true, ite_false, Bool.false_eq_true, not_true_eq_false, not_false_eq_true, bI_t, bI_f, decide_eq_true_eq, reduceCtorEq]; done) | (simp [muI, bI_0', bI_1', bI_0, bI_1, bI_inj, c_42]; done) | contradiction | simp_all) (nI_1 n19)
      · refine zw_iload_5 X dX8_humSet_45 ?_
        refine zw_iload_2 X dX8_humSet_47 ?_
        refine zw_icmpeq (tgt := 106) X dX8_humSet_48 (by decide) (fun c_48 => ?_) (fun c_48 => ?_)
        · refine zw_iconst (v := 0) X dX8_humSet_106 ik_0 ?_
          refine zw_istore_3 X dX8_humSet_107 ?_
          refine zw_iinc_4_p1 X dX8_humSet_108 ?_
          refine zw_goto (tgt := 19) X dX8_humSet_111 (by decide) ?_
          refine zw_fg_5 ?_
          exact ih19 _ _ (by first | (simp only [muI, bI_0', bI_1', bI_0, bI_1, bI_inj, c_42, eq_true c_48, decide_true, decide_false, Bool.and_true, Bool.true_and, Bool.and_false, Bool.false_and, Bool.or_true, Bool.true_or, Bool.or_false, Bool.false_or, Bool.not_true, Bool.not_false, if_true, if_false, ite_true, ite_false, Bool.false_eq_true, not_true_eq_false, not_false_eq_true, bI_t, bI_f, decide_eq_true_eq, reduceCtorEq]; done) | (simp [muI, bI_0', bI_1', bI_0, bI_1, bI_inj, c_42, eq_true c_48]; done) | contradiction | simp_all) (nI_1 n19)
        · refine zw_aload_0 X dX8_humSet_51 ?_
          refine zw_iload_2 X dX8_humSet_52 ?_
          refine zw_aload_0 X dX8_humSet_53 ?_
          refine zw_getR X dX8_humSet_54 fl_X8_32 ck_X8 sh_42 rfl ?_
          refine zw_iconst (v := 2) X dX8_humSet_57 ik_2 ?_
          refine zw_iload_4 X dX8_humSet_58 ?_
          refine zw_imul X dX8_humSet_60 ?_
          refine zw_iald X dX8_humSet_61 sh_48 (sg_in (Nat.lt_of_lt_of_le hn19 hS.1)).1 ?_
          refine zw_cV_iii X dX8_humSet_62 lk_X8_78 ok_MX8_rides vi_MX8_rides rm_X8_humSet_X8_rides sh_42 rfl (Nat.le_of_ble_eq_true rfl) (t_X8_rides (vp_in_nI hn4 (by decide))) ?_
          refine zw_ifeqB (tgt := 106) X dX8_humSet_65 (by decide) (fun c_65 => ?_) (fun c_65 => ?_)
          · refine zw_iconst (v := 0) X dX8_humSet_106 ik_0 ?_
            refine zw_istore_3 X dX8_humSet_107 ?_
            refine zw_iinc_4_p1 X dX8_humSet_108 ?_
            refine zw_goto (tgt := 19) X dX8_humSet_111 (by decide) ?_
            refine zw_fg_5 ?_
            exact ih19 _ _ (by first | (simp only [muI, bI_0', bI_1', bI_0, bI_1, bI_inj, c_42, c_48, c_65, decide_true, decide_false, Bool.and_true, Bool.true_and, Bool.and_false, Bool.false_and, Bool.or_true, Bool.true_or, Bool.or_false, Bool.false_or, Bool.not_true, Bool.not_false, if_true, if_false, ite_true, ite_false, Bool.false_eq_true, not_true_eq_false, not_false_eq_true, bI_t, bI_f, decide_eq_true_eq, reduceCtorEq]; done) | (simp [muI, bI_0', bI_1', bI_0, bI_1, bI_inj, c_42, c_48, c_65]; done) | contradiction | simp_all) (nI_1 n19)
          · refine zw_aload_0 X dX8_humSet_68 ?_
            refine zw_iload_5 X dX8_humSet_69 ?_
            refine zw_aload_0 X dX8_humSet_71 ?_
            refine zw_getR X dX8_humSet_72 fl_X8_32 ck_X8 sh_42 rfl ?_
            refine zw_iconst (v := 2) X dX8_humSet_75 ik_2 ?_
            refine zw_iload_4 X dX8_humSet_76 ?_
            refine zw_imul X dX8_humSet_78 ?_
            refine zw_iald X dX8_humSet_79 sh_48 (sg_in (Nat.lt_of_lt_of_le hn19 hS.1)).1 ?_
            refine zw_cV_iii X dX8_humSet_80 lk_X8_78 ok_MX8_rides vi_MX8_rides rm_X8_humSet_X8_rides sh_42 rfl (Nat.le_of_ble_eq_true rfl) (t_X8_rides (SI_at hS hn19)) ?_
            refine zw_ifeqB (tgt := 106) X dX8_humSet_83 (by decide) (fun c_83 => ?_) (fun c_83 => ?_)
            · refine zw_iconst (v := 0) X dX8_humSet_106 ik_0 ?_
              refine zw_istore_3 X dX8_humSet_107 ?_
              refine zw_iinc_4_p1 X dX8_humSet_108 ?_
              refine zw_goto (tgt := 19) X dX8_humSet_111 (by decide) ?_
              refine zw_fg_5 ?_
              exact ih19 _ _ (by first | (simp only [muI, bI_0', bI_1', bI_0, bI_1, bI_inj, c_42, c_48, c_65, c_83, decide_true, decide_false, Bool.and_true, Bool.true_and, Bool.and_false, Bool.false_and, Bool.or_true, Bool.true_or, Bool.or_false, Bool.false_or, Bool.not_true, Bool.not_false, if_true, if_false, ite_true, ite_false, Bool.false_eq_true, not_true_eq_false, not_false_eq_true, bI_t, bI_f, decide_eq_true_eq, reduceCtorEq]; done) | (simp [muI, bI_0', bI_1', bI_0, bI_1, bI_inj, c_42, c_48, c_65, c_83]; done) | contradiction | simp_all) (nI_1 n19)
            · refine zw_aload_0 X dX8_humSet_86 ?_
              refine zw_getR X dX8_humSet_87 fl_X8_20 ck_X8 sh_42 rfl ?_
              refine zw_iload_2 X dX8_humSet_90 ?_
              refine zw_ialdN X dX8_humSet_91 sh_45 hn4 (by decide) ?_
              refine zw_aload_0 X dX8_humSet_92 ?_
              refine zw_getR X dX8_humSet_93 fl_X8_20 ck_X8 sh_42 rfl ?_
              refine zw_iload_5 X dX8_humSet_96 ?_
              refine zw_iald X dX8_humSet_98 sh_45 (SI_at hS hn19) ?_
              refine zw_icmpne (tgt := 106) X dX8_humSet_99 (by decide) (fun c_99 => ?_) (fun c_99 => ?_)
              · refine zw_iconst (v := 0) X dX8_humSet_106 ik_0 ?_
                refine zw_istore_3 X dX8_humSet_107 ?_
                refine zw_iinc_4_p1 X dX8_humSet_108 ?_
                refine zw_goto (tgt := 19) X dX8_humSet_111 (by decide) ?_
                refine zw_fg_5 ?_
                exact ih19 _ _ (by first | (simp only [muI, bI_0', bI_1', bI_0, bI_1, bI_inj, c_42, c_48, c_65, c_83, c_99, decide_true, decide_false, Bool.and_true, Bool.true_and, Bool.and_false, Bool.false_and, Bool.or_true, Bool.true_or, Bool.or_false, Bool.false_or, Bool.not_true, Bool.not_false, if_true, if_false, ite_true, ite_false, Bool.false_eq_true, not_true_eq_false, not_false_eq_true, bI_t, bI_f, decide_eq_true_eq, reduceCtorEq]; done) | (simp [muI, bI_0', bI_1', bI_0, bI_1, bI_inj, c_42, c_48, c_65, c_83, c_99]; done) | contradiction | simp_all) (nI_1 n19)
              · refine zw_iconst (v := 1) X dX8_humSet_102 ik_1 ?_
                refine zw_goto (tgt := 107) X dX8_humSet_103 (by decide) ?_
                refine zw_istore_3 X dX8_humSet_107 ?_
                refine zw_iinc_4_p1 X dX8_humSet_108 ?_
                refine zw_goto (tgt := 19) X dX8_humSet_111 (by decide) ?_
                refine zw_fg_5 ?_
                exact ih19 _ _ (by first | (simp only [muI, bI_0', bI_1', bI_0, bI_1, bI_inj, c_42, c_48, c_65, c_83, eq_true c_99, decide_true, decide_false, Bool.and_true, Bool.true_and, Bool.and_false, Bool.false_and, Bool.or_true, Bool.true_or, Bool.or_false, Bool.false_or, Bool.not_true, Bool.not_false, if_true, if_false, ite_true, ite_false, Bool.false_eq_true, not_true_eq_false, not_false_eq_true, bI_t, bI_f, decide_eq_true_eq, reduceCtorEq]; done) | (simp [muI, bI_0', bI_1', bI_0, bI_1, bI_inj, c_42, c_48, c_65, c_83, eq_true c_99]; done) | contradiction | simp_all) (nI_1 n19)
    · subst hv19_3 hv19_4
      refine zw_iload_4 X dX8_humSet_19 ?_
      refine zw_aload_0 X dX8_humSet_21 ?_
      refine zw_getI X dX8_humSet_22 fl_X8_167 ck_X8 sh_42 rfl ?_
      refine zw_icmpge_t (tgt := 114) X dX8_humSet_25 (by decide) (fun h => Nat.lt_irrefl _ ((clN_lt (Nat.le_refl _)).mp h)) ?_
      refine zw_iload_1 X dX8_humSet_114 ?_
      refine zw_iload_3 X dX8_humSet_115 ?_
      refine zw_ifeqB (tgt := 125) X dX8_humSet_116 (by decide) (fun c_116 => ?_) (fun c_116 => ?_)
      · refine zw_iconst (v := 0) X dX8_humSet_125 ik_0 ?_
        refine zw_ior X dX8_humSet_126 ?_
        refine zw_istore_1 X dX8_humSet_127 ?_
        refine zw_iinc_2_p1 X dX8_humSet_128 ?_
        refine zw_goto (tgt := 4) X dX8_humSet_131 (by decide) ?_
        refine zw_fg_3 ?_
        refine zw_fg_4 ?_
        refine zw_fg_5 ?_
        exact ih4 _ _ (by first | (simp only [muO, muB, ← ha19, c_116, decide_true, decide_false, Bool.and_true, Bool.true_and, Bool.and_false, Bool.false_and, Bool.or_true, Bool.true_or, Bool.or_false, Bool.false_or, Bool.not_true, Bool.not_false, if_true, if_false, ite_true, ite_false, Bool.false_eq_true, not_true_eq_false, not_false_eq_true, bI_t, bI_f, decide_eq_true_eq, reduceCtorEq]; done) | (simp [muO, muB, ← ha19, c_116]; done) | contradiction | simp_all) (nI_1 n4)
      · refine zw_iconst (v := 1) X dX8_humSet_119 ik_1 ?_
        refine zw_iload_2 X dX8_humSet_120 ?_
        refine zw_ishl X dX8_humSet_121 ?_
        refine zw_goto (tgt := 126) X dX8_humSet_122 (by decide) ?_
        refine zw_ior X dX8_humSet_126 ?_
        refine zw_istore_1 X dX8_humSet_127 ?_
        refine zw_iinc_2_p1 X dX8_humSet_128 ?_
        refine zw_goto (tgt := 4) X dX8_humSet_131 (by decide) ?_
        refine zw_fg_3 ?_
        refine zw_fg_4 ?_
        refine zw_fg_5 ?_
        exact ih4 _ _ (by first | (simp only [muO, muB, ← ha19, c_116, decide_true, decide_false, Bool.and_true, Bool.true_and, Bool.and_false, Bool.false_and, Bool.or_true, Bool.true_or, Bool.or_false, Bool.false_or, Bool.not_true, Bool.not_false, if_true, if_false, ite_true, ite_false, Bool.false_eq_true, not_true_eq_false, not_false_eq_true, bI_t, bI_f, decide_eq_true_eq, reduceCtorEq]; done) | (simp [muO, muB, ← ha19, c_116]; done) | contradiction | simp_all) (nI_1 n4)
  · subst hv4_1 hv4_2
    refine zw_iload_2 X dX8_humSet_4 ?_
    refine zw_bipush (v := 6) X dX8_humSet_5 bk_6 ?_
    refine zw_icmpge_t (tgt := 134) X dX8_humSet_7 (by decide) (by decide) ?_
    refine zw_iload_1 X dX8_humSet_134 ?_
    exact zw_iret X F dX8_humSet_135 rfl (by rw [mHum, ← ha4]) (rfl)
set_option maxRecDepth 20000 in
set_option maxHeartbeats 1000000 in
theorem t_X8_hum {σ : St} (hS : SI σ) : Ct MX8_hum [.ref 42] σ (some (.int (Y_hum σ).1)) ((Y_hum σ).2) := by
  refine ct_of (ls0 := [some (.ref 42)]) ok_MX8_hum rfl (Nat.le_of_ble_eq_true rfl) rfl ?_
  intro g X F
  refine zw_aload_0 X dX8_hum_0 ?_
  refine zw_cV_ni X dX8_hum_1 lk_X8_170 ok_MX8_humSet vi_MX8_humSet rm_X8_hum_X8_humSet sh_42 rfl (Nat.le_of_ble_eq_true rfl) (t_X8_humSet hS) ?_
  exact zw_iret X F dX8_hum_4 rfl (by first | (simp only [Y_hum, decide_true, decide_false, Bool.and_true, Bool.true_and, Bool.and_false, Bool.false_and, Bool.or_true, Bool.true_or, Bool.or_false, Bool.false_or, Bool.not_true, Bool.not_false, if_true, if_false, ite_true, ite_false, Bool.false_eq_true, not_true_eq_false, not_false_eq_true, bI_t, bI_f, decide_eq_true_eq, reduceCtorEq]; done) | (simp [Y_hum]; done) | contradiction | simp_all) (by first | (simp only [Y_hum, decide_true, decide_false, Bool.and_true, Bool.true_and, Bool.and_false, Bool.false_and, Bool.or_true, Bool.true_or, Bool.or_false, Bool.false_or, Bool.not_true, Bool.not_false, if_true, if_false, ite_true, ite_false, Bool.false_eq_true, not_true_eq_false, not_false_eq_true, bI_t, bI_f, decide_eq_true_eq, reduceCtorEq]; done) | (simp [Y_hum]; done) | contradiction | simp_all)
set_option maxRecDepth 20000 in
set_option maxHeartbeats 1000000 in
theorem t_X8_watch {σ : St} {w : Int32} (hS : SI σ) : Ct MX8_watch [.ref 42, .int w] σ (some (.int (Y_watch σ w).1)) ((Y_watch σ w).2) := by
  refine ct_of (ls0 := [some (.ref 42), some (.int w), none, none, none, none, none, none, none]) ok_MX8_watch rfl (Nat.le_of_ble_eq_true rfl) rfl ?_
  intro g X F
  refine zw_iload_1 X dX8_watch_0 ?_
  refine zw_iconst (v := 0) X dX8_watch_1 ik_0 ?_
  refine zw_iconst (v := 1) X dX8_watch_2 ik_1 ?_
  refine zw_cS_iiii X dX8_watch_3 lk_X8_60 ok_MX8_in st_MX8_in rm_X8_watch_X8_in (Nat.le_of_ble_eq_true rfl) t_X8_in ?_
  refine zw_ifneB (tgt := 12) X dX8_watch_6 (by decide) (fun c_6 => ?_) (fun c_6 => ?_)
  · refine zw_aload_0 X dX8_watch_12 ?_
    refine zw_cV_ni X dX8_watch_13 lk_X8_170 ok_MX8_humSet vi_MX8_humSet rm_X8_watch_X8_humSet sh_42 rfl (Nat.le_of_ble_eq_true rfl) (t_X8_humSet hS) ?_
    refine zw_istore_2 X dX8_watch_16 ?_
    refine zw_bipush (v := -6) X dX8_watch_17 bk_m6 ?_
    refine zw_istore_3 X dX8_watch_19 ?_
    refine zw_ldc X dX8_watch_20 kc_X8_173 ?_
    refine zw_istore_4 X dX8_watch_22 ?_
    refine zw_iconst (v := 0) X dX8_watch_24 ik_0 ?_
    refine zw_istore_5 X dX8_watch_25 ?_
    by_cases hv : mHum σ = 0
    · refine zw_iload_5 X dX8_watch_27 ?_
      refine zw_aload_0 X dX8_watch_29 ?_
      refine zw_getI X dX8_watch_30 fl_X8_7 ck_X8 sh_42 rfl ?_
      refine zw_icmpge (tgt := 184) X dX8_watch_33 (by decide) (fun c_33 => ?_) (fun c_33 => ?_)
      · refine zw_iload_3 X dX8_watch_184 ?_
        refine zw_iflt_t (tgt := 192) X dX8_watch_185 (by decide) (by decide) ?_
        refine zw_iload_3 X dX8_watch_192 ?_
        refine zw_goto (tgt := 198) X dX8_watch_193 (by decide) ?_
        exact zw_iret X F dX8_watch_198 rfl (by first | (simp only [Y_watch, mwA, c_6, eq_true hv, c_33, decide_true, decide_false, Bool.and_true, Bool.true_and, Bool.and_false, Bool.false_and, Bool.or_true, Bool.true_or, Bool.or_false, Bool.false_or, Bool.not_true, Bool.not_false, if_true, if_false, ite_true, ite_false, Bool.false_eq_true, not_true_eq_false, not_false_eq_true, bI_t, bI_f, decide_eq_true_eq, reduceCtorEq]; done) | (simp [Y_watch, mwA, c_6, eq_true hv, c_33]; done) | contradiction | simp_all) (by first | (simp only [Y_watch, c_6, eq_true hv, c_33, decide_true, decide_false, Bool.and_true, Bool.true_and, Bool.and_false, Bool.false_and, Bool.or_true, Bool.true_or, Bool.or_false, Bool.false_or, Bool.not_true, Bool.not_false, if_true, if_false, ite_true, ite_false, Bool.false_eq_true, not_true_eq_false, not_false_eq_true, bI_t, bI_f, decide_eq_true_eq, reduceCtorEq]; done) | (simp [Y_watch, c_6, eq_true hv, c_33]; done) | contradiction | simp_all)
      · refine zw_iload_2 X dX8_watch_36 ?_
        refine zw_ifeq_t (tgt := 184) X dX8_watch_37 (by decide) hv ?_
        refine zw_iload_3 X dX8_watch_184 ?_
        refine zw_iflt_t (tgt := 192) X dX8_watch_185 (by decide) (by decide) ?_
        refine zw_iload_3 X dX8_watch_192 ?_
        refine zw_goto (tgt := 198) X dX8_watch_193 (by decide) ?_
        exact zw_iret X F dX8_watch_198 rfl (by first | (simp only [Y_watch, mwA, c_6, eq_true hv, c_33, decide_true, decide_false, Bool.and_true, Bool.true_and, Bool.and_false, Bool.false_and, Bool.or_true, Bool.true_or, Bool.or_false, Bool.false_or, Bool.not_true, Bool.not_false, if_true, if_false, ite_true, ite_false, Bool.false_eq_true, not_true_eq_false, not_false_eq_true, bI_t, bI_f, decide_eq_true_eq, reduceCtorEq]; done) | (simp [Y_watch, mwA, c_6, eq_true hv, c_33]; done) | contradiction | simp_all) (by first | (simp only [Y_watch, c_6, eq_true hv, c_33, decide_true, decide_false, Bool.and_true, Bool.true_and, Bool.and_false, Bool.false_and, Bool.or_true, Bool.true_or, Bool.or_false, Bool.false_or, Bool.not_true, Bool.not_false, if_true, if_false, ite_true, ite_false, Bool.false_eq_true, not_true_eq_false, not_false_eq_true, bI_t, bI_f, decide_eq_true_eq, reduceCtorEq]; done) | (simp [Y_watch, c_6, eq_true hv, c_33]; done) | contradiction | simp_all)
    · refine zw_fg_6 ?_
      refine zw_fg_7 ?_
      refine zw_fg_8 ?_
      refine zloop (α := Int32 × Int32) (S := fun zn za => ∀ (v27_3 : Int32) (v27_4 : Int32) (v27_5 : Int32), v27_3 = za.1 → v27_4 = za.2 → v27_5 = nI zn → ZW g 27 [some (.ref 42), some (.int w), some (.int (mHum σ)), some (.int v27_3), some (.int v27_4), some (.int v27_5), none, none, none] [] σ) (N := (clN (σ 42 0))) (f := (mwO σ (mHum σ))) (a0 := ((-6, 1000000) : Int32 × Int32)) (fun n27 a27 hn27 ha27 ih27 v27_3 v27_4 v27_5 hv27_3 hv27_4 hv27_5 => ?_) (fun a27 ha27 v27_3 v27_4 v27_5 hv27_3 hv27_4 hv27_5 => ?_) _ _ _ rfl rfl rfl
      · subst hv27_3 hv27_4 hv27_5
        refine zw_iload_5 X dX8_watch_27 ?_
        refine zw_aload_0 X dX8_watch_29 ?_
        refine zw_getI X dX8_watch_30 fl_X8_7 ck_X8 sh_42 rfl ?_
        refine zw_icmpge_f (tgt := 184) X dX8_watch_33 (by decide) ((clN_lt (Nat.le_of_lt hn27)).mpr hn27) ?_
        refine zw_iload_2 X dX8_watch_36 ?_
        refine zw_ifeq_f (tgt := 184) X dX8_watch_37 (by decide) hv ?_
        refine zw_iconst (v := 0) X dX8_watch_40 ik_0 ?_
        refine zw_istore_6 X dX8_watch_41 ?_
        refine zw_fg_7 ?_
        refine zw_fg_8 ?_
        refine zloop (α := Int32 × Int32) (S := fun zn za => ∀ (v43_3 : Int32) (v43_4 : Int32) (v43_6 : Int32), v43_3 = za.1 → v43_4 = za.2 → v43_6 = nI zn → ZW g 43 [some (.ref 42), some (.int w), some (.int (mHum σ)), some (.int v43_3), some (.int v43_4), some (.int (nI n27)), some (.int v43_6), none, none] [] σ) (N := 3) (f := (mwI σ (mHum σ) n27)) (a0 := a27) (fun n43 a43 hn43 ha43 ih43 v43_3 v43_4 v43_6 hv43_3 hv43_4 hv43_6 => ?_) (fun a43 ha43 v43_3 v43_4 v43_6 hv43_3 hv43_4 hv43_6 => ?_) _ _ _ rfl rfl rfl
        · subst hv43_3 hv43_4 hv43_6
          refine zw_iload_6 X dX8_watch_43 ?_
          refine zw_iconst (v := 3) X dX8_watch_45 ik_3 ?_
          refine zw_icmpge_f (tgt := 178) X dX8_watch_46 (by decide) (nI_lt hn43 (by decide)) ?_
          refine zw_iconst (v := 0) X dX8_watch_49 ik_0 ?_
          refine zw_istore_7 X dX8_watch_50 ?_
          refine zw_iconst (v := 0) X dX8_watch_52 ik_0 ?_
          refine zw_istore_8 X dX8_watch_53 ?_
          refine zloop (α := Int32) (S := fun zn za => ∀ (v55_7 : Int32) (v55_8 : Int32), za = v55_7 → v55_8 = nI zn → ZW g 55 [some (.ref 42), some (.int w), some (.int (mHum σ)), some (.int a43.1), some (.int a43.2), some (.int (nI n27)), some (.int (nI n43)), some (.int v55_7), some (.int v55_8)] [] σ) (N := 6) (f := (mwK σ (mHum σ) n27 n43)) (a0 := (0 : Int32)) (fun n55 a55 hn55 ha55 ih55 v55_7 v55_8 hv55_7 hv55_8 => ?_) (fun a55 ha55 v55_7 v55_8 hv55_7 hv55_8 => ?_) _ _ rfl rfl
          · subst hv55_7 hv55_8
            refine zw_iload_8 X dX8_watch_55 ?_
            refine zw_bipush (v := 6) X dX8_watch_57 bk_6 ?_
            refine zw_icmpge_f (tgt := 110) X dX8_watch_59 (by decide) (nI_lt hn55 (by decide)) ?_
            refine zw_iload_7 X dX8_watch_62 ?_
            refine zw_iload_2 X dX8_watch_64 ?_
            refine zw_iload_8 X dX8_watch_65 ?_
            refine zw_cS_iii X dX8_watch_67 lk_X8_110 ok_MX8_has st_MX8_has rm_X8_watch_X8_has (Nat.le_of_ble_eq_true rfl) t_X8_has ?_
            refine zw_ifeqB (tgt := 100) X dX8_watch_70 (by decide) (fun c_70 => ?_) (fun c_70 => ?_)
            · refine zw_iconst (v := 0) X dX8_watch_100 ik_0 ?_
              refine zw_iadd X dX8_watch_101 ?_
              refine zw_istore_7 X dX8_watch_102 ?_
              refine zw_iinc_8_p1 X dX8_watch_104 ?_
              refine zw_goto (tgt := 55) X dX8_watch_107 (by decide) ?_
              exact ih55 _ _ (by first | (simp only [mwK, c_6, hv, c_70, decide_true, decide_false, Bool.and_true, Bool.true_and, Bool.and_false, Bool.false_and, Bool.or_true, Bool.true_or, Bool.or_false, Bool.false_or, Bool.not_true, Bool.not_false, if_true, if_false, ite_true, ite_false, Bool.false_eq_true, not_true_eq_false, not_false_eq_true, bI_t, bI_f, decide_eq_true_eq, reduceCtorEq]; done) | (simp [mwK, c_6, hv, c_70]; done) | contradiction | simp_all) (nI_1 n55)
            · refine zw_aload_0 X dX8_watch_73 ?_
              refine zw_iload_8 X dX8_watch_74 ?_
              refine zw_iload_5 X dX8_watch_76 ?_
              refine zw_cV_iii X dX8_watch_78 lk_X8_78 ok_MX8_rides vi_MX8_rides rm_X8_watch_X8_rides sh_42 rfl (Nat.le_of_ble_eq_true rfl) (t_X8_rides (vp_in_nI hn55 (by decide))) ?_
              refine zw_ifeqB (tgt := 100) X dX8_watch_81 (by decide) (fun c_81 => ?_) (fun c_81 => ?_)
              · refine zw_iconst (v := 0) X dX8_watch_100 ik_0 ?_
                refine zw_iadd X dX8_watch_101 ?_
                refine zw_istore_7 X dX8_watch_102 ?_
                refine zw_iinc_8_p1 X dX8_watch_104 ?_
                refine zw_goto (tgt := 55) X dX8_watch_107 (by decide) ?_
                exact ih55 _ _ (by first | (simp only [mwK, c_6, hv, c_70, c_81, decide_true, decide_false, Bool.and_true, Bool.true_and, Bool.and_false, Bool.false_and, Bool.or_true, Bool.true_or, Bool.or_false, Bool.false_or, Bool.not_true, Bool.not_false, if_true, if_false, ite_true, ite_false, Bool.false_eq_true, not_true_eq_false, not_false_eq_true, bI_t, bI_f, decide_eq_true_eq, reduceCtorEq]; done) | (simp [mwK, c_6, hv, c_70, c_81]; done) | contradiction | simp_all) (nI_1 n55)
              · refine zw_aload_0 X dX8_watch_84 ?_
                refine zw_getR X dX8_watch_85 fl_X8_20 ck_X8 sh_42 rfl ?_
                refine zw_iload_8 X dX8_watch_88 ?_
                refine zw_ialdN X dX8_watch_90 sh_45 hn55 (by decide) ?_
                refine zw_iload_6 X dX8_watch_91 ?_
                refine zw_icmpne (tgt := 100) X dX8_watch_93 (by decide) (fun c_93 => ?_) (fun c_93 => ?_)
                · refine zw_iconst (v := 0) X dX8_watch_100 ik_0 ?_
                  refine zw_iadd X dX8_watch_101 ?_
                  refine zw_istore_7 X dX8_watch_102 ?_
                  refine zw_iinc_8_p1 X dX8_watch_104 ?_
                  refine zw_goto (tgt := 55) X dX8_watch_107 (by decide) ?_
                  exact ih55 _ _ (by first | (simp only [mwK, c_6, hv, c_70, c_81, c_93, decide_true, decide_false, Bool.and_true, Bool.true_and, Bool.and_false, Bool.false_and, Bool.or_true, Bool.true_or, Bool.or_false, Bool.false_or, Bool.not_true, Bool.not_false, if_true, if_false, ite_true, ite_false, Bool.false_eq_true, not_true_eq_false, not_false_eq_true, bI_t, bI_f, decide_eq_true_eq, reduceCtorEq]; done) | (simp [mwK, c_6, hv, c_70, c_81, c_93]; done) | contradiction | simp_all) (nI_1 n55)
                · refine zw_iconst (v := 1) X dX8_watch_96 ik_1 ?_
                  refine zw_goto (tgt := 101) X dX8_watch_97 (by decide) ?_
                  refine zw_iadd X dX8_watch_101 ?_
                  refine zw_istore_7 X dX8_watch_102 ?_
                  refine zw_iinc_8_p1 X dX8_watch_104 ?_
                  refine zw_goto (tgt := 55) X dX8_watch_107 (by decide) ?_
                  exact ih55 _ _ (by first | (simp only [mwK, c_6, hv, c_70, c_81, eq_true c_93, decide_true, decide_false, Bool.and_true, Bool.true_and, Bool.and_false, Bool.false_and, Bool.or_true, Bool.true_or, Bool.or_false, Bool.false_or, Bool.not_true, Bool.not_false, if_true, if_false, ite_true, ite_false, Bool.false_eq_true, not_true_eq_false, not_false_eq_true, bI_t, bI_f, decide_eq_true_eq, reduceCtorEq]; done) | (simp [mwK, c_6, hv, c_70, c_81, eq_true c_93]; done) | contradiction | simp_all) (nI_1 n55)
          · subst hv55_7 hv55_8
            refine zw_iload_8 X dX8_watch_55 ?_
            refine zw_bipush (v := 6) X dX8_watch_57 bk_6 ?_
            refine zw_icmpge_t (tgt := 110) X dX8_watch_59 (by decide) (by decide) ?_
            refine zw_iload_7 X dX8_watch_110 ?_
            refine zw_iload_2 X dX8_watch_112 ?_
            refine zw_cS_ii X dX8_watch_113 lk_X8_70 ok_MX8_bits st_MX8_bits rm_X8_watch_X8_bits (Nat.le_of_ble_eq_true rfl) t_X8_bits ?_
            refine zw_iload_7 X dX8_watch_116 ?_
            refine zw_isub X dX8_watch_118 ?_
            refine zw_icmple (tgt := 127) X dX8_watch_119 (by decide) (fun c_119 => ?_) (fun c_119 => ?_)
            · refine zw_iload_2 X dX8_watch_127 ?_
              refine zw_cS_ii X dX8_watch_128 lk_X8_70 ok_MX8_bits st_MX8_bits rm_X8_watch_X8_bits (Nat.le_of_ble_eq_true rfl) t_X8_bits ?_
              refine zw_iload_7 X dX8_watch_131 ?_
              refine zw_isub X dX8_watch_133 ?_
              refine zw_istore_8 X dX8_watch_134 ?_
              refine zw_iload_8 X dX8_watch_136 ?_
              refine zw_iload_4 X dX8_watch_138 ?_
              refine zw_icmpge (tgt := 154) X dX8_watch_140 (by decide) (fun c_140 => ?_) (fun c_140 => ?_)
              · refine zw_iload_3 X dX8_watch_154 ?_
                refine zw_istore_3 X dX8_watch_155 ?_
                refine zw_iload_8 X dX8_watch_156 ?_
                refine zw_iload_4 X dX8_watch_158 ?_
                refine zw_icmpge (tgt := 168) X dX8_watch_160 (by decide) (fun c_160 => ?_) (fun c_160 => ?_)
                · refine zw_iload_4 X dX8_watch_168 ?_
                  refine zw_istore_4 X dX8_watch_170 ?_
                  refine zw_iinc_6_p1 X dX8_watch_172 ?_
                  refine zw_goto (tgt := 43) X dX8_watch_175 (by decide) ?_
                  refine zw_fg_7 ?_
                  refine zw_fg_8 ?_
                  exact ih43 _ _ _ (by first | (simp only [mwI, mwW, mwH, ← ha55, c_6, hv, c_119, c_140, c_160, decide_true, decide_false, Bool.and_true, Bool.true_and, Bool.and_false, Bool.false_and, Bool.or_true, Bool.true_or, Bool.or_false, Bool.false_or, Bool.not_true, Bool.not_false, if_true, if_false, ite_true, ite_false, Bool.false_eq_true, not_true_eq_false, not_false_eq_true, bI_t, bI_f, decide_eq_true_eq, reduceCtorEq]; done) | (simp [mwI, mwW, mwH, ← ha55, c_6, hv, c_119, c_140, c_160]; done) | contradiction | simp_all) (by first | (simp only [mwI, mwW, mwH, ← ha55, c_6, hv, c_119, c_140, c_160, decide_true, decide_false, Bool.and_true, Bool.true_and, Bool.and_false, Bool.false_and, Bool.or_true, Bool.true_or, Bool.or_false, Bool.false_or, Bool.not_true, Bool.not_false, if_true, if_false, ite_true, ite_false, Bool.false_eq_true, not_true_eq_false, not_false_eq_true, bI_t, bI_f, decide_eq_true_eq, reduceCtorEq]; done) | (simp [mwI, mwW, mwH, ← ha55, c_6, hv, c_119, c_140, c_160]; done) | contradiction | simp_all) (nI_1 n43)
                · refine zw_iload_8 X dX8_watch_163 ?_
                  refine zw_goto (tgt := 170) X dX8_watch_165 (by decide) ?_
                  refine zw_istore_4 X dX8_watch_170 ?_
                  refine zw_iinc_6_p1 X dX8_watch_172 ?_
                  refine zw_goto (tgt := 43) X dX8_watch_175 (by decide) ?_
                  refine zw_fg_7 ?_
                  refine zw_fg_8 ?_
                  exact ih43 _ _ _ (by first | (simp only [mwI, mwW, mwH, ← ha55, c_6, hv, c_119, c_140, c_160, decide_true, decide_false, Bool.and_true, Bool.true_and, Bool.and_false, Bool.false_and, Bool.or_true, Bool.true_or, Bool.or_false, Bool.false_or, Bool.not_true, Bool.not_false, if_true, if_false, ite_true, ite_false, Bool.false_eq_true, not_true_eq_false, not_false_eq_true, bI_t, bI_f, decide_eq_true_eq, reduceCtorEq]; done) | (simp [mwI, mwW, mwH, ← ha55, c_6, hv, c_119, c_140, c_160]; done) | contradiction | simp_all) (by first | (simp only [mwI, mwW, mwH, ← ha55, c_6, hv, c_119, c_140, c_160, decide_true, decide_false, Bool.and_true, Bool.true_and, Bool.and_false, Bool.false_and, Bool.or_true, Bool.true_or, Bool.or_false, Bool.false_or, Bool.not_true, Bool.not_false, if_true, if_false, ite_true, ite_false, Bool.false_eq_true, not_true_eq_false, not_false_eq_true, bI_t, bI_f, decide_eq_true_eq, reduceCtorEq]; done) | (simp [mwI, mwW, mwH, ← ha55, c_6, hv, c_119, c_140, c_160]; done) | contradiction | simp_all) (nI_1 n43)
              · refine zw_bipush (v := 10) X dX8_watch_143 bk_10 ?_
                refine zw_iload_5 X dX8_watch_145 ?_
                refine zw_imul X dX8_watch_147 ?_
                refine zw_iload_6 X dX8_watch_148 ?_
                refine zw_iadd X dX8_watch_150 ?_
                refine zw_goto (tgt := 155) X dX8_watch_151 (by decide) ?_
                refine zw_istore_3 X dX8_watch_155 ?_
                refine zw_iload_8 X dX8_watch_156 ?_
                refine zw_iload_4 X dX8_watch_158 ?_
                refine zw_icmpge (tgt := 168) X dX8_watch_160 (by decide) (fun c_160 => ?_) (fun c_160 => ?_)
                · refine zw_iload_4 X dX8_watch_168 ?_
                  refine zw_istore_4 X dX8_watch_170 ?_
                  refine zw_iinc_6_p1 X dX8_watch_172 ?_
                  refine zw_goto (tgt := 43) X dX8_watch_175 (by decide) ?_
                  refine zw_fg_7 ?_
                  refine zw_fg_8 ?_
                  exact ih43 _ _ _ (by first | (simp only [mwI, mwW, mwH, ← ha55, c_6, hv, c_119, c_140, c_160, decide_true, decide_false, Bool.and_true, Bool.true_and, Bool.and_false, Bool.false_and, Bool.or_true, Bool.true_or, Bool.or_false, Bool.false_or, Bool.not_true, Bool.not_false, if_true, if_false, ite_true, ite_false, Bool.false_eq_true, not_true_eq_false, not_false_eq_true, bI_t, bI_f, decide_eq_true_eq, reduceCtorEq]; done) | (simp [mwI, mwW, mwH, ← ha55, c_6, hv, c_119, c_140, c_160]; done) | contradiction | simp_all) (by first | (simp only [mwI, mwW, mwH, ← ha55, c_6, hv, c_119, c_140, c_160, decide_true, decide_false, Bool.and_true, Bool.true_and, Bool.and_false, Bool.false_and, Bool.or_true, Bool.true_or, Bool.or_false, Bool.false_or, Bool.not_true, Bool.not_false, if_true, if_false, ite_true, ite_false, Bool.false_eq_true, not_true_eq_false, not_false_eq_true, bI_t, bI_f, decide_eq_true_eq, reduceCtorEq]; done) | (simp [mwI, mwW, mwH, ← ha55, c_6, hv, c_119, c_140, c_160]; done) | contradiction | simp_all) (nI_1 n43)
                · refine zw_iload_8 X dX8_watch_163 ?_
                  refine zw_goto (tgt := 170) X dX8_watch_165 (by decide) ?_
                  refine zw_istore_4 X dX8_watch_170 ?_
                  refine zw_iinc_6_p1 X dX8_watch_172 ?_
                  refine zw_goto (tgt := 43) X dX8_watch_175 (by decide) ?_
                  refine zw_fg_7 ?_
                  refine zw_fg_8 ?_
                  exact ih43 _ _ _ (by first | (simp only [mwI, mwW, mwH, ← ha55, c_6, hv, c_119, c_140, c_160, decide_true, decide_false, Bool.and_true, Bool.true_and, Bool.and_false, Bool.false_and, Bool.or_true, Bool.true_or, Bool.or_false, Bool.false_or, Bool.not_true, Bool.not_false, if_true, if_false, ite_true, ite_false, Bool.false_eq_true, not_true_eq_false, not_false_eq_true, bI_t, bI_f, decide_eq_true_eq, reduceCtorEq]; done) | (simp [mwI, mwW, mwH, ← ha55, c_6, hv, c_119, c_140, c_160]; done) | contradiction | simp_all) (by first | (simp only [mwI, mwW, mwH, ← ha55, c_6, hv, c_119, c_140, c_160, decide_true, decide_false, Bool.and_true, Bool.true_and, Bool.and_false, Bool.false_and, Bool.or_true, Bool.true_or, Bool.or_false, Bool.false_or, Bool.not_true, Bool.not_false, if_true, if_false, ite_true, ite_false, Bool.false_eq_true, not_true_eq_false, not_false_eq_true, bI_t, bI_f, decide_eq_true_eq, reduceCtorEq]; done) | (simp [mwI, mwW, mwH, ← ha55, c_6, hv, c_119, c_140, c_160]; done) | contradiction | simp_all) (nI_1 n43)
            · refine zw_iload_7 X dX8_watch_122 ?_
              refine zw_goto (tgt := 134) X dX8_watch_124 (by decide) ?_
              refine zw_istore_8 X dX8_watch_134 ?_
              refine zw_iload_8 X dX8_watch_136 ?_
              refine zw_iload_4 X dX8_watch_138 ?_
              refine zw_icmpge (tgt := 154) X dX8_watch_140 (by decide) (fun c_140 => ?_) (fun c_140 => ?_)
              · refine zw_iload_3 X dX8_watch_154 ?_
                refine zw_istore_3 X dX8_watch_155 ?_
                refine zw_iload_8 X dX8_watch_156 ?_
                refine zw_iload_4 X dX8_watch_158 ?_
                refine zw_icmpge (tgt := 168) X dX8_watch_160 (by decide) (fun c_160 => ?_) (fun c_160 => ?_)
                · refine zw_iload_4 X dX8_watch_168 ?_
                  refine zw_istore_4 X dX8_watch_170 ?_
                  refine zw_iinc_6_p1 X dX8_watch_172 ?_
                  refine zw_goto (tgt := 43) X dX8_watch_175 (by decide) ?_
                  refine zw_fg_7 ?_
                  refine zw_fg_8 ?_
                  exact ih43 _ _ _ (by first | (simp only [mwI, mwW, mwH, ← ha55, c_6, hv, c_119, c_140, c_160, decide_true, decide_false, Bool.and_true, Bool.true_and, Bool.and_false, Bool.false_and, Bool.or_true, Bool.true_or, Bool.or_false, Bool.false_or, Bool.not_true, Bool.not_false, if_true, if_false, ite_true, ite_false, Bool.false_eq_true, not_true_eq_false, not_false_eq_true, bI_t, bI_f, decide_eq_true_eq, reduceCtorEq]; done) | (simp [mwI, mwW, mwH, ← ha55, c_6, hv, c_119, c_140, c_160]; done) | contradiction | simp_all) (by first | (simp only [mwI, mwW, mwH, ← ha55, c_6, hv, c_119, c_140, c_160, decide_true, decide_false, Bool.and_true, Bool.true_and, Bool.and_false, Bool.false_and, Bool.or_true, Bool.true_or, Bool.or_false, Bool.false_or, Bool.not_true, Bool.not_false, if_true, if_false, ite_true, ite_false, Bool.false_eq_true, not_true_eq_false, not_false_eq_true, bI_t, bI_f, decide_eq_true_eq, reduceCtorEq]; done) | (simp [mwI, mwW, mwH, ← ha55, c_6, hv, c_119, c_140, c_160]; done) | contradiction | simp_all) (nI_1 n43)
                · refine zw_iload_8 X dX8_watch_163 ?_
                  refine zw_goto (tgt := 170) X dX8_watch_165 (by decide) ?_
                  refine zw_istore_4 X dX8_watch_170 ?_
                  refine zw_iinc_6_p1 X dX8_watch_172 ?_
                  refine zw_goto (tgt := 43) X dX8_watch_175 (by decide) ?_
                  refine zw_fg_7 ?_
                  refine zw_fg_8 ?_
                  exact ih43 _ _ _ (by first | (simp only [mwI, mwW, mwH, ← ha55, c_6, hv, c_119, c_140, c_160, decide_true, decide_false, Bool.and_true, Bool.true_and, Bool.and_false, Bool.false_and, Bool.or_true, Bool.true_or, Bool.or_false, Bool.false_or, Bool.not_true, Bool.not_false, if_true, if_false, ite_true, ite_false, Bool.false_eq_true, not_true_eq_false, not_false_eq_true, bI_t, bI_f, decide_eq_true_eq, reduceCtorEq]; done) | (simp [mwI, mwW, mwH, ← ha55, c_6, hv, c_119, c_140, c_160]; done) | contradiction | simp_all) (by first | (simp only [mwI, mwW, mwH, ← ha55, c_6, hv, c_119, c_140, c_160, decide_true, decide_false, Bool.and_true, Bool.true_and, Bool.and_false, Bool.false_and, Bool.or_true, Bool.true_or, Bool.or_false, Bool.false_or, Bool.not_true, Bool.not_false, if_true, if_false, ite_true, ite_false, Bool.false_eq_true, not_true_eq_false, not_false_eq_true, bI_t, bI_f, decide_eq_true_eq, reduceCtorEq]; done) | (simp [mwI, mwW, mwH, ← ha55, c_6, hv, c_119, c_140, c_160]; done) | contradiction | simp_all) (nI_1 n43)
              · refine zw_bipush (v := 10) X dX8_watch_143 bk_10 ?_
                refine zw_iload_5 X dX8_watch_145 ?_
                refine zw_imul X dX8_watch_147 ?_
                refine zw_iload_6 X dX8_watch_148 ?_
                refine zw_iadd X dX8_watch_150 ?_
                refine zw_goto (tgt := 155) X dX8_watch_151 (by decide) ?_
                refine zw_istore_3 X dX8_watch_155 ?_
                refine zw_iload_8 X dX8_watch_156 ?_
                refine zw_iload_4 X dX8_watch_158 ?_
                refine zw_icmpge (tgt := 168) X dX8_watch_160 (by decide) (fun c_160 => ?_) (fun c_160 => ?_)
                · refine zw_iload_4 X dX8_watch_168 ?_
                  refine zw_istore_4 X dX8_watch_170 ?_
                  refine zw_iinc_6_p1 X dX8_watch_172 ?_
                  refine zw_goto (tgt := 43) X dX8_watch_175 (by decide) ?_
                  refine zw_fg_7 ?_
                  refine zw_fg_8 ?_
                  exact ih43 _ _ _ (by first | (simp only [mwI, mwW, mwH, ← ha55, c_6, hv, c_119, c_140, c_160, decide_true, decide_false, Bool.and_true, Bool.true_and, Bool.and_false, Bool.false_and, Bool.or_true, Bool.true_or, Bool.or_false, Bool.false_or, Bool.not_true, Bool.not_false, if_true, if_false, ite_true, ite_false, Bool.false_eq_true, not_true_eq_false, not_false_eq_true, bI_t, bI_f, decide_eq_true_eq, reduceCtorEq]; done) | (simp [mwI, mwW, mwH, ← ha55, c_6, hv, c_119, c_140, c_160]; done) | contradiction | simp_all) (by first | (simp only [mwI, mwW, mwH, ← ha55, c_6, hv, c_119, c_140, c_160, decide_true, decide_false, Bool.and_true, Bool.true_and, Bool.and_false, Bool.false_and, Bool.or_true, Bool.true_or, Bool.or_false, Bool.false_or, Bool.not_true, Bool.not_false, if_true, if_false, ite_true, ite_false, Bool.false_eq_true, not_true_eq_false, not_false_eq_true, bI_t, bI_f, decide_eq_true_eq, reduceCtorEq]; done) | (simp [mwI, mwW, mwH, ← ha55, c_6, hv, c_119, c_140, c_160]; done) | contradiction | simp_all) (nI_1 n43)
                · refine zw_iload_8 X dX8_watch_163 ?_
                  refine zw_goto (tgt := 170) X dX8_watch_165 (by decide) ?_
                  refine zw_istore_4 X dX8_watch_170 ?_
                  refine zw_iinc_6_p1 X dX8_watch_172 ?_
                  refine zw_goto (tgt := 43) X dX8_watch_175 (by decide) ?_
                  refine zw_fg_7 ?_
                  refine zw_fg_8 ?_
                  exact ih43 _ _ _ (by first | (simp only [mwI, mwW, mwH, ← ha55, c_6, hv, c_119, c_140, c_160, decide_true, decide_false, Bool.and_true, Bool.true_and, Bool.and_false, Bool.false_and, Bool.or_true, Bool.true_or, Bool.or_false, Bool.false_or, Bool.not_true, Bool.not_false, if_true, if_false, ite_true, ite_false, Bool.false_eq_true, not_true_eq_false, not_false_eq_true, bI_t, bI_f, decide_eq_true_eq, reduceCtorEq]; done) | (simp [mwI, mwW, mwH, ← ha55, c_6, hv, c_119, c_140, c_160]; done) | contradiction | simp_all) (by first | (simp only [mwI, mwW, mwH, ← ha55, c_6, hv, c_119, c_140, c_160, decide_true, decide_false, Bool.and_true, Bool.true_and, Bool.and_false, Bool.false_and, Bool.or_true, Bool.true_or, Bool.or_false, Bool.false_or, Bool.not_true, Bool.not_false, if_true, if_false, ite_true, ite_false, Bool.false_eq_true, not_true_eq_false, not_false_eq_true, bI_t, bI_f, decide_eq_true_eq, reduceCtorEq]; done) | (simp [mwI, mwW, mwH, ← ha55, c_6, hv, c_119, c_140, c_160]; done) | contradiction | simp_all) (nI_1 n43)
        · subst hv43_3 hv43_4 hv43_6
          refine zw_iload_6 X dX8_watch_43 ?_
          refine zw_iconst (v := 3) X dX8_watch_45 ik_3 ?_
          refine zw_icmpge_t (tgt := 178) X dX8_watch_46 (by decide) (by decide) ?_
          refine zw_iinc_5_p1 X dX8_watch_178 ?_
          refine zw_goto (tgt := 27) X dX8_watch_181 (by decide) ?_
          refine zw_fg_6 ?_
          refine zw_fg_7 ?_
          refine zw_fg_8 ?_
          exact ih27 _ _ _ (by first | (simp only [mwO, ← ha43, c_6, hv, decide_true, decide_false, Bool.and_true, Bool.true_and, Bool.and_false, Bool.false_and, Bool.or_true, Bool.true_or, Bool.or_false, Bool.false_or, Bool.not_true, Bool.not_false, if_true, if_false, ite_true, ite_false, Bool.false_eq_true, not_true_eq_false, not_false_eq_true, bI_t, bI_f, decide_eq_true_eq, reduceCtorEq]; done) | (simp [mwO, ← ha43, c_6, hv]; done) | contradiction | simp_all) (by first | (simp only [mwO, ← ha43, c_6, hv, decide_true, decide_false, Bool.and_true, Bool.true_and, Bool.and_false, Bool.false_and, Bool.or_true, Bool.true_or, Bool.or_false, Bool.false_or, Bool.not_true, Bool.not_false, if_true, if_false, ite_true, ite_false, Bool.false_eq_true, not_true_eq_false, not_false_eq_true, bI_t, bI_f, decide_eq_true_eq, reduceCtorEq]; done) | (simp [mwO, ← ha43, c_6, hv]; done) | contradiction | simp_all) (nI_1 n27)
      · subst hv27_3 hv27_4 hv27_5
        refine zw_iload_5 X dX8_watch_27 ?_
        refine zw_aload_0 X dX8_watch_29 ?_
        refine zw_getI X dX8_watch_30 fl_X8_7 ck_X8 sh_42 rfl ?_
        refine zw_icmpge_t (tgt := 184) X dX8_watch_33 (by decide) (fun h => Nat.lt_irrefl _ ((clN_lt (Nat.le_refl _)).mp h)) ?_
        refine zw_iload_3 X dX8_watch_184 ?_
        refine zw_iflt (tgt := 192) X dX8_watch_185 (by decide) (fun c_185 => ?_) (fun c_185 => ?_)
        · refine zw_iload_3 X dX8_watch_192 ?_
          refine zw_goto (tgt := 198) X dX8_watch_193 (by decide) ?_
          exact zw_iret X F dX8_watch_198 rfl (by first | (simp only [Y_watch, mwA, c_6, hv, ← ha27, c_185, decide_true, decide_false, Bool.and_true, Bool.true_and, Bool.and_false, Bool.false_and, Bool.or_true, Bool.true_or, Bool.or_false, Bool.false_or, Bool.not_true, Bool.not_false, if_true, if_false, ite_true, ite_false, Bool.false_eq_true, not_true_eq_false, not_false_eq_true, bI_t, bI_f, decide_eq_true_eq, reduceCtorEq]; done) | (simp [Y_watch, mwA, c_6, hv, ← ha27, c_185]; done) | contradiction | simp_all) (by first | (simp only [Y_watch, c_6, hv, ← ha27, c_185, decide_true, decide_false, Bool.and_true, Bool.true_and, Bool.and_false, Bool.false_and, Bool.or_true, Bool.true_or, Bool.or_false, Bool.false_or, Bool.not_true, Bool.not_false, if_true, if_false, ite_true, ite_false, Bool.false_eq_true, not_true_eq_false, not_false_eq_true, bI_t, bI_f, decide_eq_true_eq, reduceCtorEq]; done) | (simp [Y_watch, c_6, hv, ← ha27, c_185]; done) | contradiction | simp_all)
        · refine zw_iload_1 X dX8_watch_188 ?_
          refine zw_ifne (tgt := 196) X dX8_watch_189 (by decide) (fun c_189 => ?_) (fun c_189 => ?_)
          · refine zw_iload_4 X dX8_watch_196 ?_
            exact zw_iret X F dX8_watch_198 rfl (by first | (simp only [Y_watch, mwA, c_6, hv, ← ha27, c_185, c_189, decide_true, decide_false, Bool.and_true, Bool.true_and, Bool.and_false, Bool.false_and, Bool.or_true, Bool.true_or, Bool.or_false, Bool.false_or, Bool.not_true, Bool.not_false, if_true, if_false, ite_true, ite_false, Bool.false_eq_true, not_true_eq_false, not_false_eq_true, bI_t, bI_f, decide_eq_true_eq, reduceCtorEq]; done) | (simp [Y_watch, mwA, c_6, hv, ← ha27, c_185, c_189]; done) | contradiction | simp_all) (by first | (simp only [Y_watch, c_6, hv, ← ha27, c_185, c_189, decide_true, decide_false, Bool.and_true, Bool.true_and, Bool.and_false, Bool.false_and, Bool.or_true, Bool.true_or, Bool.or_false, Bool.false_or, Bool.not_true, Bool.not_false, if_true, if_false, ite_true, ite_false, Bool.false_eq_true, not_true_eq_false, not_false_eq_true, bI_t, bI_f, decide_eq_true_eq, reduceCtorEq]; done) | (simp [Y_watch, c_6, hv, ← ha27, c_185, c_189]; done) | contradiction | simp_all)
          · refine zw_iload_3 X dX8_watch_192 ?_
            refine zw_goto (tgt := 198) X dX8_watch_193 (by decide) ?_
            exact zw_iret X F dX8_watch_198 rfl (by first | (simp only [Y_watch, mwA, c_6, hv, ← ha27, c_185, eq_true c_189, decide_true, decide_false, Bool.and_true, Bool.true_and, Bool.and_false, Bool.false_and, Bool.or_true, Bool.true_or, Bool.or_false, Bool.false_or, Bool.not_true, Bool.not_false, if_true, if_false, ite_true, ite_false, Bool.false_eq_true, not_true_eq_false, not_false_eq_true, bI_t, bI_f, decide_eq_true_eq, reduceCtorEq]; done) | (simp [Y_watch, mwA, c_6, hv, ← ha27, c_185, eq_true c_189]; done) | contradiction | simp_all) (by first | (simp only [Y_watch, c_6, hv, ← ha27, c_185, eq_true c_189, decide_true, decide_false, Bool.and_true, Bool.true_and, Bool.and_false, Bool.false_and, Bool.or_true, Bool.true_or, Bool.or_false, Bool.false_or, Bool.not_true, Bool.not_false, if_true, if_false, ite_true, ite_false, Bool.false_eq_true, not_true_eq_false, not_false_eq_true, bI_t, bI_f, decide_eq_true_eq, reduceCtorEq]; done) | (simp [Y_watch, c_6, hv, ← ha27, c_185, eq_true c_189]; done) | contradiction | simp_all)
  · refine zw_bipush (v := -2) X dX8_watch_9 bk_m2 ?_
    exact zw_iret X F dX8_watch_11 rfl (by first | (simp only [Y_watch, c_6, decide_true, decide_false, Bool.and_true, Bool.true_and, Bool.and_false, Bool.false_and, Bool.or_true, Bool.true_or, Bool.or_false, Bool.false_or, Bool.not_true, Bool.not_false, if_true, if_false, ite_true, ite_false, Bool.false_eq_true, not_true_eq_false, not_false_eq_true, bI_t, bI_f, decide_eq_true_eq, reduceCtorEq]; done) | (simp [Y_watch, c_6]; done) | contradiction | simp_all) (by first | (simp only [Y_watch, c_6, decide_true, decide_false, Bool.and_true, Bool.true_and, Bool.and_false, Bool.false_and, Bool.or_true, Bool.true_or, Bool.or_false, Bool.false_or, Bool.not_true, Bool.not_false, if_true, if_false, ite_true, ite_false, Bool.false_eq_true, not_true_eq_false, not_false_eq_true, bI_t, bI_f, decide_eq_true_eq, reduceCtorEq]; done) | (simp [Y_watch, c_6]; done) | contradiction | simp_all)
set_option maxRecDepth 20000 in
set_option maxHeartbeats 1000000 in
theorem t_X8_auction {σ : St} {f s w : Int32} : Ct MX8_auction [.ref 42, .int f, .int s, .int w] σ (some (.int (Y_auc σ f s w).1)) ((Y_auc σ f s w).2) := by
  refine ct_of (ls0 := [some (.ref 42), some (.int f), some (.int s), some (.int w), none, none, none, none, none, none]) ok_MX8_auction rfl (Nat.le_of_ble_eq_true rfl) rfl ?_
  intro g X F
  refine zw_iload_1 X dX8_auction_0 ?_
  refine zw_iconst (v := 0) X dX8_auction_1 ik_0 ?_
  refine zw_bipush (v := 20) X dX8_auction_2 bk_20 ?_
  refine zw_cS_iiii X dX8_auction_4 lk_X8_60 ok_MX8_in st_MX8_in rm_X8_auction_X8_in (Nat.le_of_ble_eq_true rfl) t_X8_in ?_
  refine zw_ifeqB (tgt := 29) X dX8_auction_7 (by decide) (fun c_7 => ?_) (fun c_7 => ?_)
  · refine zw_bipush (v := -2) X dX8_auction_29 bk_m2 ?_
    exact zw_iret X F dX8_auction_31 rfl (by first | (simp only [Y_auc, c_7, decide_true, decide_false, Bool.and_true, Bool.true_and, Bool.and_false, Bool.false_and, Bool.or_true, Bool.true_or, Bool.or_false, Bool.false_or, Bool.not_true, Bool.not_false, if_true, if_false, ite_true, ite_false, Bool.false_eq_true, not_true_eq_false, not_false_eq_true, bI_t, bI_f, decide_eq_true_eq, reduceCtorEq]; done) | (simp [Y_auc, c_7]; done) | contradiction | simp_all) (by first | (simp only [Y_auc, c_7, decide_true, decide_false, Bool.and_true, Bool.true_and, Bool.and_false, Bool.false_and, Bool.or_true, Bool.true_or, Bool.or_false, Bool.false_or, Bool.not_true, Bool.not_false, if_true, if_false, ite_true, ite_false, Bool.false_eq_true, not_true_eq_false, not_false_eq_true, bI_t, bI_f, decide_eq_true_eq, reduceCtorEq]; done) | (simp [Y_auc, c_7]; done) | contradiction | simp_all)
  · refine zw_iload_2 X dX8_auction_10 ?_
    refine zw_iconst (v := 0) X dX8_auction_11 ik_0 ?_
    refine zw_bipush (v := 20) X dX8_auction_12 bk_20 ?_
    refine zw_cS_iiii X dX8_auction_14 lk_X8_60 ok_MX8_in st_MX8_in rm_X8_auction_X8_in (Nat.le_of_ble_eq_true rfl) t_X8_in ?_
    refine zw_ifeqB (tgt := 29) X dX8_auction_17 (by decide) (fun c_17 => ?_) (fun c_17 => ?_)
    · refine zw_bipush (v := -2) X dX8_auction_29 bk_m2 ?_
      exact zw_iret X F dX8_auction_31 rfl (by first | (simp only [Y_auc, c_7, c_17, decide_true, decide_false, Bool.and_true, Bool.true_and, Bool.and_false, Bool.false_and, Bool.or_true, Bool.true_or, Bool.or_false, Bool.false_or, Bool.not_true, Bool.not_false, if_true, if_false, ite_true, ite_false, Bool.false_eq_true, not_true_eq_false, not_false_eq_true, bI_t, bI_f, decide_eq_true_eq, reduceCtorEq]; done) | (simp [Y_auc, c_7, c_17]; done) | contradiction | simp_all) (by first | (simp only [Y_auc, c_7, c_17, decide_true, decide_false, Bool.and_true, Bool.true_and, Bool.and_false, Bool.false_and, Bool.or_true, Bool.true_or, Bool.or_false, Bool.false_or, Bool.not_true, Bool.not_false, if_true, if_false, ite_true, ite_false, Bool.false_eq_true, not_true_eq_false, not_false_eq_true, bI_t, bI_f, decide_eq_true_eq, reduceCtorEq]; done) | (simp [Y_auc, c_7, c_17]; done) | contradiction | simp_all)
    · refine zw_iload_3 X dX8_auction_20 ?_
      refine zw_iconst (v := 0) X dX8_auction_21 ik_0 ?_
      refine zw_iconst (v := 1) X dX8_auction_22 ik_1 ?_
      refine zw_cS_iiii X dX8_auction_23 lk_X8_60 ok_MX8_in st_MX8_in rm_X8_auction_X8_in (Nat.le_of_ble_eq_true rfl) t_X8_in ?_
      refine zw_ifneB (tgt := 32) X dX8_auction_26 (by decide) (fun c_26 => ?_) (fun c_26 => ?_)
      · refine zw_aload_0 X dX8_auction_32 ?_
        refine zw_getR X dX8_auction_33 fl_X8_50 ck_X8 sh_42 rfl ?_
        refine zw_bipush (v := 20) X dX8_auction_36 bk_20 ?_
        refine zw_bipush (v := 20) X dX8_auction_38 bk_20 ?_
        refine zw_iast X dX8_auction_40 sh_54 (vp_in_nI (n := 20) (by decide) (by decide)) ?_
        refine zw_bipush (v := 19) X dX8_auction_41 bk_19 ?_
        refine zw_istore_4 X dX8_auction_43 ?_
        refine zw_fg_5 ?_
        refine zw_fg_6 ?_
        refine zw_fg_7 ?_
        refine zw_fg_8 ?_
        refine zw_fg_9 ?_
        refine zloop (α := St) (S := fun zn za => ∀ (s45 : St) (v45_4 : Int32), za = s45 → v45_4 = 19 - nI zn → ZW g 45 [some (.ref 42), some (.int f), some (.int s), some (.int w), some (.int v45_4), none, none, none, none, none] [] s45) (N := 20) (f := (maF f s)) (a0 := (ups σ 54 (ix 20) 20)) (fun n45 a45 hn45 ha45 ih45 s45 v45_4 hs45 hv45_4 => ?_) (fun a45 ha45 s45 v45_4 hs45 hv45_4 => ?_) _ _ rfl rfl
        · subst hs45 hv45_4
          refine zw_iload_4 X dX8_auction_45 ?_
          refine zw_iflt_f (tgt := 156) X dX8_auction_47 (by decide) (dn_19 _ hn45) ?_
          refine zw_iload_4 X dX8_auction_50 ?_
          refine zw_iconst (v := 2) X dX8_auction_52 ik_2 ?_
          refine zw_irem X dX8_auction_53 (by decide) ?_
          refine zw_ifne (tgt := 61) X dX8_auction_54 (by decide) (fun c_54 => ?_) (fun c_54 => ?_)
          · refine zw_iload_2 X dX8_auction_61 ?_
            refine zw_istore_5 X dX8_auction_62 ?_
            refine zw_aload_0 X dX8_auction_64 ?_
            refine zw_getR X dX8_auction_65 fl_X8_50 ck_X8 sh_42 rfl ?_
            refine zw_iload_4 X dX8_auction_68 ?_
            refine zw_iconst (v := 1) X dX8_auction_70 ik_1 ?_
            refine zw_iadd X dX8_auction_71 ?_
            refine zw_iald X dX8_auction_72 sh_54 (au_in _ hn45).2 ?_
            refine zw_istore_6 X dX8_auction_73 ?_
            refine zw_iload_6 X dX8_auction_75 ?_
            refine zw_iconst (v := 2) X dX8_auction_77 ik_2 ?_
            refine zw_irem X dX8_auction_78 (by decide) ?_
            refine zw_iload_4 X dX8_auction_79 ?_
            refine zw_iconst (v := 1) X dX8_auction_81 ik_1 ?_
            refine zw_iadd X dX8_auction_82 ?_
            refine zw_iconst (v := 2) X dX8_auction_83 ik_2 ?_
            refine zw_irem X dX8_auction_84 (by decide) ?_
            refine zw_icmpne (tgt := 92) X dX8_auction_85 (by decide) (fun c_85 => ?_) (fun c_85 => ?_)
            · refine zw_iconst (v := 0) X dX8_auction_92 ik_0 ?_
              refine zw_istore_7 X dX8_auction_93 ?_
              refine zw_iload_7 X dX8_auction_95 ?_
              refine zw_ifeq_t (tgt := 108) X dX8_auction_97 (by decide) (by decide) ?_
              refine zw_iconst (v := 1) X dX8_auction_108 ik_1 ?_
              refine zw_iload_6 X dX8_auction_109 ?_
              refine zw_isub X dX8_auction_111 ?_
              refine zw_istore_8 X dX8_auction_112 ?_
              refine zw_iload_4 X dX8_auction_114 ?_
              refine zw_ifne (tgt := 123) X dX8_auction_116 (by decide) (fun c_116 => ?_) (fun c_116 => ?_)
              · refine zw_iconst (v := 1) X dX8_auction_123 ik_1 ?_
                refine zw_iload_4 X dX8_auction_124 ?_
                refine zw_isub X dX8_auction_126 ?_
                refine zw_istore_9 X dX8_auction_127 ?_
                refine zw_aload_0 X dX8_auction_129 ?_
                refine zw_getR X dX8_auction_130 fl_X8_50 ck_X8 sh_42 rfl ?_
                refine zw_iload_4 X dX8_auction_133 ?_
                refine zw_iload_8 X dX8_auction_135 ?_
                refine zw_iload_9 X dX8_auction_137 ?_
                refine zw_icmple (tgt := 147) X dX8_auction_139 (by decide) (fun c_139 => ?_) (fun c_139 => ?_)
                · refine zw_iload_4 X dX8_auction_147 ?_
                  refine zw_iast X dX8_auction_149 sh_54 (au_in _ hn45).1 ?_
                  refine zw_iinc_4_m1 X dX8_auction_150 ?_
                  refine zw_goto (tgt := 45) X dX8_auction_153 (by decide) ?_
                  refine zw_fg_5 ?_
                  refine zw_fg_6 ?_
                  refine zw_fg_7 ?_
                  refine zw_fg_8 ?_
                  refine zw_fg_9 ?_
                  exact ih45 _ _ (by first | (simp only [maF, maL, maG, maE, rem, c_7, c_17, c_26, c_54, c_85, c_116, c_139, decide_true, decide_false, Bool.and_true, Bool.true_and, Bool.and_false, Bool.false_and, Bool.or_true, Bool.true_or, Bool.or_false, Bool.false_or, Bool.not_true, Bool.not_false, if_true, if_false, ite_true, ite_false, Bool.false_eq_true, not_true_eq_false, not_false_eq_true, bI_t, bI_f, decide_eq_true_eq, reduceCtorEq]; done) | (simp [maF, maL, maG, maE, rem, c_7, c_17, c_26, c_54, c_85, c_116, c_139]; done) | contradiction | simp_all) (dn_nI 19 n45)
                · refine zw_iload_6 X dX8_auction_142 ?_
                  refine zw_goto (tgt := 149) X dX8_auction_144 (by decide) ?_
                  refine zw_iast X dX8_auction_149 sh_54 (au_in _ hn45).1 ?_
                  refine zw_iinc_4_m1 X dX8_auction_150 ?_
                  refine zw_goto (tgt := 45) X dX8_auction_153 (by decide) ?_
                  refine zw_fg_5 ?_
                  refine zw_fg_6 ?_
                  refine zw_fg_7 ?_
                  refine zw_fg_8 ?_
                  refine zw_fg_9 ?_
                  exact ih45 _ _ (by first | (simp only [maF, maL, maG, maE, rem, c_7, c_17, c_26, c_54, c_85, c_116, c_139, decide_true, decide_false, Bool.and_true, Bool.true_and, Bool.and_false, Bool.false_and, Bool.or_true, Bool.true_or, Bool.or_false, Bool.false_or, Bool.not_true, Bool.not_false, if_true, if_false, ite_true, ite_false, Bool.false_eq_true, not_true_eq_false, not_false_eq_true, bI_t, bI_f, decide_eq_true_eq, reduceCtorEq]; done) | (simp [maF, maL, maG, maE, rem, c_7, c_17, c_26, c_54, c_85, c_116, c_139]; done) | contradiction | simp_all) (dn_nI 19 n45)
              · refine zw_iconst (v := 0) X dX8_auction_119 ik_0 ?_
                refine zw_goto (tgt := 127) X dX8_auction_120 (by decide) ?_
                refine zw_istore_9 X dX8_auction_127 ?_
                refine zw_aload_0 X dX8_auction_129 ?_
                refine zw_getR X dX8_auction_130 fl_X8_50 ck_X8 sh_42 rfl ?_
                refine zw_iload_4 X dX8_auction_133 ?_
                refine zw_iload_8 X dX8_auction_135 ?_
                refine zw_iload_9 X dX8_auction_137 ?_
                refine zw_icmple (tgt := 147) X dX8_auction_139 (by decide) (fun c_139 => ?_) (fun c_139 => ?_)
                · refine zw_iload_4 X dX8_auction_147 ?_
                  refine zw_iast X dX8_auction_149 sh_54 (au_in _ hn45).1 ?_
                  refine zw_iinc_4_m1 X dX8_auction_150 ?_
                  refine zw_goto (tgt := 45) X dX8_auction_153 (by decide) ?_
                  refine zw_fg_5 ?_
                  refine zw_fg_6 ?_
                  refine zw_fg_7 ?_
                  refine zw_fg_8 ?_
                  refine zw_fg_9 ?_
                  exact ih45 _ _ (by first | (simp only [maF, maL, maG, maE, rem, c_7, c_17, c_26, c_54, c_85, eq_true c_116, c_139, decide_true, decide_false, Bool.and_true, Bool.true_and, Bool.and_false, Bool.false_and, Bool.or_true, Bool.true_or, Bool.or_false, Bool.false_or, Bool.not_true, Bool.not_false, if_true, if_false, ite_true, ite_false, Bool.false_eq_true, not_true_eq_false, not_false_eq_true, bI_t, bI_f, decide_eq_true_eq, reduceCtorEq]; done) | (simp [maF, maL, maG, maE, rem, c_7, c_17, c_26, c_54, c_85, eq_true c_116, c_139]; done) | contradiction | simp_all) (dn_nI 19 n45)
                · refine zw_iload_6 X dX8_auction_142 ?_
                  refine zw_goto (tgt := 149) X dX8_auction_144 (by decide) ?_
                  refine zw_iast X dX8_auction_149 sh_54 (au_in _ hn45).1 ?_
                  refine zw_iinc_4_m1 X dX8_auction_150 ?_
                  refine zw_goto (tgt := 45) X dX8_auction_153 (by decide) ?_
                  refine zw_fg_5 ?_
                  refine zw_fg_6 ?_
                  refine zw_fg_7 ?_
                  refine zw_fg_8 ?_
                  refine zw_fg_9 ?_
                  exact ih45 _ _ (by first | (simp only [maF, maL, maG, maE, rem, c_7, c_17, c_26, c_54, c_85, eq_true c_116, c_139, decide_true, decide_false, Bool.and_true, Bool.true_and, Bool.and_false, Bool.false_and, Bool.or_true, Bool.true_or, Bool.or_false, Bool.false_or, Bool.not_true, Bool.not_false, if_true, if_false, ite_true, ite_false, Bool.false_eq_true, not_true_eq_false, not_false_eq_true, bI_t, bI_f, decide_eq_true_eq, reduceCtorEq]; done) | (simp [maF, maL, maG, maE, rem, c_7, c_17, c_26, c_54, c_85, eq_true c_116, c_139]; done) | contradiction | simp_all) (dn_nI 19 n45)
            · refine zw_iconst (v := 1) X dX8_auction_88 ik_1 ?_
              refine zw_goto (tgt := 93) X dX8_auction_89 (by decide) ?_
              refine zw_istore_7 X dX8_auction_93 ?_
              refine zw_iload_7 X dX8_auction_95 ?_
              refine zw_ifeq_f (tgt := 108) X dX8_auction_97 (by decide) (by decide) ?_
              refine zw_iload_5 X dX8_auction_100 ?_
              refine zw_iload_6 X dX8_auction_102 ?_
              refine zw_isub X dX8_auction_104 ?_
              refine zw_goto (tgt := 112) X dX8_auction_105 (by decide) ?_
              refine zw_istore_8 X dX8_auction_112 ?_
              refine zw_iload_4 X dX8_auction_114 ?_
              refine zw_ifne (tgt := 123) X dX8_auction_116 (by decide) (fun c_116 => ?_) (fun c_116 => ?_)
              · refine zw_iconst (v := 1) X dX8_auction_123 ik_1 ?_
                refine zw_iload_4 X dX8_auction_124 ?_
                refine zw_isub X dX8_auction_126 ?_
                refine zw_istore_9 X dX8_auction_127 ?_
                refine zw_aload_0 X dX8_auction_129 ?_
                refine zw_getR X dX8_auction_130 fl_X8_50 ck_X8 sh_42 rfl ?_
                refine zw_iload_4 X dX8_auction_133 ?_
                refine zw_iload_8 X dX8_auction_135 ?_
                refine zw_iload_9 X dX8_auction_137 ?_
                refine zw_icmple (tgt := 147) X dX8_auction_139 (by decide) (fun c_139 => ?_) (fun c_139 => ?_)
                · refine zw_iload_4 X dX8_auction_147 ?_
                  refine zw_iast X dX8_auction_149 sh_54 (au_in _ hn45).1 ?_
                  refine zw_iinc_4_m1 X dX8_auction_150 ?_
                  refine zw_goto (tgt := 45) X dX8_auction_153 (by decide) ?_
                  refine zw_fg_5 ?_
                  refine zw_fg_6 ?_
                  refine zw_fg_7 ?_
                  refine zw_fg_8 ?_
                  refine zw_fg_9 ?_
                  exact ih45 _ _ (by first | (simp only [maF, maL, maG, maE, rem, c_7, c_17, c_26, c_54, eq_true c_85, c_116, c_139, decide_true, decide_false, Bool.and_true, Bool.true_and, Bool.and_false, Bool.false_and, Bool.or_true, Bool.true_or, Bool.or_false, Bool.false_or, Bool.not_true, Bool.not_false, if_true, if_false, ite_true, ite_false, Bool.false_eq_true, not_true_eq_false, not_false_eq_true, bI_t, bI_f, decide_eq_true_eq, reduceCtorEq]; done) | (simp [maF, maL, maG, maE, rem, c_7, c_17, c_26, c_54, eq_true c_85, c_116, c_139]; done) | contradiction | simp_all) (dn_nI 19 n45)
                · refine zw_iload_6 X dX8_auction_142 ?_
                  refine zw_goto (tgt := 149) X dX8_auction_144 (by decide) ?_
                  refine zw_iast X dX8_auction_149 sh_54 (au_in _ hn45).1 ?_
                  refine zw_iinc_4_m1 X dX8_auction_150 ?_
                  refine zw_goto (tgt := 45) X dX8_auction_153 (by decide) ?_
                  refine zw_fg_5 ?_
                  refine zw_fg_6 ?_
                  refine zw_fg_7 ?_
                  refine zw_fg_8 ?_
                  refine zw_fg_9 ?_
                  exact ih45 _ _ (by first | (simp only [maF, maL, maG, maE, rem, c_7, c_17, c_26, c_54, eq_true c_85, c_116, c_139, decide_true, decide_false, Bool.and_true, Bool.true_and, Bool.and_false, Bool.false_and, Bool.or_true, Bool.true_or, Bool.or_false, Bool.false_or, Bool.not_true, Bool.not_false, if_true, if_false, ite_true, ite_false, Bool.false_eq_true, not_true_eq_false, not_false_eq_true, bI_t, bI_f, decide_eq_true_eq, reduceCtorEq]; done) | (simp [maF, maL, maG, maE, rem, c_7, c_17, c_26, c_54, eq_true c_85, c_116, c_139]; done) | contradiction | simp_all) (dn_nI 19 n45)
              · refine zw_iconst (v := 0) X dX8_auction_119 ik_0 ?_
                refine zw_goto (tgt := 127) X dX8_auction_120 (by decide) ?_
                refine zw_istore_9 X dX8_auction_127 ?_
                refine zw_aload_0 X dX8_auction_129 ?_
                refine zw_getR X dX8_auction_130 fl_X8_50 ck_X8 sh_42 rfl ?_
                refine zw_iload_4 X dX8_auction_133 ?_
                refine zw_iload_8 X dX8_auction_135 ?_
                refine zw_iload_9 X dX8_auction_137 ?_
                refine zw_icmple (tgt := 147) X dX8_auction_139 (by decide) (fun c_139 => ?_) (fun c_139 => ?_)
                · refine zw_iload_4 X dX8_auction_147 ?_
                  refine zw_iast X dX8_auction_149 sh_54 (au_in _ hn45).1 ?_
                  refine zw_iinc_4_m1 X dX8_auction_150 ?_
                  refine zw_goto (tgt := 45) X dX8_auction_153 (by decide) ?_
                  refine zw_fg_5 ?_
                  refine zw_fg_6 ?_
                  refine zw_fg_7 ?_
                  refine zw_fg_8 ?_
                  refine zw_fg_9 ?_
                  exact ih45 _ _ (by first | (simp only [maF, maL, maG, maE, rem, c_7, c_17, c_26, c_54, eq_true c_85, eq_true c_116, c_139, decide_true, decide_false, Bool.and_true, Bool.true_and, Bool.and_false, Bool.false_and, Bool.or_true, Bool.true_or, Bool.or_false, Bool.false_or, Bool.not_true, Bool.not_false, if_true, if_false, ite_true, ite_false, Bool.false_eq_true, not_true_eq_false, not_false_eq_true, bI_t, bI_f, decide_eq_true_eq, reduceCtorEq]; done) | (simp [maF, maL, maG, maE, rem, c_7, c_17, c_26, c_54, eq_true c_85, eq_true c_116, c_139]; done) | contradiction | simp_all) (dn_nI 19 n45)
                · refine zw_iload_6 X dX8_auction_142 ?_
                  refine zw_goto (tgt := 149) X dX8_auction_144 (by decide) ?_
                  refine zw_iast X dX8_auction_149 sh_54 (au_in _ hn45).1 ?_
                  refine zw_iinc_4_m1 X dX8_auction_150 ?_
                  refine zw_goto (tgt := 45) X dX8_auction_153 (by decide) ?_
                  refine zw_fg_5 ?_
                  refine zw_fg_6 ?_
                  refine zw_fg_7 ?_
                  refine zw_fg_8 ?_
                  refine zw_fg_9 ?_
                  exact ih45 _ _ (by first | (simp only [maF, maL, maG, maE, rem, c_7, c_17, c_26, c_54, eq_true c_85, eq_true c_116, c_139, decide_true, decide_false, Bool.and_true, Bool.true_and, Bool.and_false, Bool.false_and, Bool.or_true, Bool.true_or, Bool.or_false, Bool.false_or, Bool.not_true, Bool.not_false, if_true, if_false, ite_true, ite_false, Bool.false_eq_true, not_true_eq_false, not_false_eq_true, bI_t, bI_f, decide_eq_true_eq, reduceCtorEq]; done) | (simp [maF, maL, maG, maE, rem, c_7, c_17, c_26, c_54, eq_true c_85, eq_true c_116, c_139]; done) | contradiction | simp_all) (dn_nI 19 n45)
          · refine zw_iload_1 X dX8_auction_57 ?_
            refine zw_goto (tgt := 62) X dX8_auction_58 (by decide) ?_
            refine zw_istore_5 X dX8_auction_62 ?_
            refine zw_aload_0 X dX8_auction_64 ?_
            refine zw_getR X dX8_auction_65 fl_X8_50 ck_X8 sh_42 rfl ?_
            refine zw_iload_4 X dX8_auction_68 ?_
            refine zw_iconst (v := 1) X dX8_auction_70 ik_1 ?_
            refine zw_iadd X dX8_auction_71 ?_
            refine zw_iald X dX8_auction_72 sh_54 (au_in _ hn45).2 ?_
            refine zw_istore_6 X dX8_auction_73 ?_
            refine zw_iload_6 X dX8_auction_75 ?_
            refine zw_iconst (v := 2) X dX8_auction_77 ik_2 ?_
            refine zw_irem X dX8_auction_78 (by decide) ?_
            refine zw_iload_4 X dX8_auction_79 ?_
            refine zw_iconst (v := 1) X dX8_auction_81 ik_1 ?_
            refine zw_iadd X dX8_auction_82 ?_
            refine zw_iconst (v := 2) X dX8_auction_83 ik_2 ?_
            refine zw_irem X dX8_auction_84 (by decide) ?_
            refine zw_icmpne (tgt := 92) X dX8_auction_85 (by decide) (fun c_85 => ?_) (fun c_85 => ?_)
            · refine zw_iconst (v := 0) X dX8_auction_92 ik_0 ?_
              refine zw_istore_7 X dX8_auction_93 ?_
              refine zw_iload_7 X dX8_auction_95 ?_
              refine zw_ifeq_t (tgt := 108) X dX8_auction_97 (by decide) (by decide) ?_
              refine zw_iconst (v := 1) X dX8_auction_108 ik_1 ?_
              refine zw_iload_6 X dX8_auction_109 ?_
              refine zw_isub X dX8_auction_111 ?_
              refine zw_istore_8 X dX8_auction_112 ?_
              refine zw_iload_4 X dX8_auction_114 ?_
              refine zw_ifne (tgt := 123) X dX8_auction_116 (by decide) (fun c_116 => ?_) (fun c_116 => ?_)
              · refine zw_iconst (v := 1) X dX8_auction_123 ik_1 ?_
                refine zw_iload_4 X dX8_auction_124 ?_
                refine zw_isub X dX8_auction_126 ?_
                refine zw_istore_9 X dX8_auction_127 ?_
                refine zw_aload_0 X dX8_auction_129 ?_
                refine zw_getR X dX8_auction_130 fl_X8_50 ck_X8 sh_42 rfl ?_
                refine zw_iload_4 X dX8_auction_133 ?_
                refine zw_iload_8 X dX8_auction_135 ?_
                refine zw_iload_9 X dX8_auction_137 ?_
                refine zw_icmple (tgt := 147) X dX8_auction_139 (by decide) (fun c_139 => ?_) (fun c_139 => ?_)
                · refine zw_iload_4 X dX8_auction_147 ?_
                  refine zw_iast X dX8_auction_149 sh_54 (au_in _ hn45).1 ?_
                  refine zw_iinc_4_m1 X dX8_auction_150 ?_
                  refine zw_goto (tgt := 45) X dX8_auction_153 (by decide) ?_
                  refine zw_fg_5 ?_
                  refine zw_fg_6 ?_
                  refine zw_fg_7 ?_
                  refine zw_fg_8 ?_
                  refine zw_fg_9 ?_
                  exact ih45 _ _ (by first | (simp only [maF, maL, maG, maE, rem, c_7, c_17, c_26, eq_true c_54, c_85, c_116, c_139, decide_true, decide_false, Bool.and_true, Bool.true_and, Bool.and_false, Bool.false_and, Bool.or_true, Bool.true_or, Bool.or_false, Bool.false_or, Bool.not_true, Bool.not_false, if_true, if_false, ite_true, ite_false, Bool.false_eq_true, not_true_eq_false, not_false_eq_true, bI_t, bI_f, decide_eq_true_eq, reduceCtorEq]; done) | (simp [maF, maL, maG, maE, rem, c_7, c_17, c_26, eq_true c_54, c_85, c_116, c_139]; done) | contradiction | simp_all) (dn_nI 19 n45)
                · refine zw_iload_6 X dX8_auction_142 ?_
                  refine zw_goto (tgt := 149) X dX8_auction_144 (by decide) ?_
                  refine zw_iast X dX8_auction_149 sh_54 (au_in _ hn45).1 ?_
                  refine zw_iinc_4_m1 X dX8_auction_150 ?_
                  refine zw_goto (tgt := 45) X dX8_auction_153 (by decide) ?_
                  refine zw_fg_5 ?_
                  refine zw_fg_6 ?_
                  refine zw_fg_7 ?_
                  refine zw_fg_8 ?_
                  refine zw_fg_9 ?_
                  exact ih45 _ _ (by first | (simp only [maF, maL, maG, maE, rem, c_7, c_17, c_26, eq_true c_54, c_85, c_116, c_139, decide_true, decide_false, Bool.and_true, Bool.true_and, Bool.and_false, Bool.false_and, Bool.or_true, Bool.true_or, Bool.or_false, Bool.false_or, Bool.not_true, Bool.not_false, if_true, if_false, ite_true, ite_false, Bool.false_eq_true, not_true_eq_false, not_false_eq_true, bI_t, bI_f, decide_eq_true_eq, reduceCtorEq]; done) | (simp [maF, maL, maG, maE, rem, c_7, c_17, c_26, eq_true c_54, c_85, c_116, c_139]; done) | contradiction | simp_all) (dn_nI 19 n45)
              · refine zw_iconst (v := 0) X dX8_auction_119 ik_0 ?_
                refine zw_goto (tgt := 127) X dX8_auction_120 (by decide) ?_
                refine zw_istore_9 X dX8_auction_127 ?_
                refine zw_aload_0 X dX8_auction_129 ?_
                refine zw_getR X dX8_auction_130 fl_X8_50 ck_X8 sh_42 rfl ?_
                refine zw_iload_4 X dX8_auction_133 ?_
                refine zw_iload_8 X dX8_auction_135 ?_
                refine zw_iload_9 X dX8_auction_137 ?_
                refine zw_icmple (tgt := 147) X dX8_auction_139 (by decide) (fun c_139 => ?_) (fun c_139 => ?_)
                · refine zw_iload_4 X dX8_auction_147 ?_
                  refine zw_iast X dX8_auction_149 sh_54 (au_in _ hn45).1 ?_
                  refine zw_iinc_4_m1 X dX8_auction_150 ?_
                  refine zw_goto (tgt := 45) X dX8_auction_153 (by decide) ?_
                  refine zw_fg_5 ?_
                  refine zw_fg_6 ?_
                  refine zw_fg_7 ?_
                  refine zw_fg_8 ?_
                  refine zw_fg_9 ?_
                  exact ih45 _ _ (by first | (simp only [maF, maL, maG, maE, rem, c_7, c_17, c_26, eq_true c_54, c_85, eq_true c_116, c_139, decide_true, decide_false, Bool.and_true, Bool.true_and, Bool.and_false, Bool.false_and, Bool.or_true, Bool.true_or, Bool.or_false, Bool.false_or, Bool.not_true, Bool.not_false, if_true, if_false, ite_true, ite_false, Bool.false_eq_true, not_true_eq_false, not_false_eq_true, bI_t, bI_f, decide_eq_true_eq, reduceCtorEq]; done) | (simp [maF, maL, maG, maE, rem, c_7, c_17, c_26, eq_true c_54, c_85, eq_true c_116, c_139]; done) | contradiction | simp_all) (dn_nI 19 n45)
                · refine zw_iload_6 X dX8_auction_142 ?_
                  refine zw_goto (tgt := 149) X dX8_auction_144 (by decide) ?_
                  refine zw_iast X dX8_auction_149 sh_54 (au_in _ hn45).1 ?_
                  refine zw_iinc_4_m1 X dX8_auction_150 ?_
                  refine zw_goto (tgt := 45) X dX8_auction_153 (by decide) ?_
                  refine zw_fg_5 ?_
                  refine zw_fg_6 ?_
                  refine zw_fg_7 ?_
                  refine zw_fg_8 ?_
                  refine zw_fg_9 ?_
                  exact ih45 _ _ (by first | (simp only [maF, maL, maG, maE, rem, c_7, c_17, c_26, eq_true c_54, c_85, eq_true c_116, c_139, decide_true, decide_false, Bool.and_true, Bool.true_and, Bool.and_false, Bool.false_and, Bool.or_true, Bool.true_or, Bool.or_false, Bool.false_or, Bool.not_true, Bool.not_false, if_true, if_false, ite_true, ite_false, Bool.false_eq_true, not_true_eq_false, not_false_eq_true, bI_t, bI_f, decide_eq_true_eq, reduceCtorEq]; done) | (simp [maF, maL, maG, maE, rem, c_7, c_17, c_26, eq_true c_54, c_85, eq_true c_116, c_139]; done) | contradiction | simp_all) (dn_nI 19 n45)
            · refine zw_iconst (v := 1) X dX8_auction_88 ik_1 ?_
              refine zw_goto (tgt := 93) X dX8_auction_89 (by decide) ?_
              refine zw_istore_7 X dX8_auction_93 ?_
              refine zw_iload_7 X dX8_auction_95 ?_
              refine zw_ifeq_f (tgt := 108) X dX8_auction_97 (by decide) (by decide) ?_
              refine zw_iload_5 X dX8_auction_100 ?_
              refine zw_iload_6 X dX8_auction_102 ?_
              refine zw_isub X dX8_auction_104 ?_
              refine zw_goto (tgt := 112) X dX8_auction_105 (by decide) ?_
              refine zw_istore_8 X dX8_auction_112 ?_
              refine zw_iload_4 X dX8_auction_114 ?_
              refine zw_ifne (tgt := 123) X dX8_auction_116 (by decide) (fun c_116 => ?_) (fun c_116 => ?_)
              · refine zw_iconst (v := 1) X dX8_auction_123 ik_1 ?_
                refine zw_iload_4 X dX8_auction_124 ?_
                refine zw_isub X dX8_auction_126 ?_
                refine zw_istore_9 X dX8_auction_127 ?_
                refine zw_aload_0 X dX8_auction_129 ?_
                refine zw_getR X dX8_auction_130 fl_X8_50 ck_X8 sh_42 rfl ?_
                refine zw_iload_4 X dX8_auction_133 ?_
                refine zw_iload_8 X dX8_auction_135 ?_
                refine zw_iload_9 X dX8_auction_137 ?_
                refine zw_icmple (tgt := 147) X dX8_auction_139 (by decide) (fun c_139 => ?_) (fun c_139 => ?_)
                · refine zw_iload_4 X dX8_auction_147 ?_
                  refine zw_iast X dX8_auction_149 sh_54 (au_in _ hn45).1 ?_
                  refine zw_iinc_4_m1 X dX8_auction_150 ?_
                  refine zw_goto (tgt := 45) X dX8_auction_153 (by decide) ?_
                  refine zw_fg_5 ?_
                  refine zw_fg_6 ?_
                  refine zw_fg_7 ?_
                  refine zw_fg_8 ?_
                  refine zw_fg_9 ?_
                  exact ih45 _ _ (by first | (simp only [maF, maL, maG, maE, rem, c_7, c_17, c_26, eq_true c_54, eq_true c_85, c_116, c_139, decide_true, decide_false, Bool.and_true, Bool.true_and, Bool.and_false, Bool.false_and, Bool.or_true, Bool.true_or, Bool.or_false, Bool.false_or, Bool.not_true, Bool.not_false, if_true, if_false, ite_true, ite_false, Bool.false_eq_true, not_true_eq_false, not_false_eq_true, bI_t, bI_f, decide_eq_true_eq, reduceCtorEq]; done) | (simp [maF, maL, maG, maE, rem, c_7, c_17, c_26, eq_true c_54, eq_true c_85, c_116, c_139]; done) | contradiction | simp_all) (dn_nI 19 n45)
                · refine zw_iload_6 X dX8_auction_142 ?_
                  refine zw_goto (tgt := 149) X dX8_auction_144 (by decide) ?_
                  refine zw_iast X dX8_auction_149 sh_54 (au_in _ hn45).1 ?_
                  refine zw_iinc_4_m1 X dX8_auction_150 ?_
                  refine zw_goto (tgt := 45) X dX8_auction_153 (by decide) ?_
                  refine zw_fg_5 ?_
                  refine zw_fg_6 ?_
                  refine zw_fg_7 ?_
                  refine zw_fg_8 ?_
                  refine zw_fg_9 ?_
                  exact ih45 _ _ (by first | (simp only [maF, maL, maG, maE, rem, c_7, c_17, c_26, eq_true c_54, eq_true c_85, c_116, c_139, decide_true, decide_false, Bool.and_true, Bool.true_and, Bool.and_false, Bool.false_and, Bool.or_true, Bool.true_or, Bool.or_false, Bool.false_or, Bool.not_true, Bool.not_false, if_true, if_false, ite_true, ite_false, Bool.false_eq_true, not_true_eq_false, not_false_eq_true, bI_t, bI_f, decide_eq_true_eq, reduceCtorEq]; done) | (simp [maF, maL, maG, maE, rem, c_7, c_17, c_26, eq_true c_54, eq_true c_85, c_116, c_139]; done) | contradiction | simp_all) (dn_nI 19 n45)
              · refine zw_iconst (v := 0) X dX8_auction_119 ik_0 ?_
                refine zw_goto (tgt := 127) X dX8_auction_120 (by decide) ?_
                refine zw_istore_9 X dX8_auction_127 ?_
                refine zw_aload_0 X dX8_auction_129 ?_
                refine zw_getR X dX8_auction_130 fl_X8_50 ck_X8 sh_42 rfl ?_
                refine zw_iload_4 X dX8_auction_133 ?_
                refine zw_iload_8 X dX8_auction_135 ?_
                refine zw_iload_9 X dX8_auction_137 ?_
                refine zw_icmple (tgt := 147) X dX8_auction_139 (by decide) (fun c_139 => ?_) (fun c_139 => ?_)
                · refine zw_iload_4 X dX8_auction_147 ?_
                  refine zw_iast X dX8_auction_149 sh_54 (au_in _ hn45).1 ?_
                  refine zw_iinc_4_m1 X dX8_auction_150 ?_
                  refine zw_goto (tgt := 45) X dX8_auction_153 (by decide) ?_
                  refine zw_fg_5 ?_
                  refine zw_fg_6 ?_
                  refine zw_fg_7 ?_
                  refine zw_fg_8 ?_
                  refine zw_fg_9 ?_
                  exact ih45 _ _ (by first | (simp only [maF, maL, maG, maE, rem, c_7, c_17, c_26, eq_true c_54, eq_true c_85, eq_true c_116, c_139, decide_true, decide_false, Bool.and_true, Bool.true_and, Bool.and_false, Bool.false_and, Bool.or_true, Bool.true_or, Bool.or_false, Bool.false_or, Bool.not_true, Bool.not_false, if_true, if_false, ite_true, ite_false, Bool.false_eq_true, not_true_eq_false, not_false_eq_true, bI_t, bI_f, decide_eq_true_eq, reduceCtorEq]; done) | (simp [maF, maL, maG, maE, rem, c_7, c_17, c_26, eq_true c_54, eq_true c_85, eq_true c_116, c_139]; done) | contradiction | simp_all) (dn_nI 19 n45)
                · refine zw_iload_6 X dX8_auction_142 ?_
                  refine zw_goto (tgt := 149) X dX8_auction_144 (by decide) ?_
                  refine zw_iast X dX8_auction_149 sh_54 (au_in _ hn45).1 ?_
                  refine zw_iinc_4_m1 X dX8_auction_150 ?_
                  refine zw_goto (tgt := 45) X dX8_auction_153 (by decide) ?_
                  refine zw_fg_5 ?_
                  refine zw_fg_6 ?_
                  refine zw_fg_7 ?_
                  refine zw_fg_8 ?_
                  refine zw_fg_9 ?_
                  exact ih45 _ _ (by first | (simp only [maF, maL, maG, maE, rem, c_7, c_17, c_26, eq_true c_54, eq_true c_85, eq_true c_116, c_139, decide_true, decide_false, Bool.and_true, Bool.true_and, Bool.and_false, Bool.false_and, Bool.or_true, Bool.true_or, Bool.or_false, Bool.false_or, Bool.not_true, Bool.not_false, if_true, if_false, ite_true, ite_false, Bool.false_eq_true, not_true_eq_false, not_false_eq_true, bI_t, bI_f, decide_eq_true_eq, reduceCtorEq]; done) | (simp [maF, maL, maG, maE, rem, c_7, c_17, c_26, eq_true c_54, eq_true c_85, eq_true c_116, c_139]; done) | contradiction | simp_all) (dn_nI 19 n45)
        · subst hs45 hv45_4
          refine zw_iload_4 X dX8_auction_45 ?_
          refine zw_iflt_t (tgt := 156) X dX8_auction_47 (by decide) (by decide) ?_
          refine zw_aload_0 X dX8_auction_156 ?_
          refine zw_getR X dX8_auction_157 fl_X8_50 ck_X8 sh_42 rfl ?_
          refine zw_iconst (v := 0) X dX8_auction_160 ik_0 ?_
          refine zw_iald X dX8_auction_161 sh_54 (vp_in_nI (n := 0) (by decide) (by decide)) ?_
          refine zw_ifne (tgt := 170) X dX8_auction_162 (by decide) (fun c_162 => ?_) (fun c_162 => ?_)
          · refine zw_iload_3 X dX8_auction_170 ?_
            refine zw_iconst (v := 1) X dX8_auction_171 ik_1 ?_
            refine zw_icmpne (tgt := 184) X dX8_auction_172 (by decide) (fun c_172 => ?_) (fun c_172 => ?_)
            · refine zw_aload_0 X dX8_auction_184 ?_
              refine zw_getR X dX8_auction_185 fl_X8_50 ck_X8 sh_42 rfl ?_
              refine zw_iconst (v := 0) X dX8_auction_188 ik_0 ?_
              refine zw_iald X dX8_auction_189 sh_54 (vp_in_nI (n := 0) (by decide) (by decide)) ?_
              refine zw_iconst (v := 2) X dX8_auction_190 ik_2 ?_
              refine zw_irem X dX8_auction_191 (by decide) ?_
              refine zw_iconst (v := 1) X dX8_auction_192 ik_1 ?_
              refine zw_icmpne (tgt := 200) X dX8_auction_193 (by decide) (fun c_193 => ?_) (fun c_193 => ?_)
              · refine zw_iconst (v := 1) X dX8_auction_200 ik_1 ?_
                exact zw_iret X F dX8_auction_201 rfl (by first | (simp only [Y_auc, maA, ← ha45, rem, c_7, c_17, c_26, c_162, c_172, c_193, decide_true, decide_false, Bool.and_true, Bool.true_and, Bool.and_false, Bool.false_and, Bool.or_true, Bool.true_or, Bool.or_false, Bool.false_or, Bool.not_true, Bool.not_false, if_true, if_false, ite_true, ite_false, Bool.false_eq_true, not_true_eq_false, not_false_eq_true, bI_t, bI_f, decide_eq_true_eq, reduceCtorEq]; done) | (simp [Y_auc, maA, ← ha45, rem, c_7, c_17, c_26, c_162, c_172, c_193]; done) | contradiction | simp_all) (by first | (simp only [Y_auc, maA, ← ha45, c_7, c_17, c_26, c_162, c_172, c_193, decide_true, decide_false, Bool.and_true, Bool.true_and, Bool.and_false, Bool.false_and, Bool.or_true, Bool.true_or, Bool.or_false, Bool.false_or, Bool.not_true, Bool.not_false, if_true, if_false, ite_true, ite_false, Bool.false_eq_true, not_true_eq_false, not_false_eq_true, bI_t, bI_f, decide_eq_true_eq, reduceCtorEq]; done) | (simp [Y_auc, maA, ← ha45, c_7, c_17, c_26, c_162, c_172, c_193]; done) | contradiction | simp_all)
              · refine zw_iconst (v := 0) X dX8_auction_196 ik_0 ?_
                refine zw_goto (tgt := 201) X dX8_auction_197 (by decide) ?_
                exact zw_iret X F dX8_auction_201 rfl (by first | (simp only [Y_auc, maA, ← ha45, rem, c_7, c_17, c_26, c_162, c_172, eq_true c_193, decide_true, decide_false, Bool.and_true, Bool.true_and, Bool.and_false, Bool.false_and, Bool.or_true, Bool.true_or, Bool.or_false, Bool.false_or, Bool.not_true, Bool.not_false, if_true, if_false, ite_true, ite_false, Bool.false_eq_true, not_true_eq_false, not_false_eq_true, bI_t, bI_f, decide_eq_true_eq, reduceCtorEq]; done) | (simp [Y_auc, maA, ← ha45, rem, c_7, c_17, c_26, c_162, c_172, eq_true c_193]; done) | contradiction | simp_all) (by first | (simp only [Y_auc, maA, ← ha45, c_7, c_17, c_26, c_162, c_172, eq_true c_193, decide_true, decide_false, Bool.and_true, Bool.true_and, Bool.and_false, Bool.false_and, Bool.or_true, Bool.true_or, Bool.or_false, Bool.false_or, Bool.not_true, Bool.not_false, if_true, if_false, ite_true, ite_false, Bool.false_eq_true, not_true_eq_false, not_false_eq_true, bI_t, bI_f, decide_eq_true_eq, reduceCtorEq]; done) | (simp [Y_auc, maA, ← ha45, c_7, c_17, c_26, c_162, c_172, eq_true c_193]; done) | contradiction | simp_all)
            · refine zw_aload_0 X dX8_auction_175 ?_
              refine zw_getR X dX8_auction_176 fl_X8_50 ck_X8 sh_42 rfl ?_
              refine zw_iconst (v := 0) X dX8_auction_179 ik_0 ?_
              refine zw_iald X dX8_auction_180 sh_54 (vp_in_nI (n := 0) (by decide) (by decide)) ?_
              refine zw_goto (tgt := 201) X dX8_auction_181 (by decide) ?_
              exact zw_iret X F dX8_auction_201 rfl (by first | (simp only [Y_auc, maA, ← ha45, rem, c_7, c_17, c_26, c_162, eq_true c_172, decide_true, decide_false, Bool.and_true, Bool.true_and, Bool.and_false, Bool.false_and, Bool.or_true, Bool.true_or, Bool.or_false, Bool.false_or, Bool.not_true, Bool.not_false, if_true, if_false, ite_true, ite_false, Bool.false_eq_true, not_true_eq_false, not_false_eq_true, bI_t, bI_f, decide_eq_true_eq, reduceCtorEq]; done) | (simp [Y_auc, maA, ← ha45, rem, c_7, c_17, c_26, c_162, eq_true c_172]; done) | contradiction | simp_all) (by first | (simp only [Y_auc, maA, ← ha45, c_7, c_17, c_26, c_162, eq_true c_172, decide_true, decide_false, Bool.and_true, Bool.true_and, Bool.and_false, Bool.false_and, Bool.or_true, Bool.true_or, Bool.or_false, Bool.false_or, Bool.not_true, Bool.not_false, if_true, if_false, ite_true, ite_false, Bool.false_eq_true, not_true_eq_false, not_false_eq_true, bI_t, bI_f, decide_eq_true_eq, reduceCtorEq]; done) | (simp [Y_auc, maA, ← ha45, c_7, c_17, c_26, c_162, eq_true c_172]; done) | contradiction | simp_all)
          · refine zw_bipush (v := -6) X dX8_auction_165 bk_m6 ?_
            refine zw_goto (tgt := 201) X dX8_auction_167 (by decide) ?_
            exact zw_iret X F dX8_auction_201 rfl (by first | (simp only [Y_auc, maA, ← ha45, rem, c_7, c_17, c_26, eq_true c_162, decide_true, decide_false, Bool.and_true, Bool.true_and, Bool.and_false, Bool.false_and, Bool.or_true, Bool.true_or, Bool.or_false, Bool.false_or, Bool.not_true, Bool.not_false, if_true, if_false, ite_true, ite_false, Bool.false_eq_true, not_true_eq_false, not_false_eq_true, bI_t, bI_f, decide_eq_true_eq, reduceCtorEq]; done) | (simp [Y_auc, maA, ← ha45, rem, c_7, c_17, c_26, eq_true c_162]; done) | contradiction | simp_all) (by first | (simp only [Y_auc, maA, ← ha45, c_7, c_17, c_26, eq_true c_162, decide_true, decide_false, Bool.and_true, Bool.true_and, Bool.and_false, Bool.false_and, Bool.or_true, Bool.true_or, Bool.or_false, Bool.false_or, Bool.not_true, Bool.not_false, if_true, if_false, ite_true, ite_false, Bool.false_eq_true, not_true_eq_false, not_false_eq_true, bI_t, bI_f, decide_eq_true_eq, reduceCtorEq]; done) | (simp [Y_auc, maA, ← ha45, c_7, c_17, c_26, eq_true c_162]; done) | contradiction | simp_all)
      · refine zw_bipush (v := -2) X dX8_auction_29 bk_m2 ?_
        exact zw_iret X F dX8_auction_31 rfl (by first | (simp only [Y_auc, c_7, c_17, c_26, decide_true, decide_false, Bool.and_true, Bool.true_and, Bool.and_false, Bool.false_and, Bool.or_true, Bool.true_or, Bool.or_false, Bool.false_or, Bool.not_true, Bool.not_false, if_true, if_false, ite_true, ite_false, Bool.false_eq_true, not_true_eq_false, not_false_eq_true, bI_t, bI_f, decide_eq_true_eq, reduceCtorEq]; done) | (simp [Y_auc, c_7, c_17, c_26]; done) | contradiction | simp_all) (by first | (simp only [Y_auc, c_7, c_17, c_26, decide_true, decide_false, Bool.and_true, Bool.true_and, Bool.and_false, Bool.false_and, Bool.or_true, Bool.true_or, Bool.or_false, Bool.false_or, Bool.not_true, Bool.not_false, if_true, if_false, ite_true, ite_false, Bool.false_eq_true, not_true_eq_false, not_false_eq_true, bI_t, bI_f, decide_eq_true_eq, reduceCtorEq]; done) | (simp [Y_auc, c_7, c_17, c_26]; done) | contradiction | simp_all)
set_option maxRecDepth 20000 in
set_option maxHeartbeats 1000000 in
theorem l_X8_gcd {g : Gt} (X : CX g MX8_coughs) {c t p : Int32} {u : Int64} {σ : St} : ∀ (b a : Nat), b ≤ 10 → a < 2 ^ 62 → ZW g 164 [some (.ref 42), some (.int c), some (.int t), some (.int p), some (.long u), none, some (.long (lN (Nat.gcd a b))), none, none, none, none, none] [] σ → ZW g 139 [some (.ref 42), some (.int c), some (.int t), some (.int p), some (.long u), none, some (.long (lN a)), none, some (.long (lN b)), none, none, none] [] σ := by
  intro b
  induction b using Nat.strongRecOn with
  | ind b ih =>
    intro a hb ha K
    refine zw_lload_8 X dX8_coughs_139 ?_
    refine zw_lconst (v := 0) X dX8_coughs_141 rfl ?_
    refine zw_lcmp X dX8_coughs_142 ?_
    by_cases h0 : b = 0
    · subst h0
      refine zw_ifeq_t (tgt := 164) X dX8_coughs_143 (by decide) (by decide) ?_
      rw [Nat.gcd_zero_right] at K
      exact zw_fg_8 K
    · have hb0 : ¬ lN b = 0 := fun e => h0 ((pk_lEQ (a := b) (b := 0) (by omega) (by decide)).mp e)
      refine zw_ifeq_f (tgt := 164) X dX8_coughs_143 (by decide) (fun e => hb0 ((lg_cmp_eq _ _).mp e)) ?_
      refine zw_lload_6 X dX8_coughs_146 ?_
      refine zw_lload_8 X dX8_coughs_148 ?_
      refine zw_lrem X dX8_coughs_150 hb0 ?_
      rw [pk_lRem (by omega) (by omega) (by omega)]
      refine zw_lstore_10 X dX8_coughs_151 ?_
      refine zw_lload_8 X dX8_coughs_153 ?_
      refine zw_lstore_6 X dX8_coughs_155 ?_
      refine zw_lload_10 X dX8_coughs_157 ?_
      refine zw_lstore_8 X dX8_coughs_159 ?_
      refine zw_goto (tgt := 139) X dX8_coughs_161 (by decide) ?_
      refine zw_fg_10 ?_
      have hlt : a % b < b := Nat.mod_lt _ (by omega)
      refine ih (a % b) hlt b (by omega) (by omega) ?_
      rw [show Nat.gcd b (a % b) = Nat.gcd a b by rw [Nat.gcd_comm a b, Nat.gcd_rec b a, Nat.gcd_comm]]
      exact K
set_option maxRecDepth 20000 in
set_option maxHeartbeats 1000000 in
theorem t_X8_coughs {σ : St} {c t p : Int32} {u : Nat} (hu : wth c 0 2 = true → wth t 0 10 = true → (mkA σ c t).1 = lN u) (hu2 : u < 2 ^ 62) : Ct MX8_coughs [.ref 42, .int c, .int t, .int p] σ (some (.long (Y_cou σ u c t p).1)) (Y_cou σ u c t p).2 := by
  refine ct_of (ls0 := [some (.ref 42), some (.int c), some (.int t), some (.int p), none, none, none, none, none, none, none, none]) ok_MX8_coughs rfl (Nat.le_of_ble_eq_true rfl) rfl ?_
  intro g X F
  refine zw_iload_1 X dX8_coughs_0 ?_
  refine zw_cS_ii X dX8_coughs_1 lk_X8_82 ok_MX8_isRoom st_MX8_isRoom rm_X8_coughs_X8_isRoom (Nat.le_of_ble_eq_true rfl) t_X8_isRoom ?_
  refine zw_ifneB (tgt := 11) X dX8_coughs_4 (by decide) (fun c_4 => ?_) (fun c_4 => ?_)
  · refine zw_iload_2 X dX8_coughs_11 ?_
    refine zw_iconst (v := 0) X dX8_coughs_12 ik_0 ?_
    refine zw_bipush (v := 10) X dX8_coughs_13 bk_10 ?_
    refine zw_cS_iiii X dX8_coughs_15 lk_X8_60 ok_MX8_in st_MX8_in rm_X8_coughs_X8_in (Nat.le_of_ble_eq_true rfl) t_X8_in ?_
    refine zw_ifeqB (tgt := 30) X dX8_coughs_18 (by decide) (fun c_18 => ?_) (fun c_18 => ?_)
    · refine zw_ldc2 X dX8_coughs_30 kl_X8_176 ?_
      exact zw_lret X F dX8_coughs_33 rfl (by first | (simp only [Y_cou, c_4, c_18, decide_true, decide_false, Bool.and_true, Bool.true_and, Bool.and_false, Bool.false_and, Bool.or_true, Bool.true_or, Bool.or_false, Bool.false_or, Bool.not_true, Bool.not_false, if_true, if_false, ite_true, ite_false, Bool.false_eq_true, not_true_eq_false, not_false_eq_true, bI_t, bI_f, decide_eq_true_eq, reduceCtorEq]; done) | (simp [Y_cou, c_4, c_18]; done) | contradiction | simp_all) (by first | (simp only [Y_cou, c_4, c_18, decide_true, decide_false, Bool.and_true, Bool.true_and, Bool.and_false, Bool.false_and, Bool.or_true, Bool.true_or, Bool.or_false, Bool.false_or, Bool.not_true, Bool.not_false, if_true, if_false, ite_true, ite_false, Bool.false_eq_true, not_true_eq_false, not_false_eq_true, bI_t, bI_f, decide_eq_true_eq, reduceCtorEq]; done) | (simp [Y_cou, c_4, c_18]; done) | contradiction | simp_all)
    · refine zw_iload_3 X dX8_coughs_21 ?_
      refine zw_iconst (v := 0) X dX8_coughs_22 ik_0 ?_
      refine zw_iconst (v := 1) X dX8_coughs_23 ik_1 ?_
      refine zw_cS_iiii X dX8_coughs_24 lk_X8_60 ok_MX8_in st_MX8_in rm_X8_coughs_X8_in (Nat.le_of_ble_eq_true rfl) t_X8_in ?_
      refine zw_ifneB (tgt := 34) X dX8_coughs_27 (by decide) (fun c_27 => ?_) (fun c_27 => ?_)
      · refine zw_aload_0 X dX8_coughs_34 ?_
        refine zw_cV_nv X dX8_coughs_35 lk_X8_125 ok_MX8_asNow vi_MX8_asNow rm_X8_coughs_X8_asNow sh_42 rfl (Nat.le_of_ble_eq_true rfl) t_X8_asNow ?_
        refine zw_lconst (v := 0) X dX8_coughs_38 rfl ?_
        refine zw_lstore_4 X dX8_coughs_39 ?_
        refine zw_fg_6 ?_
        refine zw_fg_7 ?_
        refine zloop (α := Int64 × St) (S := fun zn za => ∀ (v41_4 : Int64) (s41 : St), v41_4 = za.1 → s41 = za.2 → ZW g 41 [some (.ref 42), some (.int c), some (.int t), some (.int p), some (.long v41_4), none, none, none, none, none, none, none] [] s41) (N := (cnt ((mNow σ) 42 16) ((mNow σ) 42 0))) (f := (mkF c t)) (a0 := ((0, mNow σ) : Int64 × St)) (fun n41 a41 hn41 ha41 ih41 v41_4 s41 hv41_4 hs41 => ?_) (fun a41 ha41 v41_4 s41 hv41_4 hs41 => ?_) _ _ rfl rfl
        · subst hv41_4 hs41
          refine zw_aload_0 X dX8_coughs_41 ?_
          refine zw_getI X dX8_coughs_42 fl_X8_98 ck_X8 sh_42 rfl ?_
          refine zw_aload_0 X dX8_coughs_45 ?_
          refine zw_getI X dX8_coughs_46 fl_X8_7 ck_X8 sh_42 rfl ?_
          refine zw_icmpge_f (tgt := 130) X dX8_coughs_49 (by decide) ((run_lt (by rw [ha41]; exact itr2_run (fun _ _ => rfl) _ _) (Nat.le_of_lt hn41)).mpr hn41) ?_
          refine zw_aload_0 X dX8_coughs_52 ?_
          refine zw_iload_1 X dX8_coughs_53 ?_
          refine zw_cV_ii X dX8_coughs_54 lk_X8_116 ok_MX8_holder vi_MX8_holder rm_X8_coughs_X8_holder sh_42 rfl (Nat.le_of_ble_eq_true rfl) t_X8_holder ?_
          refine zw_istore_6 X dX8_coughs_57 ?_
          refine zw_iconst (v := 0) X dX8_coughs_59 ik_0 ?_
          refine zw_istore_7 X dX8_coughs_60 ?_
          by_cases hv : mhold a41.2 c < 0
          · refine zw_iload_7 X dX8_coughs_62 ?_
            refine zw_bipush (v := 6) X dX8_coughs_64 bk_6 ?_
            refine zw_icmpge_f (tgt := 123) X dX8_coughs_66 (by decide) (by decide) ?_
            refine zw_iload_6 X dX8_coughs_69 ?_
            refine zw_iflt_t (tgt := 123) X dX8_coughs_71 (by decide) hv ?_
            refine zw_aload_0 X dX8_coughs_123 ?_
            refine zw_cV_nv X dX8_coughs_124 lk_X8_134 ok_MX8_pass vi_MX8_pass rm_X8_coughs_X8_pass sh_42 rfl (Nat.le_of_ble_eq_true rfl) t_X8_pass ?_
            refine zw_goto (tgt := 41) X dX8_coughs_127 (by decide) ?_
            refine zw_fg_6 ?_
            refine zw_fg_7 ?_
            exact ih41 _ _ (by first | (simp only [mkF, mkI, c_4, c_18, c_27, hv, decide_true, decide_false, Bool.and_true, Bool.true_and, Bool.and_false, Bool.false_and, Bool.or_true, Bool.true_or, Bool.or_false, Bool.false_or, Bool.not_true, Bool.not_false, if_true, if_false, ite_true, ite_false, Bool.false_eq_true, not_true_eq_false, not_false_eq_true, bI_t, bI_f, decide_eq_true_eq, reduceCtorEq]; done) | (simp [mkF, mkI, c_4, c_18, c_27, hv]; done) | contradiction | simp_all) (by first | (simp only [mkF, mkI, c_4, c_18, c_27, hv, decide_true, decide_false, Bool.and_true, Bool.true_and, Bool.and_false, Bool.false_and, Bool.or_true, Bool.true_or, Bool.or_false, Bool.false_or, Bool.not_true, Bool.not_false, if_true, if_false, ite_true, ite_false, Bool.false_eq_true, not_true_eq_false, not_false_eq_true, bI_t, bI_f, decide_eq_true_eq, reduceCtorEq]; done) | (simp [mkF, mkI, c_4, c_18, c_27, hv]; done) | contradiction | simp_all)
          · refine zloop (α := Int64) (S := fun zn za => ∀ (v62_4 : Int64) (v62_7 : Int32), za = v62_4 → v62_7 = nI zn → ZW g 62 [some (.ref 42), some (.int c), some (.int t), some (.int p), some (.long v62_4), none, some (.int (mhold a41.2 c)), some (.int v62_7), none, none, none, none] [] a41.2) (N := 6) (f := (mkK a41.2 c t (mhold a41.2 c))) (a0 := a41.1) (fun n62 a62 hn62 ha62 ih62 v62_4 v62_7 hv62_4 hv62_7 => ?_) (fun a62 ha62 v62_4 v62_7 hv62_4 hv62_7 => ?_) _ _ rfl rfl
            · subst hv62_4 hv62_7
              refine zw_iload_7 X dX8_coughs_62 ?_
              refine zw_bipush (v := 6) X dX8_coughs_64 bk_6 ?_
              refine zw_icmpge_f (tgt := 123) X dX8_coughs_66 (by decide) (nI_lt hn62 (by decide)) ?_
              refine zw_iload_6 X dX8_coughs_69 ?_
              refine zw_iflt_f (tgt := 123) X dX8_coughs_71 (by decide) hv ?_
              refine zw_lload_4 X dX8_coughs_74 ?_
              refine zw_iload_7 X dX8_coughs_76 ?_
              refine zw_iload_6 X dX8_coughs_78 ?_
              refine zw_icmpeq (tgt := 113) X dX8_coughs_80 (by decide) (fun c_80 => ?_) (fun c_80 => ?_)
              · refine zw_lconst (v := 0) X dX8_coughs_113 rfl ?_
                refine zw_ladd X dX8_coughs_114 ?_
                refine zw_lstore_4 X dX8_coughs_115 ?_
                refine zw_iinc_7_p1 X dX8_coughs_117 ?_
                refine zw_goto (tgt := 62) X dX8_coughs_120 (by decide) ?_
                exact ih62 _ _ (by first | (simp only [mkK, c_4, c_18, c_27, hv, eq_true c_80, decide_true, decide_false, Bool.and_true, Bool.true_and, Bool.and_false, Bool.false_and, Bool.or_true, Bool.true_or, Bool.or_false, Bool.false_or, Bool.not_true, Bool.not_false, if_true, if_false, ite_true, ite_false, Bool.false_eq_true, not_true_eq_false, not_false_eq_true, bI_t, bI_f, decide_eq_true_eq, reduceCtorEq]; done) | (simp [mkK, c_4, c_18, c_27, hv, eq_true c_80]; done) | contradiction | simp_all) (nI_1 n62)
              · refine zw_aload_0 X dX8_coughs_83 ?_
                refine zw_iload_7 X dX8_coughs_84 ?_
                refine zw_cV_ii X dX8_coughs_86 lk_X8_119 ok_MX8_ridesNow vi_MX8_ridesNow rm_X8_coughs_X8_ridesNow sh_42 rfl (Nat.le_of_ble_eq_true rfl) (t_X8_ridesNow (vp_in_nI hn62 (by decide))) ?_
                refine zw_ifeqB (tgt := 113) X dX8_coughs_89 (by decide) (fun c_89 => ?_) (fun c_89 => ?_)
                · refine zw_lconst (v := 0) X dX8_coughs_113 rfl ?_
                  refine zw_ladd X dX8_coughs_114 ?_
                  refine zw_lstore_4 X dX8_coughs_115 ?_
                  refine zw_iinc_7_p1 X dX8_coughs_117 ?_
                  refine zw_goto (tgt := 62) X dX8_coughs_120 (by decide) ?_
                  exact ih62 _ _ (by first | (simp only [mkK, c_4, c_18, c_27, hv, c_80, c_89, decide_true, decide_false, Bool.and_true, Bool.true_and, Bool.and_false, Bool.false_and, Bool.or_true, Bool.true_or, Bool.or_false, Bool.false_or, Bool.not_true, Bool.not_false, if_true, if_false, ite_true, ite_false, Bool.false_eq_true, not_true_eq_false, not_false_eq_true, bI_t, bI_f, decide_eq_true_eq, reduceCtorEq]; done) | (simp [mkK, c_4, c_18, c_27, hv, c_80, c_89]; done) | contradiction | simp_all) (nI_1 n62)
                · refine zw_aload_0 X dX8_coughs_92 ?_
                  refine zw_getR X dX8_coughs_93 fl_X8_20 ck_X8 sh_42 rfl ?_
                  refine zw_iload_7 X dX8_coughs_96 ?_
                  refine zw_ialdN X dX8_coughs_98 sh_45 hn62 (by decide) ?_
                  refine zw_iload_1 X dX8_coughs_99 ?_
                  refine zw_icmpne (tgt := 113) X dX8_coughs_100 (by decide) (fun c_100 => ?_) (fun c_100 => ?_)
                  · refine zw_lconst (v := 0) X dX8_coughs_113 rfl ?_
                    refine zw_ladd X dX8_coughs_114 ?_
                    refine zw_lstore_4 X dX8_coughs_115 ?_
                    refine zw_iinc_7_p1 X dX8_coughs_117 ?_
                    refine zw_goto (tgt := 62) X dX8_coughs_120 (by decide) ?_
                    exact ih62 _ _ (by first | (simp only [mkK, c_4, c_18, c_27, hv, c_80, c_89, c_100, decide_true, decide_false, Bool.and_true, Bool.true_and, Bool.and_false, Bool.false_and, Bool.or_true, Bool.true_or, Bool.or_false, Bool.false_or, Bool.not_true, Bool.not_false, if_true, if_false, ite_true, ite_false, Bool.false_eq_true, not_true_eq_false, not_false_eq_true, bI_t, bI_f, decide_eq_true_eq, reduceCtorEq]; done) | (simp [mkK, c_4, c_18, c_27, hv, c_80, c_89, c_100]; done) | contradiction | simp_all) (nI_1 n62)
                  · refine zw_aload_0 X dX8_coughs_103 ?_
                    refine zw_getI X dX8_coughs_104 fl_X8_29 ck_X8 sh_42 rfl ?_
                    refine zw_iload_2 X dX8_coughs_107 ?_
                    refine zw_imul X dX8_coughs_108 ?_
                    refine zw_i2l X dX8_coughs_109 ?_
                    refine zw_goto (tgt := 114) X dX8_coughs_110 (by decide) ?_
                    refine zw_ladd X dX8_coughs_114 ?_
                    refine zw_lstore_4 X dX8_coughs_115 ?_
                    refine zw_iinc_7_p1 X dX8_coughs_117 ?_
                    refine zw_goto (tgt := 62) X dX8_coughs_120 (by decide) ?_
                    exact ih62 _ _ (by first | (simp only [mkK, c_4, c_18, c_27, hv, c_80, c_89, eq_true c_100, decide_true, decide_false, Bool.and_true, Bool.true_and, Bool.and_false, Bool.false_and, Bool.or_true, Bool.true_or, Bool.or_false, Bool.false_or, Bool.not_true, Bool.not_false, if_true, if_false, ite_true, ite_false, Bool.false_eq_true, not_true_eq_false, not_false_eq_true, bI_t, bI_f, decide_eq_true_eq, reduceCtorEq]; done) | (simp [mkK, c_4, c_18, c_27, hv, c_80, c_89, eq_true c_100]; done) | contradiction | simp_all) (nI_1 n62)
            · subst hv62_4 hv62_7
              refine zw_iload_7 X dX8_coughs_62 ?_
              refine zw_bipush (v := 6) X dX8_coughs_64 bk_6 ?_
              refine zw_icmpge_t (tgt := 123) X dX8_coughs_66 (by decide) (by decide) ?_
              refine zw_aload_0 X dX8_coughs_123 ?_
              refine zw_cV_nv X dX8_coughs_124 lk_X8_134 ok_MX8_pass vi_MX8_pass rm_X8_coughs_X8_pass sh_42 rfl (Nat.le_of_ble_eq_true rfl) t_X8_pass ?_
              refine zw_goto (tgt := 41) X dX8_coughs_127 (by decide) ?_
              refine zw_fg_6 ?_
              refine zw_fg_7 ?_
              exact ih41 _ _ (by first | (simp only [mkF, mkI, c_4, c_18, c_27, hv, ← ha62, decide_true, decide_false, Bool.and_true, Bool.true_and, Bool.and_false, Bool.false_and, Bool.or_true, Bool.true_or, Bool.or_false, Bool.false_or, Bool.not_true, Bool.not_false, if_true, if_false, ite_true, ite_false, Bool.false_eq_true, not_true_eq_false, not_false_eq_true, bI_t, bI_f, decide_eq_true_eq, reduceCtorEq]; done) | (simp [mkF, mkI, c_4, c_18, c_27, hv, ← ha62]; done) | contradiction | simp_all) (by first | (simp only [mkF, mkI, c_4, c_18, c_27, hv, ← ha62, decide_true, decide_false, Bool.and_true, Bool.true_and, Bool.and_false, Bool.false_and, Bool.or_true, Bool.true_or, Bool.or_false, Bool.false_or, Bool.not_true, Bool.not_false, if_true, if_false, ite_true, ite_false, Bool.false_eq_true, not_true_eq_false, not_false_eq_true, bI_t, bI_f, decide_eq_true_eq, reduceCtorEq]; done) | (simp [mkF, mkI, c_4, c_18, c_27, hv, ← ha62]; done) | contradiction | simp_all)
        · subst hv41_4 hs41
          refine zw_aload_0 X dX8_coughs_41 ?_
          refine zw_getI X dX8_coughs_42 fl_X8_98 ck_X8 sh_42 rfl ?_
          refine zw_aload_0 X dX8_coughs_45 ?_
          refine zw_getI X dX8_coughs_46 fl_X8_7 ck_X8 sh_42 rfl ?_
          refine zw_icmpge_t (tgt := 130) X dX8_coughs_49 (by decide) (fun h => Nat.lt_irrefl _ ((run_lt (by rw [ha41]; exact itr2_run (fun _ _ => rfl) _ _) (Nat.le_refl _)).mp h)) ?_
          refine zw_lload_4 X dX8_coughs_130 ?_
          refine zw_lstore_6 X dX8_coughs_132 ?_
          refine zw_ldc2 X dX8_coughs_134 kl_X8_178 ?_
          refine zw_lstore_8 X dX8_coughs_137 ?_
          refine zw_fg_10 ?_
          refine zw_fg_11 ?_
          have hA : a41.1 = lN u := by rw [ha41]; exact hu c_4 c_18
          rw [hA]
          refine l_X8_gcd X (u := lN u) 10 u (by decide) hu2 ?_
          have hg0 : ¬ lN (Nat.gcd u 10) = 0 := fun e => absurd ((pk_lEQ (a := Nat.gcd u 10) (b := 0) (by have := Nat.gcd_le_right u (show 0 < 10 by decide); omega) (by decide)).mp e) (by have := Nat.gcd_pos_of_pos_right u (show 0 < 10 by decide); omega)
          refine zw_iload_3 X dX8_coughs_164 ?_
          refine zw_ifne (tgt := 176) X dX8_coughs_165 (by decide) (fun c_165 => ?_) (fun c_165 => ?_)
          · refine zw_ldc2 X dX8_coughs_176 kl_X8_178 ?_
            refine zw_lload_6 X dX8_coughs_179 ?_
            refine zw_ldiv X dX8_coughs_181 hg0 ?_
            exact zw_lret X F dX8_coughs_182 rfl (by first | (simp only [Y_cou, mkR, c_4, c_18, c_27, c_165, decide_true, decide_false, Bool.and_true, Bool.true_and, Bool.and_false, Bool.false_and, Bool.or_true, Bool.true_or, Bool.or_false, Bool.false_or, Bool.not_true, Bool.not_false, if_true, if_false, ite_true, ite_false, Bool.false_eq_true, not_true_eq_false, not_false_eq_true, bI_t, bI_f, decide_eq_true_eq, reduceCtorEq]; done) | (simp [Y_cou, mkR, c_4, c_18, c_27, c_165]; done) | contradiction | simp_all) (by first | (simp only [Y_cou, mkA, c_4, c_18, c_27, ← ha41, c_165, decide_true, decide_false, Bool.and_true, Bool.true_and, Bool.and_false, Bool.false_and, Bool.or_true, Bool.true_or, Bool.or_false, Bool.false_or, Bool.not_true, Bool.not_false, if_true, if_false, ite_true, ite_false, Bool.false_eq_true, not_true_eq_false, not_false_eq_true, bI_t, bI_f, decide_eq_true_eq, reduceCtorEq]; done) | (simp [Y_cou, mkA, c_4, c_18, c_27, ← ha41, c_165]; done) | contradiction | simp_all)
          · refine zw_lload_4 X dX8_coughs_168 ?_
            refine zw_lload_6 X dX8_coughs_170 ?_
            refine zw_ldiv X dX8_coughs_172 hg0 ?_
            refine zw_goto (tgt := 182) X dX8_coughs_173 (by decide) ?_
            exact zw_lret X F dX8_coughs_182 rfl (by first | (simp only [Y_cou, mkR, c_4, c_18, c_27, eq_true c_165, decide_true, decide_false, Bool.and_true, Bool.true_and, Bool.and_false, Bool.false_and, Bool.or_true, Bool.true_or, Bool.or_false, Bool.false_or, Bool.not_true, Bool.not_false, if_true, if_false, ite_true, ite_false, Bool.false_eq_true, not_true_eq_false, not_false_eq_true, bI_t, bI_f, decide_eq_true_eq, reduceCtorEq]; done) | (simp [Y_cou, mkR, c_4, c_18, c_27, eq_true c_165]; done) | contradiction | simp_all) (by first | (simp only [Y_cou, mkA, c_4, c_18, c_27, ← ha41, eq_true c_165, decide_true, decide_false, Bool.and_true, Bool.true_and, Bool.and_false, Bool.false_and, Bool.or_true, Bool.true_or, Bool.or_false, Bool.false_or, Bool.not_true, Bool.not_false, if_true, if_false, ite_true, ite_false, Bool.false_eq_true, not_true_eq_false, not_false_eq_true, bI_t, bI_f, decide_eq_true_eq, reduceCtorEq]; done) | (simp [Y_cou, mkA, c_4, c_18, c_27, ← ha41, eq_true c_165]; done) | contradiction | simp_all)
      · refine zw_ldc2 X dX8_coughs_30 kl_X8_176 ?_
        exact zw_lret X F dX8_coughs_33 rfl (by first | (simp only [Y_cou, c_4, c_18, c_27, decide_true, decide_false, Bool.and_true, Bool.true_and, Bool.and_false, Bool.false_and, Bool.or_true, Bool.true_or, Bool.or_false, Bool.false_or, Bool.not_true, Bool.not_false, if_true, if_false, ite_true, ite_false, Bool.false_eq_true, not_true_eq_false, not_false_eq_true, bI_t, bI_f, decide_eq_true_eq, reduceCtorEq]; done) | (simp [Y_cou, c_4, c_18, c_27]; done) | contradiction | simp_all) (by first | (simp only [Y_cou, c_4, c_18, c_27, decide_true, decide_false, Bool.and_true, Bool.true_and, Bool.and_false, Bool.false_and, Bool.or_true, Bool.true_or, Bool.or_false, Bool.false_or, Bool.not_true, Bool.not_false, if_true, if_false, ite_true, ite_false, Bool.false_eq_true, not_true_eq_false, not_false_eq_true, bI_t, bI_f, decide_eq_true_eq, reduceCtorEq]; done) | (simp [Y_cou, c_4, c_18, c_27]; done) | contradiction | simp_all)
  · refine zw_ldc2 X dX8_coughs_7 kl_X8_174 ?_
    exact zw_lret X F dX8_coughs_10 rfl (by first | (simp only [Y_cou, c_4, decide_true, decide_false, Bool.and_true, Bool.true_and, Bool.and_false, Bool.false_and, Bool.or_true, Bool.true_or, Bool.or_false, Bool.false_or, Bool.not_true, Bool.not_false, if_true, if_false, ite_true, ite_false, Bool.false_eq_true, not_true_eq_false, not_false_eq_true, bI_t, bI_f, decide_eq_true_eq, reduceCtorEq]; done) | (simp [Y_cou, c_4]; done) | contradiction | simp_all) (by first | (simp only [Y_cou, c_4, decide_true, decide_false, Bool.and_true, Bool.true_and, Bool.and_false, Bool.false_and, Bool.or_true, Bool.true_or, Bool.or_false, Bool.false_or, Bool.not_true, Bool.not_false, if_true, if_false, ite_true, ite_false, Bool.false_eq_true, not_true_eq_false, not_false_eq_true, bI_t, bI_f, decide_eq_true_eq, reduceCtorEq]; done) | (simp [Y_cou, c_4]; done) | contradiction | simp_all)
set_option maxRecDepth 20000 in
set_option maxHeartbeats 1000000 in
theorem t_X8_year {σ : St} {s m w : Int32} : Ct MX8_year [.ref 42, .int s, .int m, .int w] σ (some (.int (Y_year σ s m w).1)) ((Y_year σ s m w).2) := by
  refine ct_of (ls0 := [some (.ref 42), some (.int s), some (.int m), some (.int w), none, none, none, none]) ok_MX8_year rfl (Nat.le_of_ble_eq_true rfl) rfl ?_
  intro g X F
  refine zw_iload_1 X dX8_year_0 ?_
  refine zw_iconst (v := 0) X dX8_year_1 ik_0 ?_
  refine zw_sipush (v := 9999) X dX8_year_2 sk_9999 ?_
  refine zw_cS_iiii X dX8_year_5 lk_X8_60 ok_MX8_in st_MX8_in rm_X8_year_X8_in (Nat.le_of_ble_eq_true rfl) t_X8_in ?_
  refine zw_ifeqB (tgt := 30) X dX8_year_8 (by decide) (fun c_8 => ?_) (fun c_8 => ?_)
  · refine zw_bipush (v := -2) X dX8_year_30 bk_m2 ?_
    exact zw_iret X F dX8_year_32 rfl (by first | (simp only [Y_year, c_8, decide_true, decide_false, Bool.and_true, Bool.true_and, Bool.and_false, Bool.false_and, Bool.or_true, Bool.true_or, Bool.or_false, Bool.false_or, Bool.not_true, Bool.not_false, if_true, if_false, ite_true, ite_false, Bool.false_eq_true, not_true_eq_false, not_false_eq_true, bI_t, bI_f, decide_eq_true_eq, reduceCtorEq]; done) | (simp [Y_year, c_8]; done) | contradiction | simp_all) (by first | (simp only [Y_year, c_8, decide_true, decide_false, Bool.and_true, Bool.true_and, Bool.and_false, Bool.false_and, Bool.or_true, Bool.true_or, Bool.or_false, Bool.false_or, Bool.not_true, Bool.not_false, if_true, if_false, ite_true, ite_false, Bool.false_eq_true, not_true_eq_false, not_false_eq_true, bI_t, bI_f, decide_eq_true_eq, reduceCtorEq]; done) | (simp [Y_year, c_8]; done) | contradiction | simp_all)
  · refine zw_iload_2 X dX8_year_11 ?_
    refine zw_iconst (v := 1) X dX8_year_12 ik_1 ?_
    refine zw_bipush (v := 99) X dX8_year_13 bk_99 ?_
    refine zw_cS_iiii X dX8_year_15 lk_X8_60 ok_MX8_in st_MX8_in rm_X8_year_X8_in (Nat.le_of_ble_eq_true rfl) t_X8_in ?_
    refine zw_ifeqB (tgt := 30) X dX8_year_18 (by decide) (fun c_18 => ?_) (fun c_18 => ?_)
    · refine zw_bipush (v := -2) X dX8_year_30 bk_m2 ?_
      exact zw_iret X F dX8_year_32 rfl (by first | (simp only [Y_year, c_8, c_18, decide_true, decide_false, Bool.and_true, Bool.true_and, Bool.and_false, Bool.false_and, Bool.or_true, Bool.true_or, Bool.or_false, Bool.false_or, Bool.not_true, Bool.not_false, if_true, if_false, ite_true, ite_false, Bool.false_eq_true, not_true_eq_false, not_false_eq_true, bI_t, bI_f, decide_eq_true_eq, reduceCtorEq]; done) | (simp [Y_year, c_8, c_18]; done) | contradiction | simp_all) (by first | (simp only [Y_year, c_8, c_18, decide_true, decide_false, Bool.and_true, Bool.true_and, Bool.and_false, Bool.false_and, Bool.or_true, Bool.true_or, Bool.or_false, Bool.false_or, Bool.not_true, Bool.not_false, if_true, if_false, ite_true, ite_false, Bool.false_eq_true, not_true_eq_false, not_false_eq_true, bI_t, bI_f, decide_eq_true_eq, reduceCtorEq]; done) | (simp [Y_year, c_8, c_18]; done) | contradiction | simp_all)
    · refine zw_iload_3 X dX8_year_21 ?_
      refine zw_iconst (v := 0) X dX8_year_22 ik_0 ?_
      refine zw_iconst (v := 2) X dX8_year_23 ik_2 ?_
      refine zw_cS_iiii X dX8_year_24 lk_X8_60 ok_MX8_in st_MX8_in rm_X8_year_X8_in (Nat.le_of_ble_eq_true rfl) t_X8_in ?_
      refine zw_ifneB (tgt := 33) X dX8_year_27 (by decide) (fun c_27 => ?_) (fun c_27 => ?_)
      · refine zw_aload_0 X dX8_year_33 ?_
        refine zw_cV_nv X dX8_year_34 lk_X8_125 ok_MX8_asNow vi_MX8_asNow rm_X8_year_X8_asNow sh_42 rfl (Nat.le_of_ble_eq_true rfl) t_X8_asNow ?_
        refine zw_iload_1 X dX8_year_37 ?_
        refine zw_istore_4 X dX8_year_38 ?_
        refine zw_iconst (v := 0) X dX8_year_40 ik_0 ?_
        refine zw_istore_5 X dX8_year_41 ?_
        refine zw_fg_6 ?_
        refine zw_fg_7 ?_
        refine zloop (α := Int32 × St) (S := fun zn za => ∀ (v43_4 : Int32) (s43 : St) (v43_5 : Int32), v43_4 = za.1 → s43 = za.2 → v43_5 = nI zn → ZW g 43 [some (.ref 42), some (.int s), some (.int m), some (.int w), some (.int v43_4), some (.int v43_5), none, none] [] s43) (N := (clN m)) (f := myF) (a0 := ((s, mNow σ) : Int32 × St)) (fun n43 a43 hn43 ha43 ih43 v43_4 s43 v43_5 hv43_4 hs43 hv43_5 => ?_) (fun a43 ha43 v43_4 s43 v43_5 hv43_4 hs43 hv43_5 => ?_) _ _ _ rfl rfl rfl
        · subst hv43_4 hs43 hv43_5
          refine zw_iload_5 X dX8_year_43 ?_
          refine zw_iload_2 X dX8_year_45 ?_
          refine zw_icmpge_f (tgt := 148) X dX8_year_46 (by decide) ((clN_lt (Nat.le_of_lt hn43)).mpr hn43) ?_
          refine zw_bipush (v := 75) X dX8_year_49 bk_75 ?_
          refine zw_iload_4 X dX8_year_51 ?_
          refine zw_imul X dX8_year_53 ?_
          refine zw_bipush (v := 74) X dX8_year_54 bk_74 ?_
          refine zw_iadd X dX8_year_56 ?_
          refine zw_ldc X dX8_year_57 kc_X8_180 ?_
          refine zw_irem X dX8_year_59 (by decide) ?_
          refine zw_istore_4 X dX8_year_60 ?_
          refine zw_iload_4 X dX8_year_62 ?_
          refine zw_bipush (v := 8) X dX8_year_64 bk_8 ?_
          refine zw_irem X dX8_year_66 (by decide) ?_
          refine zw_istore_6 X dX8_year_67 ?_
          refine zw_iload_4 X dX8_year_69 ?_
          refine zw_bipush (v := 8) X dX8_year_71 bk_8 ?_
          refine zw_idiv X dX8_year_73 (by decide) ?_
          refine zw_bipush (v := 6) X dX8_year_74 bk_6 ?_
          refine zw_irem X dX8_year_76 (by decide) ?_
          refine zw_istore_7 X dX8_year_77 ?_
          refine zw_iload_6 X dX8_year_79 ?_
          refine zw_iconst (v := 2) X dX8_year_81 ik_2 ?_
          refine zw_icmpge (tgt := 103) X dX8_year_82 (by decide) (fun c_82 => ?_) (fun c_82 => ?_)
          · refine zw_iload_6 X dX8_year_103 ?_
            refine zw_iconst (v := 5) X dX8_year_105 ik_5 ?_
            refine zw_icmpge (tgt := 127) X dX8_year_106 (by decide) (fun c_106 => ?_) (fun c_106 => ?_)
            · refine zw_aload_0 X dX8_year_127 ?_
              refine zw_iload_7 X dX8_year_128 ?_
              refine zw_cV_ii X dX8_year_130 lk_X8_119 ok_MX8_ridesNow vi_MX8_ridesNow rm_X8_year_X8_ridesNow sh_42 rfl (Nat.le_of_ble_eq_true rfl) (t_X8_ridesNow (my_in c_8 ha43)) ?_
              refine zw_ifeqB (tgt := 142) X dX8_year_133 (by decide) (fun c_133 => ?_) (fun c_133 => ?_)
              · refine zw_iinc_5_p1 X dX8_year_142 ?_
                refine zw_goto (tgt := 43) X dX8_year_145 (by decide) ?_
                refine zw_fg_6 ?_
                refine zw_fg_7 ?_
                exact ih43 _ _ _ (by first | (simp only [myF, myS, myX, rem, c_8, c_18, c_27, c_82, c_106, c_133, decide_true, decide_false, Bool.and_true, Bool.true_and, Bool.and_false, Bool.false_and, Bool.or_true, Bool.true_or, Bool.or_false, Bool.false_or, Bool.not_true, Bool.not_false, if_true, if_false, ite_true, ite_false, Bool.false_eq_true, not_true_eq_false, not_false_eq_true, bI_t, bI_f, decide_eq_true_eq, reduceCtorEq]; done) | (simp [myF, myS, myX, rem, c_8, c_18, c_27, c_82, c_106, c_133]; done) | contradiction | simp_all) (by first | (simp only [myF, myS, myX, rem, c_8, c_18, c_27, c_82, c_106, c_133, decide_true, decide_false, Bool.and_true, Bool.true_and, Bool.and_false, Bool.false_and, Bool.or_true, Bool.true_or, Bool.or_false, Bool.false_or, Bool.not_true, Bool.not_false, if_true, if_false, ite_true, ite_false, Bool.false_eq_true, not_true_eq_false, not_false_eq_true, bI_t, bI_f, decide_eq_true_eq, reduceCtorEq]; done) | (simp [myF, myS, myX, rem, c_8, c_18, c_27, c_82, c_106, c_133]; done) | contradiction | simp_all) (nI_1 n43)
              · refine zw_aload_0 X dX8_year_136 ?_
                refine zw_iload_7 X dX8_year_137 ?_
                refine zw_cV_iv X dX8_year_139 lk_X8_141 ok_MX8_cough vi_MX8_cough rm_X8_year_X8_cough sh_42 rfl (Nat.le_of_ble_eq_true rfl) (t_X8_cough (my_in c_8 ha43)) ?_
                refine zw_iinc_5_p1 X dX8_year_142 ?_
                refine zw_goto (tgt := 43) X dX8_year_145 (by decide) ?_
                refine zw_fg_6 ?_
                refine zw_fg_7 ?_
                exact ih43 _ _ _ (by first | (simp only [myF, myS, myX, rem, c_8, c_18, c_27, c_82, c_106, c_133, decide_true, decide_false, Bool.and_true, Bool.true_and, Bool.and_false, Bool.false_and, Bool.or_true, Bool.true_or, Bool.or_false, Bool.false_or, Bool.not_true, Bool.not_false, if_true, if_false, ite_true, ite_false, Bool.false_eq_true, not_true_eq_false, not_false_eq_true, bI_t, bI_f, decide_eq_true_eq, reduceCtorEq]; done) | (simp [myF, myS, myX, rem, c_8, c_18, c_27, c_82, c_106, c_133]; done) | contradiction | simp_all) (by first | (simp only [myF, myS, myX, rem, c_8, c_18, c_27, c_82, c_106, c_133, decide_true, decide_false, Bool.and_true, Bool.true_and, Bool.and_false, Bool.false_and, Bool.or_true, Bool.true_or, Bool.or_false, Bool.false_or, Bool.not_true, Bool.not_false, if_true, if_false, ite_true, ite_false, Bool.false_eq_true, not_true_eq_false, not_false_eq_true, bI_t, bI_f, decide_eq_true_eq, reduceCtorEq]; done) | (simp [myF, myS, myX, rem, c_8, c_18, c_27, c_82, c_106, c_133]; done) | contradiction | simp_all) (nI_1 n43)
            · refine zw_aload_0 X dX8_year_109 ?_
              refine zw_getR X dX8_year_110 fl_X8_41 ck_X8 sh_42 rfl ?_
              refine zw_iload_7 X dX8_year_113 ?_
              refine zw_iload_4 X dX8_year_115 ?_
              refine zw_bipush (v := 64) X dX8_year_117 bk_64 ?_
              refine zw_idiv X dX8_year_119 (by decide) ?_
              refine zw_bipush (v := 20) X dX8_year_120 bk_20 ?_
              refine zw_irem X dX8_year_122 (by decide) ?_
              refine zw_iast X dX8_year_123 sh_51 (my_in c_8 ha43) ?_
              refine zw_goto (tgt := 142) X dX8_year_124 (by decide) ?_
              refine zw_iinc_5_p1 X dX8_year_142 ?_
              refine zw_goto (tgt := 43) X dX8_year_145 (by decide) ?_
              refine zw_fg_6 ?_
              refine zw_fg_7 ?_
              exact ih43 _ _ _ (by first | (simp only [myF, myS, myX, rem, c_8, c_18, c_27, c_82, c_106, decide_true, decide_false, Bool.and_true, Bool.true_and, Bool.and_false, Bool.false_and, Bool.or_true, Bool.true_or, Bool.or_false, Bool.false_or, Bool.not_true, Bool.not_false, if_true, if_false, ite_true, ite_false, Bool.false_eq_true, not_true_eq_false, not_false_eq_true, bI_t, bI_f, decide_eq_true_eq, reduceCtorEq]; done) | (simp [myF, myS, myX, rem, c_8, c_18, c_27, c_82, c_106]; done) | contradiction | simp_all) (by first | (simp only [myF, myS, myX, rem, c_8, c_18, c_27, c_82, c_106, decide_true, decide_false, Bool.and_true, Bool.true_and, Bool.and_false, Bool.false_and, Bool.or_true, Bool.true_or, Bool.or_false, Bool.false_or, Bool.not_true, Bool.not_false, if_true, if_false, ite_true, ite_false, Bool.false_eq_true, not_true_eq_false, not_false_eq_true, bI_t, bI_f, decide_eq_true_eq, reduceCtorEq]; done) | (simp [myF, myS, myX, rem, c_8, c_18, c_27, c_82, c_106]; done) | contradiction | simp_all) (nI_1 n43)
          · refine zw_aload_0 X dX8_year_85 ?_
            refine zw_getI X dX8_year_86 fl_X8_98 ck_X8 sh_42 rfl ?_
            refine zw_aload_0 X dX8_year_89 ?_
            refine zw_getI X dX8_year_90 fl_X8_7 ck_X8 sh_42 rfl ?_
            refine zw_icmpge (tgt := 142) X dX8_year_93 (by decide) (fun c_93 => ?_) (fun c_93 => ?_)
            · refine zw_iinc_5_p1 X dX8_year_142 ?_
              refine zw_goto (tgt := 43) X dX8_year_145 (by decide) ?_
              refine zw_fg_6 ?_
              refine zw_fg_7 ?_
              exact ih43 _ _ _ (by first | (simp only [myF, myS, myX, rem, c_8, c_18, c_27, c_82, c_93, decide_true, decide_false, Bool.and_true, Bool.true_and, Bool.and_false, Bool.false_and, Bool.or_true, Bool.true_or, Bool.or_false, Bool.false_or, Bool.not_true, Bool.not_false, if_true, if_false, ite_true, ite_false, Bool.false_eq_true, not_true_eq_false, not_false_eq_true, bI_t, bI_f, decide_eq_true_eq, reduceCtorEq]; done) | (simp [myF, myS, myX, rem, c_8, c_18, c_27, c_82, c_93]; done) | contradiction | simp_all) (by first | (simp only [myF, myS, myX, rem, c_8, c_18, c_27, c_82, c_93, decide_true, decide_false, Bool.and_true, Bool.true_and, Bool.and_false, Bool.false_and, Bool.or_true, Bool.true_or, Bool.or_false, Bool.false_or, Bool.not_true, Bool.not_false, if_true, if_false, ite_true, ite_false, Bool.false_eq_true, not_true_eq_false, not_false_eq_true, bI_t, bI_f, decide_eq_true_eq, reduceCtorEq]; done) | (simp [myF, myS, myX, rem, c_8, c_18, c_27, c_82, c_93]; done) | contradiction | simp_all) (nI_1 n43)
            · refine zw_aload_0 X dX8_year_96 ?_
              refine zw_cV_nv X dX8_year_97 lk_X8_134 ok_MX8_pass vi_MX8_pass rm_X8_year_X8_pass sh_42 rfl (Nat.le_of_ble_eq_true rfl) t_X8_pass ?_
              refine zw_goto (tgt := 142) X dX8_year_100 (by decide) ?_
              refine zw_iinc_5_p1 X dX8_year_142 ?_
              refine zw_goto (tgt := 43) X dX8_year_145 (by decide) ?_
              refine zw_fg_6 ?_
              refine zw_fg_7 ?_
              exact ih43 _ _ _ (by first | (simp only [myF, myS, myX, rem, c_8, c_18, c_27, c_82, c_93, decide_true, decide_false, Bool.and_true, Bool.true_and, Bool.and_false, Bool.false_and, Bool.or_true, Bool.true_or, Bool.or_false, Bool.false_or, Bool.not_true, Bool.not_false, if_true, if_false, ite_true, ite_false, Bool.false_eq_true, not_true_eq_false, not_false_eq_true, bI_t, bI_f, decide_eq_true_eq, reduceCtorEq]; done) | (simp [myF, myS, myX, rem, c_8, c_18, c_27, c_82, c_93]; done) | contradiction | simp_all) (by first | (simp only [myF, myS, myX, rem, c_8, c_18, c_27, c_82, c_93, decide_true, decide_false, Bool.and_true, Bool.true_and, Bool.and_false, Bool.false_and, Bool.or_true, Bool.true_or, Bool.or_false, Bool.false_or, Bool.not_true, Bool.not_false, if_true, if_false, ite_true, ite_false, Bool.false_eq_true, not_true_eq_false, not_false_eq_true, bI_t, bI_f, decide_eq_true_eq, reduceCtorEq]; done) | (simp [myF, myS, myX, rem, c_8, c_18, c_27, c_82, c_93]; done) | contradiction | simp_all) (nI_1 n43)
        · subst hv43_4 hs43 hv43_5
          refine zw_iload_5 X dX8_year_43 ?_
          refine zw_iload_2 X dX8_year_45 ?_
          refine zw_icmpge_t (tgt := 148) X dX8_year_46 (by decide) (fun h => Nat.lt_irrefl _ ((clN_lt (Nat.le_refl _)).mp h)) ?_
          refine zw_iload_3 X dX8_year_148 ?_
          refine zw_ifne (tgt := 164) X dX8_year_149 (by decide) (fun c_149 => ?_) (fun c_149 => ?_)
          · refine zw_iload_3 X dX8_year_164 ?_
            refine zw_iconst (v := 1) X dX8_year_165 ik_1 ?_
            refine zw_icmpne (tgt := 176) X dX8_year_166 (by decide) (fun c_166 => ?_) (fun c_166 => ?_)
            · refine zw_aload_0 X dX8_year_176 ?_
              refine zw_getI X dX8_year_177 fl_X8_98 ck_X8 sh_42 rfl ?_
              exact zw_iret X F dX8_year_180 rfl (by first | (simp only [Y_year, myA, ← ha43, c_8, c_18, c_27, c_149, c_166, decide_true, decide_false, Bool.and_true, Bool.true_and, Bool.and_false, Bool.false_and, Bool.or_true, Bool.true_or, Bool.or_false, Bool.false_or, Bool.not_true, Bool.not_false, if_true, if_false, ite_true, ite_false, Bool.false_eq_true, not_true_eq_false, not_false_eq_true, bI_t, bI_f, decide_eq_true_eq, reduceCtorEq]; done) | (simp [Y_year, myA, ← ha43, c_8, c_18, c_27, c_149, c_166]; done) | contradiction | simp_all) (by first | (simp only [Y_year, myA, ← ha43, c_8, c_18, c_27, c_149, c_166, decide_true, decide_false, Bool.and_true, Bool.true_and, Bool.and_false, Bool.false_and, Bool.or_true, Bool.true_or, Bool.or_false, Bool.false_or, Bool.not_true, Bool.not_false, if_true, if_false, ite_true, ite_false, Bool.false_eq_true, not_true_eq_false, not_false_eq_true, bI_t, bI_f, decide_eq_true_eq, reduceCtorEq]; done) | (simp [Y_year, myA, ← ha43, c_8, c_18, c_27, c_149, c_166]; done) | contradiction | simp_all)
            · refine zw_aload_0 X dX8_year_169 ?_
              refine zw_getI X dX8_year_170 fl_X8_107 ck_X8 sh_42 rfl ?_
              refine zw_goto (tgt := 180) X dX8_year_173 (by decide) ?_
              exact zw_iret X F dX8_year_180 rfl (by first | (simp only [Y_year, myA, ← ha43, c_8, c_18, c_27, c_149, eq_true c_166, decide_true, decide_false, Bool.and_true, Bool.true_and, Bool.and_false, Bool.false_and, Bool.or_true, Bool.true_or, Bool.or_false, Bool.false_or, Bool.not_true, Bool.not_false, if_true, if_false, ite_true, ite_false, Bool.false_eq_true, not_true_eq_false, not_false_eq_true, bI_t, bI_f, decide_eq_true_eq, reduceCtorEq]; done) | (simp [Y_year, myA, ← ha43, c_8, c_18, c_27, c_149, eq_true c_166]; done) | contradiction | simp_all) (by first | (simp only [Y_year, myA, ← ha43, c_8, c_18, c_27, c_149, eq_true c_166, decide_true, decide_false, Bool.and_true, Bool.true_and, Bool.and_false, Bool.false_and, Bool.or_true, Bool.true_or, Bool.or_false, Bool.false_or, Bool.not_true, Bool.not_false, if_true, if_false, ite_true, ite_false, Bool.false_eq_true, not_true_eq_false, not_false_eq_true, bI_t, bI_f, decide_eq_true_eq, reduceCtorEq]; done) | (simp [Y_year, myA, ← ha43, c_8, c_18, c_27, c_149, eq_true c_166]; done) | contradiction | simp_all)
          · refine zw_aload_0 X dX8_year_152 ?_
            refine zw_getI X dX8_year_153 fl_X8_104 ck_X8 sh_42 rfl ?_
            refine zw_aload_0 X dX8_year_156 ?_
            refine zw_getI X dX8_year_157 fl_X8_101 ck_X8 sh_42 rfl ?_
            refine zw_isub X dX8_year_160 ?_
            refine zw_goto (tgt := 180) X dX8_year_161 (by decide) ?_
            exact zw_iret X F dX8_year_180 rfl (by first | (simp only [Y_year, myA, ← ha43, c_8, c_18, c_27, eq_true c_149, decide_true, decide_false, Bool.and_true, Bool.true_and, Bool.and_false, Bool.false_and, Bool.or_true, Bool.true_or, Bool.or_false, Bool.false_or, Bool.not_true, Bool.not_false, if_true, if_false, ite_true, ite_false, Bool.false_eq_true, not_true_eq_false, not_false_eq_true, bI_t, bI_f, decide_eq_true_eq, reduceCtorEq]; done) | (simp [Y_year, myA, ← ha43, c_8, c_18, c_27, eq_true c_149]; done) | contradiction | simp_all) (by first | (simp only [Y_year, myA, ← ha43, c_8, c_18, c_27, eq_true c_149, decide_true, decide_false, Bool.and_true, Bool.true_and, Bool.and_false, Bool.false_and, Bool.or_true, Bool.true_or, Bool.or_false, Bool.false_or, Bool.not_true, Bool.not_false, if_true, if_false, ite_true, ite_false, Bool.false_eq_true, not_true_eq_false, not_false_eq_true, bI_t, bI_f, decide_eq_true_eq, reduceCtorEq]; done) | (simp [Y_year, myA, ← ha43, c_8, c_18, c_27, eq_true c_149]; done) | contradiction | simp_all)
      · refine zw_bipush (v := -2) X dX8_year_30 bk_m2 ?_
        exact zw_iret X F dX8_year_32 rfl (by first | (simp only [Y_year, c_8, c_18, c_27, decide_true, decide_false, Bool.and_true, Bool.true_and, Bool.and_false, Bool.false_and, Bool.or_true, Bool.true_or, Bool.or_false, Bool.false_or, Bool.not_true, Bool.not_false, if_true, if_false, ite_true, ite_false, Bool.false_eq_true, not_true_eq_false, not_false_eq_true, bI_t, bI_f, decide_eq_true_eq, reduceCtorEq]; done) | (simp [Y_year, c_8, c_18, c_27]; done) | contradiction | simp_all) (by first | (simp only [Y_year, c_8, c_18, c_27, decide_true, decide_false, Bool.and_true, Bool.true_and, Bool.and_false, Bool.false_and, Bool.or_true, Bool.true_or, Bool.or_false, Bool.false_or, Bool.not_true, Bool.not_false, if_true, if_false, ite_true, ite_false, Bool.false_eq_true, not_true_eq_false, not_false_eq_true, bI_t, bI_f, decide_eq_true_eq, reduceCtorEq]; done) | (simp [Y_year, c_8, c_18, c_27]; done) | contradiction | simp_all)
set_option maxRecDepth 20000 in
set_option maxHeartbeats 1000000 in
theorem t_X8_image {σ : St} {n : Int32} : Ct MX8_image [.ref 42, .int n] σ (some (.int (Y_img σ n).1)) ((Y_img σ n).2) := by
  refine ct_of (ls0 := [some (.ref 42), some (.int n), none, none]) ok_MX8_image rfl (Nat.le_of_ble_eq_true rfl) rfl ?_
  intro g X F
  refine zw_iload_1 X dX8_image_0 ?_
  refine zw_iconst (v := 0) X dX8_image_1 ik_0 ?_
  refine zw_iconst (v := 1) X dX8_image_2 ik_1 ?_
  refine zw_cS_iiii X dX8_image_3 lk_X8_60 ok_MX8_in st_MX8_in rm_X8_image_X8_in (Nat.le_of_ble_eq_true rfl) t_X8_in ?_
  refine zw_ifneB (tgt := 12) X dX8_image_6 (by decide) (fun c_6 => ?_) (fun c_6 => ?_)
  · refine zw_bipush (v := 70) X dX8_image_12 bk_70 ?_
    refine zw_iload_1 X dX8_image_14 ?_
    refine zw_imul X dX8_image_15 ?_
    refine zw_istore_2 X dX8_image_16 ?_
    refine zw_iconst (v := 0) X dX8_image_17 ik_0 ?_
    refine zw_istore_3 X dX8_image_18 ?_
    refine zloop (α := St) (S := fun zn za => ∀ (s19 : St) (v19_3 : Int32), za = s19 → v19_3 = nI zn → ZW g 19 [some (.ref 42), some (.int n), some (.int (70 * n)), some (.int v19_3)] [] s19) (N := 6) (f := (im6 n)) (a0 := σ) (fun n19 a19 hn19 ha19 ih19 s19 v19_3 hs19 hv19_3 => ?_) (fun a19 ha19 s19 v19_3 hs19 hv19_3 => ?_) _ _ rfl rfl
    · subst hs19 hv19_3
      refine zw_iload_3 X dX8_image_19 ?_
      refine zw_bipush (v := 6) X dX8_image_20 bk_6 ?_
      refine zw_icmpge_f (tgt := 113) X dX8_image_22 (by decide) (nI_lt hn19 (by decide)) ?_
      refine zw_aload_0 X dX8_image_25 ?_
      refine zw_getR X dX8_image_26 fl_X8_53 ck_X8 sh_42 rfl ?_
      refine zw_iload_2 X dX8_image_29 ?_
      refine zw_iload_3 X dX8_image_30 ?_
      refine zw_iadd X dX8_image_31 ?_
      refine zw_aload_0 X dX8_image_32 ?_
      refine zw_getR X dX8_image_33 fl_X8_13 ck_X8 sh_42 rfl ?_
      refine zw_iload_3 X dX8_image_36 ?_
      refine zw_ialdN X dX8_image_37 sh_43 hn19 (by decide) ?_
      refine zw_iast X dX8_image_38 sh_55 (im_in c_6 (c := n19) (by omega)) ?_
      refine zw_aload_0 X dX8_image_39 ?_
      refine zw_getR X dX8_image_40 fl_X8_53 ck_X8 sh_42 rfl ?_
      refine zw_iload_2 X dX8_image_43 ?_
      refine zw_bipush (v := 6) X dX8_image_44 bk_6 ?_
      refine zw_iadd X dX8_image_46 ?_
      refine zw_iload_3 X dX8_image_47 ?_
      refine zw_iadd X dX8_image_48 ?_
      refine zw_aload_0 X dX8_image_49 ?_
      refine zw_getR X dX8_image_50 fl_X8_17 ck_X8 sh_42 rfl ?_
      refine zw_iload_3 X dX8_image_53 ?_
      refine zw_ialdN X dX8_image_54 sh_44 hn19 (by decide) ?_
      refine zw_iast X dX8_image_55 sh_55 (im_in2 c_6 (b := 6) (c := n19) (by omega)) ?_
      refine zw_aload_0 X dX8_image_56 ?_
      refine zw_getR X dX8_image_57 fl_X8_53 ck_X8 sh_42 rfl ?_
      refine zw_iload_2 X dX8_image_60 ?_
      refine zw_bipush (v := 12) X dX8_image_61 bk_12 ?_
      refine zw_iadd X dX8_image_63 ?_
      refine zw_iload_3 X dX8_image_64 ?_
      refine zw_iadd X dX8_image_65 ?_
      refine zw_aload_0 X dX8_image_66 ?_
      refine zw_getR X dX8_image_67 fl_X8_20 ck_X8 sh_42 rfl ?_
      refine zw_iload_3 X dX8_image_70 ?_
      refine zw_ialdN X dX8_image_71 sh_45 hn19 (by decide) ?_
      refine zw_iast X dX8_image_72 sh_55 (im_in2 c_6 (b := 12) (c := n19) (by omega)) ?_
      refine zw_aload_0 X dX8_image_73 ?_
      refine zw_getR X dX8_image_74 fl_X8_53 ck_X8 sh_42 rfl ?_
      refine zw_iload_2 X dX8_image_77 ?_
      refine zw_bipush (v := 18) X dX8_image_78 bk_18 ?_
      refine zw_iadd X dX8_image_80 ?_
      refine zw_iload_3 X dX8_image_81 ?_
      refine zw_iadd X dX8_image_82 ?_
      refine zw_aload_0 X dX8_image_83 ?_
      refine zw_getR X dX8_image_84 fl_X8_23 ck_X8 sh_42 rfl ?_
      refine zw_iload_3 X dX8_image_87 ?_
      refine zw_ialdN X dX8_image_88 sh_46 hn19 (by decide) ?_
      refine zw_iast X dX8_image_89 sh_55 (im_in2 c_6 (b := 18) (c := n19) (by omega)) ?_
      refine zw_aload_0 X dX8_image_90 ?_
      refine zw_getR X dX8_image_91 fl_X8_53 ck_X8 sh_42 rfl ?_
      refine zw_iload_2 X dX8_image_94 ?_
      refine zw_bipush (v := 24) X dX8_image_95 bk_24 ?_
      refine zw_iadd X dX8_image_97 ?_
      refine zw_iload_3 X dX8_image_98 ?_
      refine zw_iadd X dX8_image_99 ?_
      refine zw_aload_0 X dX8_image_100 ?_
      refine zw_getR X dX8_image_101 fl_X8_26 ck_X8 sh_42 rfl ?_
      refine zw_iload_3 X dX8_image_104 ?_
      refine zw_ialdN X dX8_image_105 sh_47 hn19 (by decide) ?_
      refine zw_iast X dX8_image_106 sh_55 (im_in2 c_6 (b := 24) (c := n19) (by omega)) ?_
      refine zw_iinc_3_p1 X dX8_image_107 ?_
      refine zw_goto (tgt := 19) X dX8_image_110 (by decide) ?_
      exact ih19 _ _ (by first | (simp only [im6, imP, c_6, decide_true, decide_false, Bool.and_true, Bool.true_and, Bool.and_false, Bool.false_and, Bool.or_true, Bool.true_or, Bool.or_false, Bool.false_or, Bool.not_true, Bool.not_false, if_true, if_false, ite_true, ite_false, Bool.false_eq_true, not_true_eq_false, not_false_eq_true, bI_t, bI_f, decide_eq_true_eq, reduceCtorEq]; done) | (simp [im6, imP, c_6]; done) | contradiction | simp_all) (nI_1 n19)
    · subst hs19 hv19_3
      refine zw_iload_3 X dX8_image_19 ?_
      refine zw_bipush (v := 6) X dX8_image_20 bk_6 ?_
      refine zw_icmpge_t (tgt := 113) X dX8_image_22 (by decide) (by decide) ?_
      refine zw_iconst (v := 0) X dX8_image_113 ik_0 ?_
      refine zw_istore_3 X dX8_image_114 ?_
      refine zloop (α := St) (S := fun zn za => ∀ (s115 : St) (v115_3 : Int32), za = s115 → v115_3 = nI zn → ZW g 115 [some (.ref 42), some (.int n), some (.int (70 * n)), some (.int v115_3)] [] s115) (N := 16) (f := (im16 n)) (a0 := (itr (im6 n) 6 σ)) (fun n115 a115 hn115 ha115 ih115 s115 v115_3 hs115 hv115_3 => ?_) (fun a115 ha115 s115 v115_3 hs115 hv115_3 => ?_) _ _ ha19.symm rfl
      · subst hs115 hv115_3
        refine zw_iload_3 X dX8_image_115 ?_
        refine zw_bipush (v := 16) X dX8_image_116 bk_16 ?_
        refine zw_icmpge_f (tgt := 144) X dX8_image_118 (by decide) (nI_lt hn115 (by decide)) ?_
        refine zw_aload_0 X dX8_image_121 ?_
        refine zw_getR X dX8_image_122 fl_X8_53 ck_X8 sh_42 rfl ?_
        refine zw_iload_2 X dX8_image_125 ?_
        refine zw_bipush (v := 30) X dX8_image_126 bk_30 ?_
        refine zw_iadd X dX8_image_128 ?_
        refine zw_iload_3 X dX8_image_129 ?_
        refine zw_iadd X dX8_image_130 ?_
        refine zw_aload_0 X dX8_image_131 ?_
        refine zw_getR X dX8_image_132 fl_X8_32 ck_X8 sh_42 rfl ?_
        refine zw_iload_3 X dX8_image_135 ?_
        refine zw_ialdN X dX8_image_136 sh_48 hn115 (by decide) ?_
        refine zw_iast X dX8_image_137 sh_55 (im_in2 c_6 (b := 30) (c := n115) (by omega)) ?_
        refine zw_iinc_3_p1 X dX8_image_138 ?_
        refine zw_goto (tgt := 115) X dX8_image_141 (by decide) ?_
        exact ih115 _ _ (by first | (simp only [im16, imP, c_6, decide_true, decide_false, Bool.and_true, Bool.true_and, Bool.and_false, Bool.false_and, Bool.or_true, Bool.true_or, Bool.or_false, Bool.false_or, Bool.not_true, Bool.not_false, if_true, if_false, ite_true, ite_false, Bool.false_eq_true, not_true_eq_false, not_false_eq_true, bI_t, bI_f, decide_eq_true_eq, reduceCtorEq]; done) | (simp [im16, imP, c_6]; done) | contradiction | simp_all) (nI_1 n115)
      · subst hs115 hv115_3
        refine zw_iload_3 X dX8_image_115 ?_
        refine zw_bipush (v := 16) X dX8_image_116 bk_16 ?_
        refine zw_icmpge_t (tgt := 144) X dX8_image_118 (by decide) (by decide) ?_
        refine zw_aload_0 X dX8_image_144 ?_
        refine zw_getR X dX8_image_145 fl_X8_53 ck_X8 sh_42 rfl ?_
        refine zw_iload_2 X dX8_image_148 ?_
        refine zw_bipush (v := 50) X dX8_image_149 bk_50 ?_
        refine zw_iadd X dX8_image_151 ?_
        refine zw_aload_0 X dX8_image_152 ?_
        refine zw_getI X dX8_image_153 fl_X8_7 ck_X8 sh_42 rfl ?_
        refine zw_iast X dX8_image_156 sh_55 (im_in c_6 (c := 50) (by decide)) ?_
        refine zw_aload_0 X dX8_image_157 ?_
        refine zw_getR X dX8_image_158 fl_X8_53 ck_X8 sh_42 rfl ?_
        refine zw_iload_2 X dX8_image_161 ?_
        refine zw_bipush (v := 51) X dX8_image_162 bk_51 ?_
        refine zw_iadd X dX8_image_164 ?_
        refine zw_aload_0 X dX8_image_165 ?_
        refine zw_getI X dX8_image_166 fl_X8_67 ck_X8 sh_42 rfl ?_
        refine zw_iast X dX8_image_169 sh_55 (im_in c_6 (c := 51) (by decide)) ?_
        refine zw_aload_0 X dX8_image_170 ?_
        refine zw_getR X dX8_image_171 fl_X8_53 ck_X8 sh_42 rfl ?_
        refine zw_iload_2 X dX8_image_174 ?_
        refine zw_bipush (v := 52) X dX8_image_175 bk_52 ?_
        refine zw_iadd X dX8_image_177 ?_
        refine zw_aload_0 X dX8_image_178 ?_
        refine zw_getI X dX8_image_179 fl_X8_29 ck_X8 sh_42 rfl ?_
        refine zw_iast X dX8_image_182 sh_55 (im_in c_6 (c := 52) (by decide)) ?_
        refine zw_aload_0 X dX8_image_183 ?_
        refine zw_getR X dX8_image_184 fl_X8_53 ck_X8 sh_42 rfl ?_
        refine zw_iload_2 X dX8_image_187 ?_
        refine zw_bipush (v := 53) X dX8_image_188 bk_53 ?_
        refine zw_iadd X dX8_image_190 ?_
        refine zw_aload_0 X dX8_image_191 ?_
        refine zw_getI X dX8_image_192 fl_X8_64 ck_X8 sh_42 rfl ?_
        refine zw_iast X dX8_image_195 sh_55 (im_in c_6 (c := 53) (by decide)) ?_
        refine zw_aload_0 X dX8_image_196 ?_
        refine zw_getR X dX8_image_197 fl_X8_53 ck_X8 sh_42 rfl ?_
        refine zw_iload_2 X dX8_image_200 ?_
        refine zw_bipush (v := 54) X dX8_image_201 bk_54 ?_
        refine zw_iadd X dX8_image_203 ?_
        refine zw_aload_0 X dX8_image_204 ?_
        refine zw_getI X dX8_image_205 fl_X8_101 ck_X8 sh_42 rfl ?_
        refine zw_iast X dX8_image_208 sh_55 (im_in c_6 (c := 54) (by decide)) ?_
        refine zw_aload_0 X dX8_image_209 ?_
        refine zw_getR X dX8_image_210 fl_X8_53 ck_X8 sh_42 rfl ?_
        refine zw_iload_2 X dX8_image_213 ?_
        refine zw_bipush (v := 55) X dX8_image_214 bk_55 ?_
        refine zw_iadd X dX8_image_216 ?_
        refine zw_aload_0 X dX8_image_217 ?_
        refine zw_getI X dX8_image_218 fl_X8_167 ck_X8 sh_42 rfl ?_
        refine zw_iast X dX8_image_221 sh_55 (im_in c_6 (c := 55) (by decide)) ?_
        refine zw_aload_0 X dX8_image_222 ?_
        refine zw_getR X dX8_image_223 fl_X8_56 ck_X8 sh_42 rfl ?_
        refine zw_iload_1 X dX8_image_226 ?_
        refine zw_iconst (v := 1) X dX8_image_227 ik_1 ?_
        refine zw_zast X dX8_image_228 sh_56 (im_in3 c_6) (by decide) ?_
        refine zw_iconst (v := 1) X dX8_image_229 ik_1 ?_
        exact zw_iret X F dX8_image_230 rfl (by first | (simp only [Y_img, c_6, decide_true, decide_false, Bool.and_true, Bool.true_and, Bool.and_false, Bool.false_and, Bool.or_true, Bool.true_or, Bool.or_false, Bool.false_or, Bool.not_true, Bool.not_false, if_true, if_false, ite_true, ite_false, Bool.false_eq_true, not_true_eq_false, not_false_eq_true, bI_t, bI_f, decide_eq_true_eq, reduceCtorEq]; done) | (simp [Y_img, c_6]; done) | contradiction | simp_all) (by first | (simp only [Y_img, imA, imP, ← ha115, c_6, decide_true, decide_false, Bool.and_true, Bool.true_and, Bool.and_false, Bool.false_and, Bool.or_true, Bool.true_or, Bool.or_false, Bool.false_or, Bool.not_true, Bool.not_false, if_true, if_false, ite_true, ite_false, Bool.false_eq_true, not_true_eq_false, not_false_eq_true, bI_t, bI_f, decide_eq_true_eq, reduceCtorEq]; done) | (simp [Y_img, imA, imP, ← ha115, c_6]; done) | contradiction | simp_all)
  · refine zw_bipush (v := -2) X dX8_image_9 bk_m2 ?_
    exact zw_iret X F dX8_image_11 rfl (by first | (simp only [Y_img, c_6, decide_true, decide_false, Bool.and_true, Bool.true_and, Bool.and_false, Bool.false_and, Bool.or_true, Bool.true_or, Bool.or_false, Bool.false_or, Bool.not_true, Bool.not_false, if_true, if_false, ite_true, ite_false, Bool.false_eq_true, not_true_eq_false, not_false_eq_true, bI_t, bI_f, decide_eq_true_eq, reduceCtorEq]; done) | (simp [Y_img, c_6]; done) | contradiction | simp_all) (by first | (simp only [Y_img, c_6, decide_true, decide_false, Bool.and_true, Bool.true_and, Bool.and_false, Bool.false_and, Bool.or_true, Bool.true_or, Bool.or_false, Bool.false_or, Bool.not_true, Bool.not_false, if_true, if_false, ite_true, ite_false, Bool.false_eq_true, not_true_eq_false, not_false_eq_true, bI_t, bI_f, decide_eq_true_eq, reduceCtorEq]; done) | (simp [Y_img, c_6]; done) | contradiction | simp_all)
set_option maxRecDepth 20000 in
set_option maxHeartbeats 1000000 in
theorem t_X8_restore {σ : St} {n : Int32} : Ct MX8_restore [.ref 42, .int n] σ (some (.int (Y_rest σ n).1)) ((Y_rest σ n).2) := by
  refine ct_of (ls0 := [some (.ref 42), some (.int n), none, none]) ok_MX8_restore rfl (Nat.le_of_ble_eq_true rfl) rfl ?_
  intro g X F
  refine zw_iload_1 X dX8_restore_0 ?_
  refine zw_iconst (v := 0) X dX8_restore_1 ik_0 ?_
  refine zw_iconst (v := 1) X dX8_restore_2 ik_1 ?_
  refine zw_cS_iiii X dX8_restore_3 lk_X8_60 ok_MX8_in st_MX8_in rm_X8_restore_X8_in (Nat.le_of_ble_eq_true rfl) t_X8_in ?_
  refine zw_ifneB (tgt := 12) X dX8_restore_6 (by decide) (fun c_6 => ?_) (fun c_6 => ?_)
  · refine zw_aload_0 X dX8_restore_12 ?_
    refine zw_getR X dX8_restore_13 fl_X8_56 ck_X8 sh_42 rfl ?_
    refine zw_iload_1 X dX8_restore_16 ?_
    refine zw_zald X dX8_restore_17 sh_56 (im_in3 c_6) ?_
    refine zw_ifne (tgt := 24) X dX8_restore_18 (by decide) (fun c_18 => ?_) (fun c_18 => ?_)
    · refine zw_bipush (v := 70) X dX8_restore_24 bk_70 ?_
      refine zw_iload_1 X dX8_restore_26 ?_
      refine zw_imul X dX8_restore_27 ?_
      refine zw_istore_2 X dX8_restore_28 ?_
      refine zw_iconst (v := 0) X dX8_restore_29 ik_0 ?_
      refine zw_istore_3 X dX8_restore_30 ?_
      refine zloop (α := St) (S := fun zn za => ∀ (s31 : St) (v31_3 : Int32), za = s31 → v31_3 = nI zn → ZW g 31 [some (.ref 42), some (.int n), some (.int (70 * n)), some (.int v31_3)] [] s31) (N := 6) (f := (ir6 n)) (a0 := σ) (fun n31 a31 hn31 ha31 ih31 s31 v31_3 hs31 hv31_3 => ?_) (fun a31 ha31 s31 v31_3 hs31 hv31_3 => ?_) _ _ rfl rfl
      · subst hs31 hv31_3
        refine zw_iload_3 X dX8_restore_31 ?_
        refine zw_bipush (v := 6) X dX8_restore_32 bk_6 ?_
        refine zw_icmpge_f (tgt := 125) X dX8_restore_34 (by decide) (nI_lt hn31 (by decide)) ?_
        refine zw_aload_0 X dX8_restore_37 ?_
        refine zw_getR X dX8_restore_38 fl_X8_13 ck_X8 sh_42 rfl ?_
        refine zw_iload_3 X dX8_restore_41 ?_
        refine zw_aload_0 X dX8_restore_42 ?_
        refine zw_getR X dX8_restore_43 fl_X8_53 ck_X8 sh_42 rfl ?_
        refine zw_iload_2 X dX8_restore_46 ?_
        refine zw_iload_3 X dX8_restore_47 ?_
        refine zw_iadd X dX8_restore_48 ?_
        refine zw_iald X dX8_restore_49 sh_55 (im_in c_6 (c := n31) (by omega)) ?_
        refine zw_iastN X dX8_restore_50 sh_43 hn31 (by decide) ?_
        refine zw_aload_0 X dX8_restore_51 ?_
        refine zw_getR X dX8_restore_52 fl_X8_17 ck_X8 sh_42 rfl ?_
        refine zw_iload_3 X dX8_restore_55 ?_
        refine zw_aload_0 X dX8_restore_56 ?_
        refine zw_getR X dX8_restore_57 fl_X8_53 ck_X8 sh_42 rfl ?_
        refine zw_iload_2 X dX8_restore_60 ?_
        refine zw_bipush (v := 6) X dX8_restore_61 bk_6 ?_
        refine zw_iadd X dX8_restore_63 ?_
        refine zw_iload_3 X dX8_restore_64 ?_
        refine zw_iadd X dX8_restore_65 ?_
        refine zw_iald X dX8_restore_66 sh_55 (im_in2 c_6 (b := 6) (c := n31) (by omega)) ?_
        refine zw_iastN X dX8_restore_67 sh_44 hn31 (by decide) ?_
        refine zw_aload_0 X dX8_restore_68 ?_
        refine zw_getR X dX8_restore_69 fl_X8_20 ck_X8 sh_42 rfl ?_
        refine zw_iload_3 X dX8_restore_72 ?_
        refine zw_aload_0 X dX8_restore_73 ?_
        refine zw_getR X dX8_restore_74 fl_X8_53 ck_X8 sh_42 rfl ?_
        refine zw_iload_2 X dX8_restore_77 ?_
        refine zw_bipush (v := 12) X dX8_restore_78 bk_12 ?_
        refine zw_iadd X dX8_restore_80 ?_
        refine zw_iload_3 X dX8_restore_81 ?_
        refine zw_iadd X dX8_restore_82 ?_
        refine zw_iald X dX8_restore_83 sh_55 (im_in2 c_6 (b := 12) (c := n31) (by omega)) ?_
        refine zw_iastN X dX8_restore_84 sh_45 hn31 (by decide) ?_
        refine zw_aload_0 X dX8_restore_85 ?_
        refine zw_getR X dX8_restore_86 fl_X8_23 ck_X8 sh_42 rfl ?_
        refine zw_iload_3 X dX8_restore_89 ?_
        refine zw_aload_0 X dX8_restore_90 ?_
        refine zw_getR X dX8_restore_91 fl_X8_53 ck_X8 sh_42 rfl ?_
        refine zw_iload_2 X dX8_restore_94 ?_
        refine zw_bipush (v := 18) X dX8_restore_95 bk_18 ?_
        refine zw_iadd X dX8_restore_97 ?_
        refine zw_iload_3 X dX8_restore_98 ?_
        refine zw_iadd X dX8_restore_99 ?_
        refine zw_iald X dX8_restore_100 sh_55 (im_in2 c_6 (b := 18) (c := n31) (by omega)) ?_
        refine zw_iastN X dX8_restore_101 sh_46 hn31 (by decide) ?_
        refine zw_aload_0 X dX8_restore_102 ?_
        refine zw_getR X dX8_restore_103 fl_X8_26 ck_X8 sh_42 rfl ?_
        refine zw_iload_3 X dX8_restore_106 ?_
        refine zw_aload_0 X dX8_restore_107 ?_
        refine zw_getR X dX8_restore_108 fl_X8_53 ck_X8 sh_42 rfl ?_
        refine zw_iload_2 X dX8_restore_111 ?_
        refine zw_bipush (v := 24) X dX8_restore_112 bk_24 ?_
        refine zw_iadd X dX8_restore_114 ?_
        refine zw_iload_3 X dX8_restore_115 ?_
        refine zw_iadd X dX8_restore_116 ?_
        refine zw_iald X dX8_restore_117 sh_55 (im_in2 c_6 (b := 24) (c := n31) (by omega)) ?_
        refine zw_iastN X dX8_restore_118 sh_47 hn31 (by decide) ?_
        refine zw_iinc_3_p1 X dX8_restore_119 ?_
        refine zw_goto (tgt := 31) X dX8_restore_122 (by decide) ?_
        exact ih31 _ _ (by first | (simp only [ir6, irP, c_6, c_18, decide_true, decide_false, Bool.and_true, Bool.true_and, Bool.and_false, Bool.false_and, Bool.or_true, Bool.true_or, Bool.or_false, Bool.false_or, Bool.not_true, Bool.not_false, if_true, if_false, ite_true, ite_false, Bool.false_eq_true, not_true_eq_false, not_false_eq_true, bI_t, bI_f, decide_eq_true_eq, reduceCtorEq]; done) | (simp [ir6, irP, c_6, c_18]; done) | contradiction | simp_all) (nI_1 n31)
      · subst hs31 hv31_3
        refine zw_iload_3 X dX8_restore_31 ?_
        refine zw_bipush (v := 6) X dX8_restore_32 bk_6 ?_
        refine zw_icmpge_t (tgt := 125) X dX8_restore_34 (by decide) (by decide) ?_
        refine zw_iconst (v := 0) X dX8_restore_125 ik_0 ?_
        refine zw_istore_3 X dX8_restore_126 ?_
        refine zloop (α := St) (S := fun zn za => ∀ (s127 : St) (v127_3 : Int32), za = s127 → v127_3 = nI zn → ZW g 127 [some (.ref 42), some (.int n), some (.int (70 * n)), some (.int v127_3)] [] s127) (N := 16) (f := (ir16 n)) (a0 := (itr (ir6 n) 6 σ)) (fun n127 a127 hn127 ha127 ih127 s127 v127_3 hs127 hv127_3 => ?_) (fun a127 ha127 s127 v127_3 hs127 hv127_3 => ?_) _ _ ha31.symm rfl
        · subst hs127 hv127_3
          refine zw_iload_3 X dX8_restore_127 ?_
          refine zw_bipush (v := 16) X dX8_restore_128 bk_16 ?_
          refine zw_icmpge_f (tgt := 156) X dX8_restore_130 (by decide) (nI_lt hn127 (by decide)) ?_
          refine zw_aload_0 X dX8_restore_133 ?_
          refine zw_getR X dX8_restore_134 fl_X8_32 ck_X8 sh_42 rfl ?_
          refine zw_iload_3 X dX8_restore_137 ?_
          refine zw_aload_0 X dX8_restore_138 ?_
          refine zw_getR X dX8_restore_139 fl_X8_53 ck_X8 sh_42 rfl ?_
          refine zw_iload_2 X dX8_restore_142 ?_
          refine zw_bipush (v := 30) X dX8_restore_143 bk_30 ?_
          refine zw_iadd X dX8_restore_145 ?_
          refine zw_iload_3 X dX8_restore_146 ?_
          refine zw_iadd X dX8_restore_147 ?_
          refine zw_iald X dX8_restore_148 sh_55 (im_in2 c_6 (b := 30) (c := n127) (by omega)) ?_
          refine zw_iastN X dX8_restore_149 sh_48 hn127 (by decide) ?_
          refine zw_iinc_3_p1 X dX8_restore_150 ?_
          refine zw_goto (tgt := 127) X dX8_restore_153 (by decide) ?_
          exact ih127 _ _ (by first | (simp only [ir16, irP, c_6, c_18, decide_true, decide_false, Bool.and_true, Bool.true_and, Bool.and_false, Bool.false_and, Bool.or_true, Bool.true_or, Bool.or_false, Bool.false_or, Bool.not_true, Bool.not_false, if_true, if_false, ite_true, ite_false, Bool.false_eq_true, not_true_eq_false, not_false_eq_true, bI_t, bI_f, decide_eq_true_eq, reduceCtorEq]; done) | (simp [ir16, irP, c_6, c_18]; done) | contradiction | simp_all) (nI_1 n127)
        · subst hs127 hv127_3
          refine zw_iload_3 X dX8_restore_127 ?_
          refine zw_bipush (v := 16) X dX8_restore_128 bk_16 ?_
          refine zw_icmpge_t (tgt := 156) X dX8_restore_130 (by decide) (by decide) ?_
          refine zw_aload_0 X dX8_restore_156 ?_
          refine zw_aload_0 X dX8_restore_157 ?_
          refine zw_getR X dX8_restore_158 fl_X8_53 ck_X8 sh_42 rfl ?_
          refine zw_iload_2 X dX8_restore_161 ?_
          refine zw_bipush (v := 50) X dX8_restore_162 bk_50 ?_
          refine zw_iadd X dX8_restore_164 ?_
          refine zw_iald X dX8_restore_165 sh_55 (im_in c_6 (c := 50) (by decide)) ?_
          refine zw_put X dX8_restore_166 fl_X8_7 ck_X8 ft_8_0 sh_42 rfl ?_
          refine zw_aload_0 X dX8_restore_169 ?_
          refine zw_aload_0 X dX8_restore_170 ?_
          refine zw_getR X dX8_restore_171 fl_X8_53 ck_X8 sh_42 rfl ?_
          refine zw_iload_2 X dX8_restore_174 ?_
          refine zw_bipush (v := 51) X dX8_restore_175 bk_51 ?_
          refine zw_iadd X dX8_restore_177 ?_
          refine zw_iald X dX8_restore_178 sh_55 (im_in c_6 (c := 51) (by decide)) ?_
          refine zw_put X dX8_restore_179 fl_X8_67 ck_X8 ft_8_1 sh_42 rfl ?_
          refine zw_aload_0 X dX8_restore_182 ?_
          refine zw_aload_0 X dX8_restore_183 ?_
          refine zw_getR X dX8_restore_184 fl_X8_53 ck_X8 sh_42 rfl ?_
          refine zw_iload_2 X dX8_restore_187 ?_
          refine zw_bipush (v := 52) X dX8_restore_188 bk_52 ?_
          refine zw_iadd X dX8_restore_190 ?_
          refine zw_iald X dX8_restore_191 sh_55 (im_in c_6 (c := 52) (by decide)) ?_
          refine zw_put X dX8_restore_192 fl_X8_29 ck_X8 ft_8_7 sh_42 rfl ?_
          refine zw_aload_0 X dX8_restore_195 ?_
          refine zw_aload_0 X dX8_restore_196 ?_
          refine zw_getR X dX8_restore_197 fl_X8_53 ck_X8 sh_42 rfl ?_
          refine zw_iload_2 X dX8_restore_200 ?_
          refine zw_bipush (v := 53) X dX8_restore_201 bk_53 ?_
          refine zw_iadd X dX8_restore_203 ?_
          refine zw_iald X dX8_restore_204 sh_55 (im_in c_6 (c := 53) (by decide)) ?_
          refine zw_put X dX8_restore_205 fl_X8_64 ck_X8 ft_8_8 sh_42 rfl ?_
          refine zw_aload_0 X dX8_restore_208 ?_
          refine zw_aload_0 X dX8_restore_209 ?_
          refine zw_getR X dX8_restore_210 fl_X8_53 ck_X8 sh_42 rfl ?_
          refine zw_iload_2 X dX8_restore_213 ?_
          refine zw_bipush (v := 54) X dX8_restore_214 bk_54 ?_
          refine zw_iadd X dX8_restore_216 ?_
          refine zw_iald X dX8_restore_217 sh_55 (im_in c_6 (c := 54) (by decide)) ?_
          refine zw_put X dX8_restore_218 fl_X8_101 ck_X8 ft_8_9 sh_42 rfl ?_
          refine zw_aload_0 X dX8_restore_221 ?_
          refine zw_aload_0 X dX8_restore_222 ?_
          refine zw_getR X dX8_restore_223 fl_X8_53 ck_X8 sh_42 rfl ?_
          refine zw_iload_2 X dX8_restore_226 ?_
          refine zw_bipush (v := 55) X dX8_restore_227 bk_55 ?_
          refine zw_iadd X dX8_restore_229 ?_
          refine zw_iald X dX8_restore_230 sh_55 (im_in c_6 (c := 55) (by decide)) ?_
          refine zw_put X dX8_restore_231 fl_X8_167 ck_X8 ft_8_10 sh_42 rfl ?_
          refine zw_iconst (v := 1) X dX8_restore_234 ik_1 ?_
          exact zw_iret X F dX8_restore_235 rfl (by first | (simp only [Y_rest, c_6, c_18, decide_true, decide_false, Bool.and_true, Bool.true_and, Bool.and_false, Bool.false_and, Bool.or_true, Bool.true_or, Bool.or_false, Bool.false_or, Bool.not_true, Bool.not_false, if_true, if_false, ite_true, ite_false, Bool.false_eq_true, not_true_eq_false, not_false_eq_true, bI_t, bI_f, decide_eq_true_eq, reduceCtorEq]; done) | (simp [Y_rest, c_6, c_18]; done) | contradiction | simp_all) (by first | (simp only [Y_rest, irA, irP, ← ha127, c_6, c_18, decide_true, decide_false, Bool.and_true, Bool.true_and, Bool.and_false, Bool.false_and, Bool.or_true, Bool.true_or, Bool.or_false, Bool.false_or, Bool.not_true, Bool.not_false, if_true, if_false, ite_true, ite_false, Bool.false_eq_true, not_true_eq_false, not_false_eq_true, bI_t, bI_f, decide_eq_true_eq, reduceCtorEq]; done) | (simp [Y_rest, irA, irP, ← ha127, c_6, c_18]; done) | contradiction | simp_all)
    · refine zw_bipush (v := -3) X dX8_restore_21 bk_m3 ?_
      exact zw_iret X F dX8_restore_23 rfl (by first | (simp only [Y_rest, c_6, eq_true c_18, decide_true, decide_false, Bool.and_true, Bool.true_and, Bool.and_false, Bool.false_and, Bool.or_true, Bool.true_or, Bool.or_false, Bool.false_or, Bool.not_true, Bool.not_false, if_true, if_false, ite_true, ite_false, Bool.false_eq_true, not_true_eq_false, not_false_eq_true, bI_t, bI_f, decide_eq_true_eq, reduceCtorEq]; done) | (simp [Y_rest, c_6, eq_true c_18]; done) | contradiction | simp_all) (by first | (simp only [Y_rest, c_6, eq_true c_18, decide_true, decide_false, Bool.and_true, Bool.true_and, Bool.and_false, Bool.false_and, Bool.or_true, Bool.true_or, Bool.or_false, Bool.false_or, Bool.not_true, Bool.not_false, if_true, if_false, ite_true, ite_false, Bool.false_eq_true, not_true_eq_false, not_false_eq_true, bI_t, bI_f, decide_eq_true_eq, reduceCtorEq]; done) | (simp [Y_rest, c_6, eq_true c_18]; done) | contradiction | simp_all)
  · refine zw_bipush (v := -2) X dX8_restore_9 bk_m2 ?_
    exact zw_iret X F dX8_restore_11 rfl (by first | (simp only [Y_rest, c_6, decide_true, decide_false, Bool.and_true, Bool.true_and, Bool.and_false, Bool.false_and, Bool.or_true, Bool.true_or, Bool.or_false, Bool.false_or, Bool.not_true, Bool.not_false, if_true, if_false, ite_true, ite_false, Bool.false_eq_true, not_true_eq_false, not_false_eq_true, bI_t, bI_f, decide_eq_true_eq, reduceCtorEq]; done) | (simp [Y_rest, c_6]; done) | contradiction | simp_all) (by first | (simp only [Y_rest, c_6, decide_true, decide_false, Bool.and_true, Bool.true_and, Bool.and_false, Bool.false_and, Bool.or_true, Bool.true_or, Bool.or_false, Bool.false_or, Bool.not_true, Bool.not_false, if_true, if_false, ite_true, ite_false, Bool.false_eq_true, not_true_eq_false, not_false_eq_true, bI_t, bI_f, decide_eq_true_eq, reduceCtorEq]; done) | (simp [Y_rest, c_6]; done) | contradiction | simp_all)
set_option maxRecDepth 20000 in
set_option maxHeartbeats 1000000 in
theorem t_X8_told {σ : St} {w : Int32} : Ct MX8_told [.ref 42, .int w] σ (some (.int ((Y_told σ w).1))) ((Y_told σ w).2) := by
  refine ct_of (ls0 := [some (.ref 42), some (.int w), none]) ok_MX8_told rfl (Nat.le_of_ble_eq_true rfl) rfl ?_
  intro g X F
  refine zw_iload_1 X dX8_told_0 ?_
  refine zw_bipush (v := 10) X dX8_told_1 bk_10 ?_
  refine zw_icmplt (tgt := 104) X dX8_told_3 (by decide) (fun c_3 => ?_) (fun c_3 => ?_)
  · refine zw_iload_1 X dX8_told_104 ?_
    refine zw_tabN 6 X dX8_told_105 (by decide) rfl (fun i hi hx => ?_) (fun hx => ?_)
    · have hi2 : i = 0 ∨ i = 1 ∨ i = 2 ∨ i = 3 ∨ i = 4 ∨ i = 5 := by omega
      rcases hi2 with rfl | rfl | rfl | rfl | rfl | rfl
      · refine ⟨39, 144, rfl, by decide, ?_⟩
        have c_s105 : w = 0 := hx
        refine zw_aload_0 X dX8_told_144 ?_
        refine zw_getI X dX8_told_145 fl_X8_85 ck_X8 sh_42 rfl ?_
        exact zw_iret X F dX8_told_148 rfl (by first | (simp only [Y_told, rem, c_3, eq_true c_s105, c_s105, decide_true, decide_false, Bool.and_true, Bool.true_and, Bool.and_false, Bool.false_and, Bool.or_true, Bool.true_or, Bool.or_false, Bool.false_or, Bool.not_true, Bool.not_false, if_true, if_false, ite_true, ite_false, Bool.false_eq_true, not_true_eq_false, not_false_eq_true, bI_t, bI_f, decide_eq_true_eq, reduceCtorEq]; done) | (simp [Y_told, rem, c_3, eq_true c_s105, c_s105]; done) | contradiction | simp_all) (by first | (simp only [Y_told, c_3, eq_true c_s105, c_s105, decide_true, decide_false, Bool.and_true, Bool.true_and, Bool.and_false, Bool.false_and, Bool.or_true, Bool.true_or, Bool.or_false, Bool.false_or, Bool.not_true, Bool.not_false, if_true, if_false, ite_true, ite_false, Bool.false_eq_true, not_true_eq_false, not_false_eq_true, bI_t, bI_f, decide_eq_true_eq, reduceCtorEq]; done) | (simp [Y_told, c_3, eq_true c_s105, c_s105]; done) | contradiction | simp_all)
      · refine ⟨44, 149, rfl, by decide, ?_⟩
        have c_s105 : w = 1 := hx
        refine zw_aload_0 X dX8_told_149 ?_
        refine zw_getI X dX8_told_150 fl_X8_7 ck_X8 sh_42 rfl ?_
        exact zw_iret X F dX8_told_153 rfl (by first | (simp only [Y_told, rem, c_3, eq_true c_s105, c_s105, decide_true, decide_false, Bool.and_true, Bool.true_and, Bool.and_false, Bool.false_and, Bool.or_true, Bool.true_or, Bool.or_false, Bool.false_or, Bool.not_true, Bool.not_false, if_true, if_false, ite_true, ite_false, Bool.false_eq_true, not_true_eq_false, not_false_eq_true, bI_t, bI_f, decide_eq_true_eq, reduceCtorEq]; done) | (simp [Y_told, rem, c_3, eq_true c_s105, c_s105]; done) | contradiction | simp_all) (by first | (simp only [Y_told, c_3, eq_true c_s105, c_s105, decide_true, decide_false, Bool.and_true, Bool.true_and, Bool.and_false, Bool.false_and, Bool.or_true, Bool.true_or, Bool.or_false, Bool.false_or, Bool.not_true, Bool.not_false, if_true, if_false, ite_true, ite_false, Bool.false_eq_true, not_true_eq_false, not_false_eq_true, bI_t, bI_f, decide_eq_true_eq, reduceCtorEq]; done) | (simp [Y_told, c_3, eq_true c_s105, c_s105]; done) | contradiction | simp_all)
      · refine ⟨49, 154, rfl, by decide, ?_⟩
        have c_s105 : w = 2 := hx
        refine zw_aload_0 X dX8_told_154 ?_
        refine zw_getI X dX8_told_155 fl_X8_64 ck_X8 sh_42 rfl ?_
        exact zw_iret X F dX8_told_158 rfl (by first | (simp only [Y_told, rem, c_3, eq_true c_s105, c_s105, decide_true, decide_false, Bool.and_true, Bool.true_and, Bool.and_false, Bool.false_and, Bool.or_true, Bool.true_or, Bool.or_false, Bool.false_or, Bool.not_true, Bool.not_false, if_true, if_false, ite_true, ite_false, Bool.false_eq_true, not_true_eq_false, not_false_eq_true, bI_t, bI_f, decide_eq_true_eq, reduceCtorEq]; done) | (simp [Y_told, rem, c_3, eq_true c_s105, c_s105]; done) | contradiction | simp_all) (by first | (simp only [Y_told, c_3, eq_true c_s105, c_s105, decide_true, decide_false, Bool.and_true, Bool.true_and, Bool.and_false, Bool.false_and, Bool.or_true, Bool.true_or, Bool.or_false, Bool.false_or, Bool.not_true, Bool.not_false, if_true, if_false, ite_true, ite_false, Bool.false_eq_true, not_true_eq_false, not_false_eq_true, bI_t, bI_f, decide_eq_true_eq, reduceCtorEq]; done) | (simp [Y_told, c_3, eq_true c_s105, c_s105]; done) | contradiction | simp_all)
      · refine ⟨54, 159, rfl, by decide, ?_⟩
        have c_s105 : w = 3 := hx
        refine zw_aload_0 X dX8_told_159 ?_
        refine zw_getI X dX8_told_160 fl_X8_101 ck_X8 sh_42 rfl ?_
        exact zw_iret X F dX8_told_163 rfl (by first | (simp only [Y_told, rem, c_3, eq_true c_s105, c_s105, decide_true, decide_false, Bool.and_true, Bool.true_and, Bool.and_false, Bool.false_and, Bool.or_true, Bool.true_or, Bool.or_false, Bool.false_or, Bool.not_true, Bool.not_false, if_true, if_false, ite_true, ite_false, Bool.false_eq_true, not_true_eq_false, not_false_eq_true, bI_t, bI_f, decide_eq_true_eq, reduceCtorEq]; done) | (simp [Y_told, rem, c_3, eq_true c_s105, c_s105]; done) | contradiction | simp_all) (by first | (simp only [Y_told, c_3, eq_true c_s105, c_s105, decide_true, decide_false, Bool.and_true, Bool.true_and, Bool.and_false, Bool.false_and, Bool.or_true, Bool.true_or, Bool.or_false, Bool.false_or, Bool.not_true, Bool.not_false, if_true, if_false, ite_true, ite_false, Bool.false_eq_true, not_true_eq_false, not_false_eq_true, bI_t, bI_f, decide_eq_true_eq, reduceCtorEq]; done) | (simp [Y_told, c_3, eq_true c_s105, c_s105]; done) | contradiction | simp_all)
      · refine ⟨59, 164, rfl, by decide, ?_⟩
        have c_s105 : w = 4 := hx
        refine zw_aload_0 X dX8_told_164 ?_
        refine zw_getI X dX8_told_165 fl_X8_29 ck_X8 sh_42 rfl ?_
        exact zw_iret X F dX8_told_168 rfl (by first | (simp only [Y_told, rem, c_3, eq_true c_s105, c_s105, decide_true, decide_false, Bool.and_true, Bool.true_and, Bool.and_false, Bool.false_and, Bool.or_true, Bool.true_or, Bool.or_false, Bool.false_or, Bool.not_true, Bool.not_false, if_true, if_false, ite_true, ite_false, Bool.false_eq_true, not_true_eq_false, not_false_eq_true, bI_t, bI_f, decide_eq_true_eq, reduceCtorEq]; done) | (simp [Y_told, rem, c_3, eq_true c_s105, c_s105]; done) | contradiction | simp_all) (by first | (simp only [Y_told, c_3, eq_true c_s105, c_s105, decide_true, decide_false, Bool.and_true, Bool.true_and, Bool.and_false, Bool.false_and, Bool.or_true, Bool.true_or, Bool.or_false, Bool.false_or, Bool.not_true, Bool.not_false, if_true, if_false, ite_true, ite_false, Bool.false_eq_true, not_true_eq_false, not_false_eq_true, bI_t, bI_f, decide_eq_true_eq, reduceCtorEq]; done) | (simp [Y_told, c_3, eq_true c_s105, c_s105]; done) | contradiction | simp_all)
      · refine ⟨64, 169, rfl, by decide, ?_⟩
        have c_s105 : w = 5 := hx
        refine zw_aload_0 X dX8_told_169 ?_
        refine zw_getI X dX8_told_170 fl_X8_167 ck_X8 sh_42 rfl ?_
        exact zw_iret X F dX8_told_173 rfl (by first | (simp only [Y_told, rem, c_3, eq_true c_s105, c_s105, decide_true, decide_false, Bool.and_true, Bool.true_and, Bool.and_false, Bool.false_and, Bool.or_true, Bool.true_or, Bool.or_false, Bool.false_or, Bool.not_true, Bool.not_false, if_true, if_false, ite_true, ite_false, Bool.false_eq_true, not_true_eq_false, not_false_eq_true, bI_t, bI_f, decide_eq_true_eq, reduceCtorEq]; done) | (simp [Y_told, rem, c_3, eq_true c_s105, c_s105]; done) | contradiction | simp_all) (by first | (simp only [Y_told, c_3, eq_true c_s105, c_s105, decide_true, decide_false, Bool.and_true, Bool.true_and, Bool.and_false, Bool.false_and, Bool.or_true, Bool.true_or, Bool.or_false, Bool.false_or, Bool.not_true, Bool.not_false, if_true, if_false, ite_true, ite_false, Bool.false_eq_true, not_true_eq_false, not_false_eq_true, bI_t, bI_f, decide_eq_true_eq, reduceCtorEq]; done) | (simp [Y_told, c_3, eq_true c_s105, c_s105]; done) | contradiction | simp_all)
    · refine ⟨174, by decide, ?_⟩
      have c_s105_0 : ¬ w = 0 := hx 0 (by decide)
      have c_s105_1 : ¬ w = 1 := hx 1 (by decide)
      have c_s105_2 : ¬ w = 2 := hx 2 (by decide)
      have c_s105_3 : ¬ w = 3 := hx 3 (by decide)
      have c_s105_4 : ¬ w = 4 := hx 4 (by decide)
      have c_s105_5 : ¬ w = 5 := hx 5 (by decide)
      refine zw_iload_1 X dX8_told_174 ?_
      refine zw_bipush (v := 6) X dX8_told_175 bk_6 ?_
      refine zw_icmpne (tgt := 187) X dX8_told_177 (by decide) (fun c_177 => ?_) (fun c_177 => ?_)
      · refine zw_bipush (v := -2) X dX8_told_187 bk_m2 ?_
        exact zw_iret X F dX8_told_189 rfl (by first | (simp only [Y_told, rem, c_3, c_s105_0, c_s105_1, c_s105_2, c_s105_3, c_s105_4, c_s105_5, c_177, decide_true, decide_false, Bool.and_true, Bool.true_and, Bool.and_false, Bool.false_and, Bool.or_true, Bool.true_or, Bool.or_false, Bool.false_or, Bool.not_true, Bool.not_false, if_true, if_false, ite_true, ite_false, Bool.false_eq_true, not_true_eq_false, not_false_eq_true, bI_t, bI_f, decide_eq_true_eq, reduceCtorEq]; done) | (simp [Y_told, rem, c_3, c_s105_0, c_s105_1, c_s105_2, c_s105_3, c_s105_4, c_s105_5, c_177]; done) | contradiction | simp_all) (by first | (simp only [Y_told, c_3, c_s105_0, c_s105_1, c_s105_2, c_s105_3, c_s105_4, c_s105_5, c_177, decide_true, decide_false, Bool.and_true, Bool.true_and, Bool.and_false, Bool.false_and, Bool.or_true, Bool.true_or, Bool.or_false, Bool.false_or, Bool.not_true, Bool.not_false, if_true, if_false, ite_true, ite_false, Bool.false_eq_true, not_true_eq_false, not_false_eq_true, bI_t, bI_f, decide_eq_true_eq, reduceCtorEq]; done) | (simp [Y_told, c_3, c_s105_0, c_s105_1, c_s105_2, c_s105_3, c_s105_4, c_s105_5, c_177]; done) | contradiction | simp_all)
      · refine zw_aload_0 X dX8_told_180 ?_
        refine zw_getI X dX8_told_181 fl_X8_67 ck_X8 sh_42 rfl ?_
        refine zw_goto (tgt := 189) X dX8_told_184 (by decide) ?_
        exact zw_iret X F dX8_told_189 rfl (by first | (simp only [Y_told, rem, c_3, c_s105_0, c_s105_1, c_s105_2, c_s105_3, c_s105_4, c_s105_5, eq_true c_177, decide_true, decide_false, Bool.and_true, Bool.true_and, Bool.and_false, Bool.false_and, Bool.or_true, Bool.true_or, Bool.or_false, Bool.false_or, Bool.not_true, Bool.not_false, if_true, if_false, ite_true, ite_false, Bool.false_eq_true, not_true_eq_false, not_false_eq_true, bI_t, bI_f, decide_eq_true_eq, reduceCtorEq]; done) | (simp [Y_told, rem, c_3, c_s105_0, c_s105_1, c_s105_2, c_s105_3, c_s105_4, c_s105_5, eq_true c_177]; done) | contradiction | simp_all) (by first | (simp only [Y_told, c_3, c_s105_0, c_s105_1, c_s105_2, c_s105_3, c_s105_4, c_s105_5, eq_true c_177, decide_true, decide_false, Bool.and_true, Bool.true_and, Bool.and_false, Bool.false_and, Bool.or_true, Bool.true_or, Bool.or_false, Bool.false_or, Bool.not_true, Bool.not_false, if_true, if_false, ite_true, ite_false, Bool.false_eq_true, not_true_eq_false, not_false_eq_true, bI_t, bI_f, decide_eq_true_eq, reduceCtorEq]; done) | (simp [Y_told, c_3, c_s105_0, c_s105_1, c_s105_2, c_s105_3, c_s105_4, c_s105_5, eq_true c_177]; done) | contradiction | simp_all)
  · refine zw_iload_1 X dX8_told_6 ?_
    refine zw_bipush (v := 10) X dX8_told_7 bk_10 ?_
    refine zw_idiv X dX8_told_9 (by decide) ?_
    refine zw_iconst (v := 1) X dX8_told_10 ik_1 ?_
    refine zw_isub X dX8_told_11 ?_
    refine zw_istore_2 X dX8_told_12 ?_
    refine zw_iload_2 X dX8_told_13 ?_
    refine zw_cS_ii X dX8_told_14 lk_X8_74 ok_MX8_isOne st_MX8_isOne rm_X8_told_X8_isOne (Nat.le_of_ble_eq_true rfl) t_X8_isOne ?_
    refine zw_ifneB (tgt := 23) X dX8_told_17 (by decide) (fun c_17 => ?_) (fun c_17 => ?_)
    · refine zw_iload_1 X dX8_told_23 ?_
      refine zw_bipush (v := 10) X dX8_told_24 bk_10 ?_
      refine zw_irem X dX8_told_26 (by decide) ?_
      refine zw_tabN 4 X dX8_told_27 (by decide) rfl (fun i hi hx => ?_) (fun hx => ?_)
      · have hi2 : i = 0 ∨ i = 1 ∨ i = 2 ∨ i = 3 := by omega
        rcases hi2 with rfl | rfl | rfl | rfl
        · refine ⟨29, 56, rfl, by decide, ?_⟩
          have c_s27 : w - w / 10 * 10 = 0 := hx
          refine zw_aload_0 X dX8_told_56 ?_
          refine zw_getR X dX8_told_57 fl_X8_13 ck_X8 sh_42 rfl ?_
          refine zw_iload_2 X dX8_told_60 ?_
          refine zw_iald X dX8_told_61 sh_43 (in6_of c_17) ?_
          exact zw_iret X F dX8_told_62 rfl (by first | (simp only [Y_told, rem, c_3, c_17, eq_true c_s27, c_s27, decide_true, decide_false, Bool.and_true, Bool.true_and, Bool.and_false, Bool.false_and, Bool.or_true, Bool.true_or, Bool.or_false, Bool.false_or, Bool.not_true, Bool.not_false, if_true, if_false, ite_true, ite_false, Bool.false_eq_true, not_true_eq_false, not_false_eq_true, bI_t, bI_f, decide_eq_true_eq, reduceCtorEq]; done) | (simp [Y_told, rem, c_3, c_17, eq_true c_s27, c_s27]; done) | contradiction | simp_all) (by first | (simp only [Y_told, c_3, c_17, eq_true c_s27, c_s27, decide_true, decide_false, Bool.and_true, Bool.true_and, Bool.and_false, Bool.false_and, Bool.or_true, Bool.true_or, Bool.or_false, Bool.false_or, Bool.not_true, Bool.not_false, if_true, if_false, ite_true, ite_false, Bool.false_eq_true, not_true_eq_false, not_false_eq_true, bI_t, bI_f, decide_eq_true_eq, reduceCtorEq]; done) | (simp [Y_told, c_3, c_17, eq_true c_s27, c_s27]; done) | contradiction | simp_all)
        · refine ⟨36, 63, rfl, by decide, ?_⟩
          have c_s27 : w - w / 10 * 10 = 1 := hx
          refine zw_aload_0 X dX8_told_63 ?_
          refine zw_getR X dX8_told_64 fl_X8_17 ck_X8 sh_42 rfl ?_
          refine zw_iload_2 X dX8_told_67 ?_
          refine zw_iald X dX8_told_68 sh_44 (in6_of c_17) ?_
          exact zw_iret X F dX8_told_69 rfl (by first | (simp only [Y_told, rem, c_3, c_17, eq_true c_s27, c_s27, decide_true, decide_false, Bool.and_true, Bool.true_and, Bool.and_false, Bool.false_and, Bool.or_true, Bool.true_or, Bool.or_false, Bool.false_or, Bool.not_true, Bool.not_false, if_true, if_false, ite_true, ite_false, Bool.false_eq_true, not_true_eq_false, not_false_eq_true, bI_t, bI_f, decide_eq_true_eq, reduceCtorEq]; done) | (simp [Y_told, rem, c_3, c_17, eq_true c_s27, c_s27]; done) | contradiction | simp_all) (by first | (simp only [Y_told, c_3, c_17, eq_true c_s27, c_s27, decide_true, decide_false, Bool.and_true, Bool.true_and, Bool.and_false, Bool.false_and, Bool.or_true, Bool.true_or, Bool.or_false, Bool.false_or, Bool.not_true, Bool.not_false, if_true, if_false, ite_true, ite_false, Bool.false_eq_true, not_true_eq_false, not_false_eq_true, bI_t, bI_f, decide_eq_true_eq, reduceCtorEq]; done) | (simp [Y_told, c_3, c_17, eq_true c_s27, c_s27]; done) | contradiction | simp_all)
        · refine ⟨43, 70, rfl, by decide, ?_⟩
          have c_s27 : w - w / 10 * 10 = 2 := hx
          refine zw_aload_0 X dX8_told_70 ?_
          refine zw_getR X dX8_told_71 fl_X8_20 ck_X8 sh_42 rfl ?_
          refine zw_iload_2 X dX8_told_74 ?_
          refine zw_iald X dX8_told_75 sh_45 (in6_of c_17) ?_
          exact zw_iret X F dX8_told_76 rfl (by first | (simp only [Y_told, rem, c_3, c_17, eq_true c_s27, c_s27, decide_true, decide_false, Bool.and_true, Bool.true_and, Bool.and_false, Bool.false_and, Bool.or_true, Bool.true_or, Bool.or_false, Bool.false_or, Bool.not_true, Bool.not_false, if_true, if_false, ite_true, ite_false, Bool.false_eq_true, not_true_eq_false, not_false_eq_true, bI_t, bI_f, decide_eq_true_eq, reduceCtorEq]; done) | (simp [Y_told, rem, c_3, c_17, eq_true c_s27, c_s27]; done) | contradiction | simp_all) (by first | (simp only [Y_told, c_3, c_17, eq_true c_s27, c_s27, decide_true, decide_false, Bool.and_true, Bool.true_and, Bool.and_false, Bool.false_and, Bool.or_true, Bool.true_or, Bool.or_false, Bool.false_or, Bool.not_true, Bool.not_false, if_true, if_false, ite_true, ite_false, Bool.false_eq_true, not_true_eq_false, not_false_eq_true, bI_t, bI_f, decide_eq_true_eq, reduceCtorEq]; done) | (simp [Y_told, c_3, c_17, eq_true c_s27, c_s27]; done) | contradiction | simp_all)
        · refine ⟨50, 77, rfl, by decide, ?_⟩
          have c_s27 : w - w / 10 * 10 = 3 := hx
          refine zw_aload_0 X dX8_told_77 ?_
          refine zw_getR X dX8_told_78 fl_X8_23 ck_X8 sh_42 rfl ?_
          refine zw_iload_2 X dX8_told_81 ?_
          refine zw_iald X dX8_told_82 sh_46 (in6_of c_17) ?_
          exact zw_iret X F dX8_told_83 rfl (by first | (simp only [Y_told, rem, c_3, c_17, eq_true c_s27, c_s27, decide_true, decide_false, Bool.and_true, Bool.true_and, Bool.and_false, Bool.false_and, Bool.or_true, Bool.true_or, Bool.or_false, Bool.false_or, Bool.not_true, Bool.not_false, if_true, if_false, ite_true, ite_false, Bool.false_eq_true, not_true_eq_false, not_false_eq_true, bI_t, bI_f, decide_eq_true_eq, reduceCtorEq]; done) | (simp [Y_told, rem, c_3, c_17, eq_true c_s27, c_s27]; done) | contradiction | simp_all) (by first | (simp only [Y_told, c_3, c_17, eq_true c_s27, c_s27, decide_true, decide_false, Bool.and_true, Bool.true_and, Bool.and_false, Bool.false_and, Bool.or_true, Bool.true_or, Bool.or_false, Bool.false_or, Bool.not_true, Bool.not_false, if_true, if_false, ite_true, ite_false, Bool.false_eq_true, not_true_eq_false, not_false_eq_true, bI_t, bI_f, decide_eq_true_eq, reduceCtorEq]; done) | (simp [Y_told, c_3, c_17, eq_true c_s27, c_s27]; done) | contradiction | simp_all)
      · refine ⟨84, by decide, ?_⟩
        have c_s27_0 : ¬ w - w / 10 * 10 = 0 := hx 0 (by decide)
        have c_s27_1 : ¬ w - w / 10 * 10 = 1 := hx 1 (by decide)
        have c_s27_2 : ¬ w - w / 10 * 10 = 2 := hx 2 (by decide)
        have c_s27_3 : ¬ w - w / 10 * 10 = 3 := hx 3 (by decide)
        refine zw_iload_1 X dX8_told_84 ?_
        refine zw_bipush (v := 10) X dX8_told_85 bk_10 ?_
        refine zw_irem X dX8_told_87 (by decide) ?_
        refine zw_iconst (v := 4) X dX8_told_88 ik_4 ?_
        refine zw_icmpne (tgt := 101) X dX8_told_89 (by decide) (fun c_89 => ?_) (fun c_89 => ?_)
        · refine zw_bipush (v := -2) X dX8_told_101 bk_m2 ?_
          exact zw_iret X F dX8_told_103 rfl (by first | (simp only [Y_told, rem, c_3, c_17, c_s27_0, c_s27_1, c_s27_2, c_s27_3, c_89, decide_true, decide_false, Bool.and_true, Bool.true_and, Bool.and_false, Bool.false_and, Bool.or_true, Bool.true_or, Bool.or_false, Bool.false_or, Bool.not_true, Bool.not_false, if_true, if_false, ite_true, ite_false, Bool.false_eq_true, not_true_eq_false, not_false_eq_true, bI_t, bI_f, decide_eq_true_eq, reduceCtorEq]; done) | (simp [Y_told, rem, c_3, c_17, c_s27_0, c_s27_1, c_s27_2, c_s27_3, c_89]; done) | contradiction | simp_all) (by first | (simp only [Y_told, c_3, c_17, c_s27_0, c_s27_1, c_s27_2, c_s27_3, c_89, decide_true, decide_false, Bool.and_true, Bool.true_and, Bool.and_false, Bool.false_and, Bool.or_true, Bool.true_or, Bool.or_false, Bool.false_or, Bool.not_true, Bool.not_false, if_true, if_false, ite_true, ite_false, Bool.false_eq_true, not_true_eq_false, not_false_eq_true, bI_t, bI_f, decide_eq_true_eq, reduceCtorEq]; done) | (simp [Y_told, c_3, c_17, c_s27_0, c_s27_1, c_s27_2, c_s27_3, c_89]; done) | contradiction | simp_all)
        · refine zw_aload_0 X dX8_told_92 ?_
          refine zw_getR X dX8_told_93 fl_X8_26 ck_X8 sh_42 rfl ?_
          refine zw_iload_2 X dX8_told_96 ?_
          refine zw_iald X dX8_told_97 sh_47 (in6_of c_17) ?_
          refine zw_goto (tgt := 103) X dX8_told_98 (by decide) ?_
          exact zw_iret X F dX8_told_103 rfl (by first | (simp only [Y_told, rem, c_3, c_17, c_s27_0, c_s27_1, c_s27_2, c_s27_3, eq_true c_89, decide_true, decide_false, Bool.and_true, Bool.true_and, Bool.and_false, Bool.false_and, Bool.or_true, Bool.true_or, Bool.or_false, Bool.false_or, Bool.not_true, Bool.not_false, if_true, if_false, ite_true, ite_false, Bool.false_eq_true, not_true_eq_false, not_false_eq_true, bI_t, bI_f, decide_eq_true_eq, reduceCtorEq]; done) | (simp [Y_told, rem, c_3, c_17, c_s27_0, c_s27_1, c_s27_2, c_s27_3, eq_true c_89]; done) | contradiction | simp_all) (by first | (simp only [Y_told, c_3, c_17, c_s27_0, c_s27_1, c_s27_2, c_s27_3, eq_true c_89, decide_true, decide_false, Bool.and_true, Bool.true_and, Bool.and_false, Bool.false_and, Bool.or_true, Bool.true_or, Bool.or_false, Bool.false_or, Bool.not_true, Bool.not_false, if_true, if_false, ite_true, ite_false, Bool.false_eq_true, not_true_eq_false, not_false_eq_true, bI_t, bI_f, decide_eq_true_eq, reduceCtorEq]; done) | (simp [Y_told, c_3, c_17, c_s27_0, c_s27_1, c_s27_2, c_s27_3, eq_true c_89]; done) | contradiction | simp_all)
    · refine zw_bipush (v := -2) X dX8_told_20 bk_m2 ?_
      exact zw_iret X F dX8_told_22 rfl (by first | (simp only [Y_told, rem, c_3, c_17, decide_true, decide_false, Bool.and_true, Bool.true_and, Bool.and_false, Bool.false_and, Bool.or_true, Bool.true_or, Bool.or_false, Bool.false_or, Bool.not_true, Bool.not_false, if_true, if_false, ite_true, ite_false, Bool.false_eq_true, not_true_eq_false, not_false_eq_true, bI_t, bI_f, decide_eq_true_eq, reduceCtorEq]; done) | (simp [Y_told, rem, c_3, c_17]; done) | contradiction | simp_all) (by first | (simp only [Y_told, c_3, c_17, decide_true, decide_false, Bool.and_true, Bool.true_and, Bool.and_false, Bool.false_and, Bool.or_true, Bool.true_or, Bool.or_false, Bool.false_or, Bool.not_true, Bool.not_false, if_true, if_false, ite_true, ite_false, Bool.false_eq_true, not_true_eq_false, not_false_eq_true, bI_t, bI_f, decide_eq_true_eq, reduceCtorEq]; done) | (simp [Y_told, c_3, c_17]; done) | contradiction | simp_all)
