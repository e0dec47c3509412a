/-! words go round -/
theorem b_itr {f : Nat → Int32 → Int32} {g : Nat → Bool} {i : Nat} {N : Nat} (h : ∀ n, n < N → ∀ a, bt (f n a) i = (bt a i || g n)) (a : Int32) : bt (itr f N a) i = (bt a i || exB g N) := by
  induction N with
  | zero => rw [show itr f 0 a = a from rfl]; simp [exB]
  | succ N ih =>
    have e : itr f (N + 1) a = f N (itr f N a) := rfl
    have e2 : exB g (N + 1) = (exB g N || g N) := rfl
    rw [e, e2, h N (by omega), ih (fun n hn => h n (by omega)), Bool.or_assoc]
theorem kn_step {σ μ : St} {m kn : Int32} (hr : ∀ n, n < 6 → trd σ 1 (nI n) m = mrd μ (nI n) m) (hs : ∀ n, n < 6 → σ 4 n = μ 45 n) (hc : ∀ n, n < 6 → ∃ c : Nat, c < 3 ∧ σ 4 n = nI c) (ht : ttn σ 1 m = hasB (μ 42 1) m) : tkno σ 1 m kn = mgw1 μ m kn := by
  unfold tkno mgw1
  rw [ht]
  by_cases hT : hasB (μ 42 1) m = true
  · rw [if_pos hT, if_pos hT]
    have htri : ∀ c i, i < 32 → bt (trdo σ 1 c m) i = (decide (i < 6) && (mrd μ (nI i) m && decide (μ 45 i = c))) := by
      intro c i hi
      unfold trdo
      rw [b_setB _ 6 (by decide) i hi]
      by_cases h6 : i < 6
      · rw [decide_eq_true h6, Bool.true_and, Bool.true_and]
        unfold tri
        rw [hr i h6, ix_nI (by omega), show (1 : Nat) + 3 = 4 from rfl, hs i h6]
      · rw [decide_eq_false h6, Bool.false_and, Bool.false_and]
    refine b_ext (fun i hi => ?_)
    have hX : bt (itr (tkst σ 1 m kn) 3 kn) i = (bt kn i || exB (fun c => !decide (trdo σ 1 (nI c) m &&& kn = 0) && bt (trdo σ 1 (nI c) m) i) 3) := by
      refine b_itr (fun c _ a => ?_) kn
      unfold tkst
      by_cases hz : trdo σ 1 (nI c) m &&& kn = 0
      · rw [if_pos hz, decide_eq_true hz]; simp
      · rw [if_neg hz, decide_eq_false hz, b_or]; simp
    have hY : bt (itr (mgw2 μ m kn) 6 kn) i = (bt kn i || exB (fun q => exB (fun x => ((mrd μ (nI q) m && (mrd μ (nI x) m && decide (μ 45 q = μ 45 x))) && bt kn x) && decide (i = q)) 6) 6) := by
      refine b_itr (fun q hq a => ?_) kn
      unfold mgw2
      refine b_itr (fun x hx b => ?_) a
      unfold mgw3
      rw [b_or, hasB_bt (by omega)]
      congr 1
      cases ((mrd μ (nI q) m && (mrd μ (nI x) m && decide (μ 45 q = μ 45 x))) && bt kn x)
      · rw [if_neg (by decide), b_0, Bool.false_and]
      · rw [if_pos rfl, b_one (by omega) hi, Bool.true_and]
    rw [hX, hY]
    congr 1
    rw [Bool.eq_iff_iff, exB_iff, exB_iff]
    constructor
    · rintro ⟨c, hc3, h⟩
      rw [Bool.and_eq_true, htri _ i hi] at h
      obtain ⟨h1, h2⟩ := h
      simp only [Bool.and_eq_true, decide_eq_true_eq] at h2
      have : ∃ x, x < 32 ∧ bt (trdo σ 1 (nI c) m) x = true ∧ bt kn x = true := by
        refine Classical.byContradiction (fun hno => ?_)
        have hz : trdo σ 1 (nI c) m &&& kn = 0 := b_ext (fun x hx => by
          rw [b_and, b_0]
          cases hb1 : bt (trdo σ 1 (nI c) m) x <;> cases hb2 : bt kn x <;> first | rfl | exact absurd ⟨x, hx, hb1, hb2⟩ hno)
        rw [decide_eq_true hz] at h1; cases h1
      obtain ⟨x, hx, hx1, hx2⟩ := this
      rw [htri _ x hx] at hx1
      simp only [Bool.and_eq_true, decide_eq_true_eq] at hx1
      refine ⟨i, h2.1, ?_⟩
      rw [exB_iff]
      refine ⟨x, hx1.1, ?_⟩
      simp only [Bool.and_eq_true, decide_eq_true_eq]
      exact ⟨⟨⟨h2.2.1, hx1.2.1, by rw [h2.2.2, hx1.2.2]⟩, hx2⟩, trivial⟩
    · rintro ⟨q, hq, h⟩
      rw [exB_iff] at h
      obtain ⟨x, hx, h⟩ := h
      simp only [Bool.and_eq_true, decide_eq_true_eq] at h
      obtain ⟨⟨⟨h1, h2, h3⟩, h4⟩, h5⟩ := h
      subst h5
      obtain ⟨c, hc3, ec⟩ := hc i hq
      rw [hs i hq] at ec
      refine ⟨c, hc3, ?_⟩
      have b1 : bt (trdo σ 1 (nI c) m) i = true := by
        rw [htri _ i hi, decide_eq_true hq, h1, decide_eq_true ec]; rfl
      have b2 : bt (trdo σ 1 (nI c) m) x = true := by
        rw [htri _ x (by omega), decide_eq_true hx, h2, decide_eq_true (by rw [← h3, ec])]; rfl
      rw [b1, Bool.and_true]
      have : ¬ trdo σ 1 (nI c) m &&& kn = 0 := fun hz => by
        have := congrArg (fun y => bt y x) hz
        simp only [b_and, b_0, b2, h4] at this
        cases this
      rw [decide_eq_false this]; rfl
  · rw [if_neg hT, if_neg hT]
theorem wd_it {σ μ : St} (h : Inv2 σ μ) {i : Nat} (hi : i < 6) {m0 : Nat} (hm : m0 ≤ 29) (q : Int32) (a0 : Int32) : ∀ n, n ≤ cnt (nI m0) (σ 1 0) → (itr (mgwF (nI m0) q) n (a0, mgw0 μ (nI i))).2 42 23 = X_wk σ (nI i) (nI m0) n ∧ SameY μ (itr (mgwF (nI m0) q) n (a0, mgw0 μ (nI i))).2
  | 0, _ => ⟨by show mgw0 μ (nI i) 42 23 = (1 : Int32) <<< (nI i &&& 31); unfold mgw0; rw [ups_s], sy_ups42 μ _ (by omega)⟩
  | n + 1, hn => by
    obtain ⟨ih1, ih2⟩ := wd_it h hi hm q a0 n (by omega)
    obtain ⟨⟨c1, c2, c3, c4, c5, c6⟩, ca, cs, ⟨⟨L, M, hL, hL2, hML, eL, eM⟩, rF, rS, r4, r5, r6⟩⟩ := h.1
    have x1 : itr (mgwF (nI m0) q) (n + 1) (a0, mgw0 μ (nI i)) = mgwF (nI m0) q n (itr (mgwF (nI m0) q) n (a0, mgw0 μ (nI i))) := rfl
    have x2 : X_wk σ (nI i) (nI m0) (n + 1) = tkno σ 1 (nI m0 + nI n) (X_wk σ (nI i) (nI m0) n) := rfl
    have hlt : m0 + n < L := by rw [eL, cnt_nI (by omega) (by omega)] at hn; omega
    rw [x1, x2]
    generalize itr (mgwF (nI m0) q) n (a0, mgw0 μ (nI i)) = b at ih1 ih2 ⊢
    have y43 := ih2.1 43 (by decide) (by decide); have y44 := ih2.1 44 (by decide) (by decide); have y45 := ih2.1 45 (by decide) (by decide)
    have y0 := ih2.2 0 (by decide) (by decide) (by decide) (by decide) (by decide) (by decide)
    have y1 := ih2.2 1 (by decide) (by decide) (by decide) (by decide) (by decide) (by decide)
    refine ⟨?_, sy_tr ih2 (by unfold mgwF; exact sy_ups42 b.2 _ (by omega))⟩
    unfold mgwF
    dsimp only
    rw [ups_s, ih1]
    refine (kn_step (fun k hk => ?_) (fun k hk => ?_) r5 ?_).symm
    · unfold trd
      refine rd_mrd (isTr_nI hk) ?_ ?_ ?_ _
      · rw [ix_nI (by omega), y43]; exact (ca k hk).1
      · rw [ix_nI (by omega), y44]; exact (ca k hk).2.1
      · rw [y0]; exact c1
    · rw [y45]; exact (ca k hk).2.2.1
    · unfold ttn
      rw [nI_add, y1, c5, tn_bt (by omega), hasB_bt (by omega)]
theorem A_word {σ μ : St} (h : Inv2 σ μ) (t m : Int32) : (X_word σ t m).1 = (Y_word μ t m).1 := by
  unfold X_word Y_word
  rw [isTr_wth, isMi_wth]
  by_cases ht : wth t 0 5 = true
  · rw [if_pos ht, if_pos ht]
    by_cases hm : wth m 0 29 = true
    · rw [if_pos hm, if_pos hm]
      obtain ⟨i, hi, rfl⟩ := tr_nI ht
      obtain ⟨m0, hm0, rfl⟩ := (wth_0 (b := 29) (B := 29) rfl (by decide)).mp hm
      dsimp only
      unfold mgwA
      rw [← h.1.1.1]
      exact (wd_it h hi hm0 _ _ _ (Nat.le_refl _)).1.symm
    · rw [if_neg hm, if_neg hm]
  · rw [if_neg ht, if_neg ht]
theorem SX_word (σ : St) (t m : Int32) : SameX σ (X_word σ t m).2 := by
  unfold X_word; split
  · split <;> exact sx_rf σ
  · exact sx_rf σ
theorem sy_mgwA (μ : St) (k m q : Int32) : SameY μ (mgwA μ k m q).2 := sy_tr (sy_ups42 μ ((1 : Int32) <<< (k &&& 31)) (i := 23) (by omega)) (sy_itr2 (f := mgwF m q) (fun n a => by unfold mgwF; exact sy_ups42 a.2 _ (by omega)) _ (if q = k then m else -6, mgw0 μ k))
theorem SY_word (μ : St) (t m : Int32) : SameY μ (Y_word μ t m).2 := by
  unfold Y_word; split
  · split
    · exact sy_mgwA μ t m t
    · exact sy_rf μ
  · exact sy_rf μ
/-- the reference's first minute -/
theorem hd_it {m0 : Nat} {q : Int32} (P : Nat → Bool) (b0 : Int32 × St) (hb : b0.1 = -6) (hP : ∀ n, hasB (mgw1 (itr (mgwF (nI m0) q) n b0).2 (nI m0 + nI n) ((itr (mgwF (nI m0) q) n b0).2 42 23)) q = P n) (hm : m0 ≤ 29) : ∀ n, n ≤ 30 → (itr (mgwF (nI m0) q) n b0).1 = if fstB P n < n then nI m0 + nI (fstB P n) else -6
  | 0, _ => by rw [show fstB P 0 = 0 from rfl, if_neg (Nat.lt_irrefl 0)]; exact hb
  | n + 1, hn => by
    have ih := hd_it P b0 hb hP hm n (by omega)
    have x1 : itr (mgwF (nI m0) q) (n + 1) b0 = mgwF (nI m0) q n (itr (mgwF (nI m0) q) n b0) := rfl
    have hq := hP n
    rw [x1]
    generalize itr (mgwF (nI m0) q) n b0 = b at ih hq ⊢
    unfold mgwF
    dsimp only
    rw [hq, ih]
    have hle := fstB_le P n
    by_cases hf : fstB P n < n
    · have e : fstB P (n + 1) = fstB P n := by simp only [fstB, hf, if_true]
      rw [e, if_pos hf, if_pos (show fstB P n < n + 1 by omega), nI_add, nI_add, decide_eq_false (nI_pos (by omega)), Bool.false_and, if_neg (by decide)]
    · rw [if_neg hf]
      cases hp : P n with
      | true =>
        have e : fstB P (n + 1) = n := by simp [fstB, hf, hp]
        rw [e, if_pos (Nat.lt_succ_self n), if_pos (by rfl)]
      | false =>
        have e : fstB P (n + 1) = n + 1 := by simp [fstB, hf, hp]
        rw [e, if_neg (Nat.lt_irrefl (n + 1)), if_neg (by rw [Bool.and_false]; decide)]
theorem fstB_congr {P Q : Nat → Bool} : ∀ {N : Nat}, (∀ n, n < N → P n = Q n) → fstB P N = fstB Q N
  | 0, _ => rfl
  | N + 1, h => by
    simp only [fstB]
    rw [fstB_congr (fun n hn => h n (by omega)), h N (by omega)]
theorem hd_keep {m0 : Nat} (hm : m0 ≤ 29) {q : Int32} (b0 : Int32 × St) (hb : b0.1 = nI m0) : ∀ n, (itr (mgwF (nI m0) q) n b0).1 = nI m0
  | 0 => hb
  | n + 1 => by
    have ih := hd_keep hm (q := q) b0 hb n
    have x1 : itr (mgwF (nI m0) q) (n + 1) b0 = mgwF (nI m0) q n (itr (mgwF (nI m0) q) n b0) := rfl
    rw [x1]
    generalize itr (mgwF (nI m0) q) n b0 = b at ih ⊢
    unfold mgwF
    dsimp only
    rw [ih, decide_eq_false (nI_pos (by omega)), Bool.false_and, if_neg (by decide)]
theorem A_heard {σ μ : St} (h : Inv2 σ μ) (t m q : Int32) : (X_heard σ t m q).1 = (Y_heard μ t m q).1 := by
  unfold X_heard Y_heard
  rw [isTr_wth, isTr_wth, isMi_wth]
  by_cases ht : (wth t 0 5 && wth q 0 5) = true
  · rw [if_pos ht, if_pos ht]
    by_cases hm : wth m 0 29 = true
    · rw [if_pos hm, if_pos hm]
      rw [Bool.and_eq_true] at ht
      obtain ⟨i, hi, rfl⟩ := tr_nI ht.1
      obtain ⟨k, hk, rfl⟩ := tr_nI ht.2
      obtain ⟨m0, hm0, rfl⟩ := (wth_0 (b := 29) (B := 29) rfl (by decide)).mp hm
      by_cases hik : nI i = nI k
      · rw [if_pos hik]
        show nI m0 = (mgwA μ (nI i) (nI m0) (nI k)).1
        unfold mgwA
        exact (hd_keep hm0 _ (by dsimp only; rw [if_pos hik.symm]) _).symm
      · rw [if_neg hik]
        show X_hf σ (nI i) (nI m0) (nI k) = (mgwA μ (nI i) (nI m0) (nI k)).1
        unfold X_hf mgwA
        rw [← h.1.1.1, if_neg (show ¬ nI k = nI i from fun e => hik e.symm)]
        have hcn : cnt (nI m0) (σ 1 0) ≤ 30 := by
          obtain ⟨L, M, hL, hL2, hML, eL, eM⟩ := h.1.2.2.2.1
          rw [eL, cnt_nI (by omega) (by omega)]; omega
        have hfs : fstB (X_hp σ (nI i) (nI m0) (nI k)) (cnt (nI m0) (σ 1 0)) = fstB (fun n => hasB (mgw1 (itr (mgwF (nI m0) (nI k)) n (-6, mgw0 μ (nI i))).2 (nI m0 + nI n) ((itr (mgwF (nI m0) (nI k)) n (-6, mgw0 μ (nI i))).2 42 23)) (nI k)) (cnt (nI m0) (σ 1 0)) := by
          refine fstB_congr (fun n hn => ?_)
          have w1 := (wd_it h hi hm0 (nI k) (-6) (n + 1) hn).1
          have x1 : itr (mgwF (nI m0) (nI k)) (n + 1) (-6, mgw0 μ (nI i)) = mgwF (nI m0) (nI k) n (itr (mgwF (nI m0) (nI k)) n (-6, mgw0 μ (nI i))) := rfl
          rw [x1] at w1
          generalize itr (mgwF (nI m0) (nI k)) n (-6, mgw0 μ (nI i)) = b at w1 ⊢
          have e23 : (mgwF (nI m0) (nI k) n b).2 42 23 = mgw1 b.2 (nI m0 + nI n) (b.2 42 23) := by unfold mgwF; dsimp only; rw [ups_s]
          rw [← e23, w1, hasB_bt (by omega)]
          unfold X_hp
          cases hb : bt (X_wk σ (nI i) (nI m0) (n + 1)) k with
          | true => exact decide_eq_true (fun e => by rw [(bit_and (by omega)).mp e] at hb; cases hb)
          | false => exact decide_eq_false (fun e => e ((bit_and (by omega)).mpr hb))
        rw [hd_it _ (-6, mgw0 μ (nI i)) rfl (fun n => rfl) hm0 _ hcn, hfs]
    · rw [if_neg hm, if_neg hm]
  · rw [if_neg ht, if_neg ht]
theorem SX_heard (σ : St) (t m q : Int32) : SameX σ (X_heard σ t m q).2 := by
  unfold X_heard; split
  · split
    · split <;> exact sx_rf σ
    · exact sx_rf σ
  · exact sx_rf σ
theorem SY_heard (μ : St) (t m q : Int32) : SameY μ (Y_heard μ t m q).2 := by
  unfold Y_heard; split
  · split
    · exact sy_mgwA μ t m q
    · exact sy_rf μ
  · exact sy_rf μ
theorem B_word {σ : St} (hI : Inv σ) {a0 a1 : Int32} : ∃ (r : Int32) (σ1 σ2 : St), Ct MX7_word [.ref 0, .int a0, .int a1] σ (some (.int r)) σ1 ∧ Ct MX8_word [.ref 42, .int a0, .int a1] σ1 (some (.int r)) σ2 ∧ Inv σ2 := by
  have e1 := A_word (mid_read hI (SX_word σ a0 a1)) a0 a1
  refine ⟨_, _, _, t_X7_word, ?_, inv_read hI (SX_word σ a0 a1) (SY_word _ a0 a1)⟩
  rw [e1]; exact t_X8_word
theorem B_heard {σ : St} (hI : Inv σ) {a0 a1 a2 : Int32} : ∃ (r : Int32) (σ1 σ2 : St), Ct MX7_heard [.ref 0, .int a0, .int a1, .int a2] σ (some (.int r)) σ1 ∧ Ct MX8_heard [.ref 42, .int a0, .int a1, .int a2] σ1 (some (.int r)) σ2 ∧ Inv σ2 := by
  have e1 := A_heard (mid_read hI (SX_heard σ a0 a1 a2)) a0 a1 a2
  refine ⟨_, _, _, t_X7_heard, ?_, inv_read hI (SX_heard σ a0 a1 a2) (SY_heard _ a0 a1 a2)⟩
  rw [e1]; exact t_X8_heard
