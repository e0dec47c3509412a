/-! seatings: the two counts -/
theorem vld_enc (R : Nat → Bool) : ∀ k c, vld R k (enc R k c) = true
  | 0, _ => rfl
  | k + 1, c => by
    rw [enc]
    cases hR : R k with
    | true =>
      rw [if_pos rfl, show vld R (k + 1) (4 * enc R k (c / 3) + c % 3) = (vld R k ((4 * enc R k (c / 3) + c % 3) / 4) && (R k == decide ((4 * enc R k (c / 3) + c % 3) % 4 < 3))) from rfl, show (4 * enc R k (c / 3) + c % 3) / 4 = enc R k (c / 3) by omega, show (4 * enc R k (c / 3) + c % 3) % 4 = c % 3 by omega, vld_enc R k, hR, decide_eq_true (Nat.mod_lt c (by decide : 0 < 3))]
      rfl
    | false =>
      rw [if_neg (by decide), show vld R (k + 1) (4 * enc R k c + 3) = (vld R k ((4 * enc R k c + 3) / 4) && (R k == decide ((4 * enc R k c + 3) % 4 < 3))) from rfl, show (4 * enc R k c + 3) / 4 = enc R k c by omega, show (4 * enc R k c + 3) % 4 = 3 by omega, vld_enc R k, hR]
      rfl
def numD (d : Nat → Nat) : Nat → Nat
  | 0 => 0
  | n + 1 => 10 * numD d n + d n
theorem numD_lt {d : Nat → Nat} (h : ∀ n, d n < 4) : ∀ n, numD d n < 10 ^ n
  | 0 => Nat.zero_lt_one
  | n + 1 => by
    have ih := numD_lt h n
    have := h n
    rw [show numD d (n + 1) = 10 * numD d n + d n from rfl, Nat.pow_succ]
    omega
theorem dg_lt (e k : Nat) : dg e k < 4 := Nat.mod_lt _ (by decide)
theorem ten_nI (a b : Nat) : (10 : Int32) * nI a + nI b = nI (10 * a + b) := by
  rw [← nI_add, ← pk_mul]; rfl
theorem mC1_eq (μ : St) {e : Nat} (he : e < 4096) : mC1 μ (nI e) = (vld (fun k => mAt μ (nI k)) 6 e, nI (numD (dg e) 6)) := by
  have key : ∀ n, n ≤ 6 → itr (mA1 μ (nI e)) n (true, 0) = (allB (fun j => mAt μ (nI j) == decide (dg e j < 3)) n, nI (numD (dg e) n)) := by
    intro n
    induction n with
    | zero => intro _; rfl
    | succ n ih =>
      intro hn
      have e1 : itr (mA1 μ (nI e)) (n + 1) (true, 0) = mA1 μ (nI e) n (itr (mA1 μ (nI e)) n (true, 0)) := rfl
      rw [e1, ih (by omega), mA1]
      dsimp only
      have l := dg_lt e n
      rw [mDg_eq he (by omega), ten_nI, show decide (nI (dg e n) < 3) = decide (dg e n < 3) from decide_eq_decide.mpr (nI_ltI (b := 3) (by omega) (by decide))]
      have eb : ∀ x y : Bool, decide (bI x = bI y) = (x == y) := by decide
      rw [eb]
      rfl
  unfold mC1
  rw [key 6 (Nat.le_refl 6)]
  have := vld_all (fun k => mAt μ (nI k)) e 6 (Nat.le_refl 6)
  rw [Nat.sub_self, Nat.pow_zero, Nat.div_one] at this
  rw [this]
theorem sNum_eq {ρ : St} {d : Nat → Nat} (h : ∀ k, k < 6 → ρ 20 k = nI (d k)) : sNum ρ = nI (numD d 6) := by
  have key : ∀ n, n ≤ 6 → itr (fun n a => 10 * a + ρ 20 n) n 0 = nI (numD d n) := by
    intro n
    induction n with
    | zero => intro _; rfl
    | succ n ih =>
      intro hn
      have e1 : itr (fun n a => 10 * a + ρ 20 n) (n + 1) 0 = 10 * itr (fun n a => 10 * a + ρ 20 n) n 0 + ρ 20 n := rfl
      rw [e1, ih (by omega), h n (by omega), ten_nI]
      rfl
  exact key 6 (Nat.le_refl 6)
theorem sTwo_eq {ρ : St} {d : Nat → Nat} (hd : ∀ k, d k < 4) (h : ∀ k, k < 6 → ρ 20 k = nI (d k)) : sTwo ρ = twos (fun i j => decide (d i = d j)) := by
  unfold sTwo
  rw [twos_eq, twos_eq]
  refine setB_congr (fun k hk => ?_)
  obtain ⟨h1, h2⟩ := p_lt k hk
  have l1 := hd (pa k)
  have l2 := hd (pb k)
  rw [h _ h1, h _ h2]
  exact decide_eq_decide.mpr (nI_eq (by omega) (by omega))
theorem sB_ne (σ : St) {q : Nat} (h : q ≠ 19) : sB σ q = σ q := by
  unfold sB sB1; rw [ups_other h, ups_other h, ups_other h]
theorem trol_of {σ τ : St} (h : ∀ q, q ≠ 19 → τ q = σ q) : trol τ 1 = trol σ 1 := by
  unfold trol tminOf trd
  rw [h 1 (by decide), h (1 + 1) (by decide), h (1 + 2) (by decide)]
theorem nb_bt {x : Int32} {n : Nat} (hn : n < 32) : (!decide (x &&& ((1 : Int32) <<< (nI n &&& 31)) = 0)) = bt x n := by
  cases hb : bt x n
  · rw [decide_eq_true ((bit_and hn).mpr hb)]; rfl
  · rw [decide_eq_false (fun h => by rw [(bit_and hn).mp h] at hb; cases hb)]; rfl
theorem rid_eq {σ μ : St} (h : Main σ μ) {k : Nat} (hk : k < 6) : sRid (sB σ) (nI k) = mAt μ (nI k) := by
  unfold sRid
  have e : sB σ 19 2 = trol σ 1 := by
    unfold sB; rw [ups_s]
    exact trol_of (fun q hq => by unfold sB1; rw [ups_other hq, ups_other hq])
  rw [e, nb_bt (by omega)]
  unfold trol
  rw [b_setB _ 6 (by decide) k (by omega), decide_eq_true hk, Bool.true_and, at_eq h hk]
theorem sAll_eq {τ : St} {R : Nat → Bool} (hR : ∀ k, k < 6 → sRid τ (nI k) = R k) : sAll τ = nI (many R 6) := by
  have key : ∀ n, n ≤ 6 → itr (fun n (a : Int32) => a * (if sRid τ (nI n) then 3 else 1)) n 1 = nI (many R n) := by
    intro n
    induction n with
    | zero => intro _; rfl
    | succ n ih =>
      intro hn
      have e1 : itr (fun n (a : Int32) => a * (if sRid τ (nI n) then 3 else 1)) (n + 1) 1 = itr (fun n (a : Int32) => a * (if sRid τ (nI n) then 3 else 1)) n 1 * (if sRid τ (nI n) then (3 : Int32) else 1) := rfl
      rw [e1, ih (by omega), hR n (by omega), show many R (n + 1) = if R n then 3 * many R n else many R n from rfl]
      cases R n with
      | true => rw [if_pos rfl, if_pos rfl, Nat.mul_comm, ← pk_mul]; rfl
      | false => rw [if_neg (by decide), if_neg (by decide), Int32.mul_one]
  exact key 6 (Nat.le_refl 6)
theorem meet_eq {σ μ : St} (h : Main σ μ) : sMeet (sB σ) 1 = twos (fun i j => mOnce μ (nI i) (nI j)) := by
  unfold sMeet
  rw [twos_eq, twos_eq]
  refine setB_congr (fun k hk => ?_)
  obtain ⟨h1, h2⟩ := p_lt k hk
  have e : ∀ a b, ttog (sB σ) 1 a b = ttog σ 1 a b := by
    intro a b
    unfold ttog trd
    rw [sB_ne σ (show (1 : Nat) ≠ 19 by decide), sB_ne σ (show (1 : Nat) + 1 ≠ 19 by decide), sB_ne σ (show (1 : Nat) + 2 ≠ 19 by decide)]
  rw [e]
  unfold ttog mOnce
  rw [itr_exB, ← h.1.1]
  exact exB_congr (fun n _ => by rw [rd_main h h1, rd_main h h2])
theorem mSt_no {μ : St} {ap to : Int32} {c : Nat} (h : (mC2 μ ap to (nI c)).1 = false) (x : Int32 × Int32) : mSt μ ap to c x = x := by
  unfold mSt
  rw [h, if_neg (by decide), if_neg (by simp), Int32.add_zero]
theorem cnt_eq {σ μ : St} (h : Main σ μ) {ap to : Int32} (ht : wth to 0 32767 = true) : sCnt σ ap to 19 0 = (mSts μ ap to).1 ∧ sCnt σ ap to 19 1 = (mSts μ ap to).2 := by
  obtain ⟨R, eR⟩ : ∃ R : Nat → Bool, R = fun k => mAt μ (nI k) := ⟨_, rfl⟩
  have hR : ∀ k, k < 6 → sRid (sB σ) (nI k) = R k := fun k hk => by rw [rid_eq h hk, eR]
  have b0 : sB σ 19 0 = 0 := by unfold sB sB1; rw [ups_j (by decide), ups_j (by decide), ups_s]
  have b1 : sB σ 19 1 = -6 := by unfold sB sB1; rw [ups_j (by decide), ups_s]
  unfold sCnt
  rw [meet_eq h]
  by_cases C0 : to &&& (twos (fun i j => mOnce μ (nI i) (nI j)) ^^^ (-1)) = 0
  · rw [if_pos C0, sAll_eq hR]
    have hm : many R 6 ≤ 3 ^ 6 := many_le R 6
    rw [clN_nI (by omega)]
    have eY : mSts μ ap to = itr (fun c => mSt μ ap to (enc R 6 c)) (many R 6) (0, -6) := by
      unfold mSts
      rw [itr_congr (g := fun c x => if c < 4096 then mSt μ ap to c x else x) (fun n hn x => by rw [if_pos hn]), show (4096 : Nat) = 4 ^ 6 from rfl, enc_itr R 6 _ _ (fun c hc x => by
        by_cases hl : c < 4 ^ 6
        · rw [if_pos hl]
          refine mSt_no ?_ x
          rw [mC2_eq μ ap to hl, mC1_eq μ hl, ← eR, hc, Bool.false_and]
        · rw [if_neg hl])]
      exact itr_congr (fun n hn x => if_pos (enc_lt R 6 n hn))
    rw [eY]
    have key : ∀ n, n ≤ many R 6 → ∃ (τ : St) (x y : Int32) (j : Nat), itr (sCst (ap &&& twos (fun i j => mOnce μ (nI i) (nI j))) to) n (sB σ) = τ ∧ itr (fun c => mSt μ ap to (enc R 6 c)) n (0, -6) = (x, y) ∧ τ 19 0 = x ∧ τ 19 1 = y ∧ τ 19 2 = sB σ 19 2 ∧ j ≤ n ∧ x = nI j ∧ (j = 0 → y = -6) ∧ (j ≠ 0 → ¬ y < 0) := by
      intro n
      induction n with
      | zero => intro _; exact ⟨sB σ, 0, -6, 0, rfl, rfl, b0, b1, rfl, Nat.le_refl 0, rfl, fun _ => rfl, fun q => absurd rfl q⟩
      | succ n ih =>
        intro hn
        obtain ⟨τ, x, y, j, h1, h2, h3, h4, h5, h6, h7, h8, h9⟩ := ih (by omega)
        have e1 : itr (sCst (ap &&& twos (fun i j => mOnce μ (nI i) (nI j))) to) (n + 1) (sB σ) = sCst (ap &&& twos (fun i j => mOnce μ (nI i) (nI j))) to n (itr (sCst (ap &&& twos (fun i j => mOnce μ (nI i) (nI j))) to) n (sB σ)) := rfl
        have e2 : itr (fun c => mSt μ ap to (enc R 6 c)) (n + 1) (0, -6) = mSt μ ap to (enc R 6 n) (itr (fun c => mSt μ ap to (enc R 6 c)) n (0, -6)) := rfl
        rw [e1, e2, h1, h2]
        have hl : enc R 6 n < 4096 := enc_lt R 6 n (by omega)
        obtain ⟨s1, s2⟩ := spr_v (τ := τ) (R := R) (fun k hk => by rw [← hR k hk]; unfold sRid; rw [h5]) (c := n) (by omega)
        have s19 := s1 19 (by decide)
        have ew : (mC2 μ ap to (nI (enc R 6 n))).1 = (decide (sTwo (sC1 τ n) &&& (ap &&& twos (fun i j => mOnce μ (nI i) (nI j))) = 0) && decide (to &&& (sTwo (sC1 τ n) ^^^ (-1)) = 0)) := by
          rw [mC2_eq μ ap to hl, mC1_eq μ hl, ← eR, vld_enc, Bool.true_and]
          unfold sC1
          rw [sTwo_eq (dg_lt _) s2]
          have := tw_check (ap := ap) ht (fun i j => decide (dg (enc R 6 n) i = dg (enc R 6 n) j)) (fun i j => mOnce μ (nI i) (nI j))
          rw [decide_eq_true C0, Bool.true_and] at this
          exact this.symm
        unfold sCst
        rw [← ew]
        cases hw : (mC2 μ ap to (nI (enc R 6 n))).1 with
        | false =>
          rw [if_neg (by decide), mSt_no hw]
          refine ⟨_, x, y, j, rfl, rfl, ?_, ?_, ?_, by omega, h7, h8, h9⟩
          · unfold sC1; rw [s19]; exact h3
          · unfold sC1; rw [s19]; exact h4
          · unfold sC1; rw [s19]; exact h5
        | true =>
          rw [if_pos rfl]
          have nn := numD_lt (dg_lt (enc R 6 n)) 6
          have eS : mSt μ ap to (enc R 6 n) (x, y) = (x + 1, if y < 0 then nI (numD (dg (enc R 6 n)) 6) else y) := by
            unfold mSt
            rw [hw, mC1_eq μ hl]
            simp only [if_true, Bool.true_and, decide_eq_true_eq]
          rw [eS]
          have c20 : sC2 τ n 19 0 = x := by unfold sC2 sC1; rw [ups_j (by decide), s19]; exact h3
          have c21 : sC2 τ n 19 1 = if y < 0 then nI (numD (dg (enc R 6 n)) 6) else y := by
            unfold sC2 sC1
            rw [ups_s, s19, h3, h4, h7, sNum_eq s2]
            by_cases j0 : j = 0
            · rw [j0, h8 j0]; rfl
            · rw [if_neg (h9 j0), if_neg (show ¬ nI j = 0 from fun q => j0 ((nI_eq (b := 0) (by omega) (by decide)).mp q))]
          refine ⟨_, x + 1, _, j + 1, rfl, rfl, ?_, ?_, ?_, by omega, by rw [h7, nI_1], fun q => absurd q (by omega), fun _ => ?_⟩
          · unfold sC3; rw [ups_s, c20]
          · unfold sC3; rw [ups_j (by decide), c21]
          · unfold sC3 sC2 sC1; rw [ups_j (by decide), ups_j (by decide), s19]; exact h5
          · split
            · exact nI_pos (by omega)
            · assumption
    obtain ⟨τ, x, y, j, h1, h2, h3, h4, -⟩ := key (many R 6) (Nat.le_refl _)
    rw [h1, h2]
    exact ⟨h3, h4⟩
  · rw [if_neg C0, b0, b1]
    have eY : mSts μ ap to = (0, -6) := by
      unfold mSts
      refine itr_id (fun c hc => mSt_no ?_ _)
      rw [mC2_eq μ ap to hc, ← tw_check (ap := ap) ht (fun i j => decide (dg c i = dg c j)) (fun i j => mOnce μ (nI i) (nI j)), decide_eq_false C0, Bool.false_and, Bool.and_false]
    rw [eY]
    exact ⟨rfl, rfl⟩
theorem sx_spr (σ : St) (c : Int32) : SameX σ (sSpr σ c) := by
  refine sx_itr2 (f := sSp) (fun n a => ?_) 6 (c, σ)
  unfold sSp; split
  · exact sx_ups _ _ _ (by omega)
  · exact sx_ups _ _ _ (by omega)
theorem sx_cnt (σ : St) (ap to : Int32) : SameX σ (sCnt σ ap to) := by
  have hb : SameX σ (sB σ) := sx_tr (sx_tr (sx_ups _ _ _ (by omega)) (sx_ups _ _ _ (by omega))) (sx_ups _ _ _ (by omega))
  unfold sCnt; split
  · refine sx_tr hb (sx_itr (fun n τ => ?_) _ _)
    unfold sCst; split
    · exact sx_tr (sx_spr τ _) (sx_tr (sx_ups _ _ _ (by omega)) (sx_ups _ _ _ (by omega)))
    · exact sx_spr τ _
  · exact hb
theorem SX_seats (σ : St) (a b w : Int32) : SameX σ (X_seats σ a b w).2 := by
  unfold X_seats; split
  · exact sx_cnt σ a b
  · exact sx_rf σ
theorem SY_seats (μ : St) (a b w : Int32) : SameY μ (Y_seats μ a b w).2 := by
  unfold Y_seats; split
  · exact sy_rf μ
  · exact sy_rf μ
theorem A_seats {σ μ : St} (h : Main σ μ) (a b w : Int32) : (X_seats σ a b w).1 = (Y_seats μ a b w).1 := by
  unfold X_seats Y_seats
  by_cases hg : ((wth a 0 32767 && wth b 0 32767) && wth w 0 1) = true
  · rw [if_pos hg, if_pos hg]
    rw [Bool.and_eq_true, Bool.and_eq_true] at hg
    obtain ⟨e1, e2⟩ := cnt_eq h (ap := a) (to := b) hg.1.2
    dsimp only
    rw [e1, e2]
  · rw [if_neg hg, if_neg hg]
theorem B_seats {σ : St} (hI : Inv σ) {a0 a1 a2 : Int32} : ∃ (r : Int32) (σ1 σ2 : St), Ct MX7_seats [.ref 0, .int a0, .int a1, .int a2] σ (some (.int r)) σ1 ∧ Ct MX8_seats [.ref 42, .int a0, .int a1, .int a2] σ1 (some (.int r)) σ2 ∧ Inv σ2 := by
  have e1 := A_seats (mid_read hI (SX_seats σ a0 a1 a2)).1 a0 a1 a2
  refine ⟨_, _, _, t_X7_seats, ?_, inv_read hI (SX_seats σ a0 a1 a2) (SY_seats _ a0 a1 a2)⟩
  rw [e1]; exact t_X8_seats
