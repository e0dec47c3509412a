/-! the train's words -/
def trd (σ : St) (k : Nat) (t m : Int32) : Bool := rd (σ (k + 1)) (σ (k + 2)) (σ k 0) t m
def tri (σ : St) (k : Nat) (t c m : Int32) : Bool := trd σ k t m && decide (σ (k + 3) (ix t) = c)
def ttn (σ : St) (k : Nat) (m : Int32) : Bool := tn (σ k 5) m
def tminOf (σ : St) (k : Nat) (t : Int32) : Int32 := cntB (fun n => trd σ k t (nI n)) (clN (σ k 0))
def ttol (σ : St) (k : Nat) : Int32 := cntB (fun n => ttn σ k (nI n)) (clN (σ k 0))
def trdo (σ : St) (k : Nat) (c m : Int32) : Int32 := setB (fun n => tri σ k (nI n) c m) 6
def tcomp (σ : St) (k : Nat) (t m : Int32) : Int32 := if isTr t && trd σ k t m then trdo σ k (σ (k + 3) (ix t)) m &&& (((1 : Int32) <<< (t &&& 31)) ^^^ (-1)) else 0
def trol (σ : St) (k : Nat) : Int32 := setB (fun n => decide (0 < tminOf σ k (nI n))) 6
def ttog (σ : St) (k : Nat) (a b : Int32) : Bool := exB (fun n => trd σ k a (nI n) && trd σ k b (nI n)) (clN (σ k 0))
def tfrom (σ : St) (k : Nat) (t : Int32) : Bool := exB (fun j => trd σ k t (σ k 1 + nI j)) (cnt (σ k 1) (σ k 0))
def hst (σ : St) (k : Nat) (c : Int32) (n : Nat) (a : Int32 × Int32) : Int32 × Int32 := if (decide (a.2 < σ (k + 5) n) && !decide (σ (k + 4) n < σ (k + 5) n)) && (decide (σ (k + 3) n = c) && trd σ k (nI n) (σ k 1)) then (nI n, σ (k + 5) n) else a
def thold (σ : St) (k : Nat) (c : Int32) : Int32 := if ttn σ k (σ k 1) then -6 else (itr (hst σ k c) 6 (-6, 0)).1
def tisH (σ : St) (k : Nat) (t : Int32) : Bool := isTr t && decide (thold σ k (σ (k + 3) (ix t)) = t)
def tmay (σ : St) (k : Nat) (t : Int32) : Bool := (isTr t && trd σ k t (σ k 1)) && (decide (thold σ k (σ (k + 3) (ix t)) = -6) || decide (thold σ k (σ (k + 3) (ix t)) = t))
def tpay1 (σ : St) (k : Nat) (t v : Int32) : St := ups σ (k + 4) (ix t) (σ (k + 4) (ix t) - v)
def tpay (σ : St) (k : Nat) (t v : Int32) : St := if isTr t then ups (tpay1 σ k t v) k 2 (tpay1 σ k t v k 2 + v) else σ
def tpst (k : Nat) (c : Nat) (τ : St) : St := if isTr (thold τ k (nI c)) then tpay τ k (thold τ k (nI c)) (τ (k + 5) (ix (thold τ k (nI c)))) else τ
def tpas3 (σ : St) (k : Nat) : St := itr (tpst k) 3 σ
def tpas (σ : St) (k : Nat) : St := if σ k 1 < σ k 0 then ups (tpas3 σ k) k 1 (tpas3 σ k k 1 + 1) else σ
def tcouv (σ : St) (k : Nat) (h : Int32) : Int32 := if σ (k + 4) (ix h) < σ k 3 then σ (k + 4) (ix h) else σ k 3
def tcou1 (σ : St) (k : Nat) (h : Int32) : St := tpay σ k h (tcouv σ k h)
def tcou (σ : St) (k : Nat) (t : Int32) : St := if isTr t && trd σ k t (σ k 1) then (if isTr (thold σ k (σ (k + 3) (ix t))) && !decide (thold σ k (σ (k + 3) (ix t)) = t) then ups (tcou1 σ k (thold σ k (σ (k + 3) (ix t)))) k 4 (tcou1 σ k (thold σ k (σ (k + 3) (ix t))) k 4 + tcouv σ k (thold σ k (σ (k + 3) (ix t)))) else σ) else σ
def tsetB (σ : St) (k : Nat) (t b : Int32) : St := if isTr t then ups σ (k + 5) (ix t) b else σ
def tsetR (σ : St) (k : Nat) (t a b : Int32) : St := if isTr t then ups (ups σ (k + 1) (ix t) a) (k + 2) (ix t) b else σ
def rem (x y : Int32) : Int32 := x - x / y * y
def tdraw (σ : St) (k : Nat) (x : Int32) : St := if ¬ 1 < rem x 8 then tpas σ k else if ¬ 4 < rem x 8 then tsetB σ k (rem (x / 8) 6) (rem (x / 64) 20) else tcou σ k (rem (x / 8) 6)
def tkst (σ : St) (k : Nat) (m kn : Int32) (c : Nat) (a : Int32) : Int32 := if trdo σ k (nI c) m &&& kn = 0 then a else a ||| trdo σ k (nI c) m
def tkno (σ : St) (k : Nat) (m kn : Int32) : Int32 := if ttn σ k m then itr (tkst σ k m kn) 3 kn else kn
def tcp0 (σ : St) (k j : Nat) : St := ups σ k 0 (σ j 0)
def tcp1 (σ : St) (k j : Nat) : St := ups (tcp0 σ k j) k 1 (tcp0 σ k j j 1)
def tcp2 (σ : St) (k j : Nat) : St := ups (tcp1 σ k j) k 2 (tcp1 σ k j j 2)
def tcp3 (σ : St) (k j : Nat) : St := ups (tcp2 σ k j) k 3 (tcp2 σ k j j 3)
def tcp4 (σ : St) (k j : Nat) : St := ups (tcp3 σ k j) k 4 0
def tcp5 (σ : St) (k j : Nat) : St := ups (tcp4 σ k j) k 5 (tcp4 σ k j j 5)
def cpA (σ : St) (p q n : Nat) : St := ups σ p n (σ q n)
def tcpst (k j n : Nat) (τ : St) : St := cpA (cpA (cpA (cpA (cpA τ (k + 1) (j + 1) n) (k + 2) (j + 2) n) (k + 3) (j + 3) n) (k + 4) (j + 4) n) (k + 5) (j + 5) n
def tcopy (σ : St) (k j : Nat) : St := itr (tcpst k j) 6 (tcp5 σ k j)

set_option maxRecDepth 20000 in
set_option maxHeartbeats 4000000 in
theorem t_X7_isWithin {σ : St} {v a b : Int32} : Ct MX7_isWithin [.int v, .int a, .int b] σ (some (.int (bI (wth v a b)))) (σ) := by
  refine ct_of (ls0 := [some (.int v), some (.int a), some (.int b)]) ok_MX7_isWithin rfl (Nat.le_of_ble_eq_true rfl) rfl ?_
  intro g X F
  refine zw_iload_0 X dX7_isWithin_0 ?_
  refine zw_iload_1 X dX7_isWithin_1 ?_
  refine zw_icmplt (tgt := 14) X dX7_isWithin_2 (by decide) (fun c_2 => ?_) (fun c_2 => ?_)
  · refine zw_iconst (v := 0) X dX7_isWithin_14 ik_0 ?_
    exact zw_zret X F dX7_isWithin_15 rfl (by first | (simp only [wth, bI_0', bI_1', bI_0, bI_1, bI_inj, c_2, decide_true, decide_false, Bool.and_true, Bool.true_and, Bool.and_false, Bool.false_and, Bool.or_true, Bool.true_or, Bool.or_false, Bool.false_or, Bool.not_true, Bool.not_false, if_true, if_false, ite_true, ite_false, Bool.false_eq_true, not_true_eq_false, not_false_eq_true, bI_t, bI_f, decide_eq_true_eq, reduceCtorEq]; done) | (simp [wth, bI_0', bI_1', bI_0, bI_1, bI_inj, c_2]; done) | simp_all) (rfl)
  · refine zw_iload_0 X dX7_isWithin_5 ?_
    refine zw_iload_2 X dX7_isWithin_6 ?_
    refine zw_icmpgt (tgt := 14) X dX7_isWithin_7 (by decide) (fun c_7 => ?_) (fun c_7 => ?_)
    · refine zw_iconst (v := 0) X dX7_isWithin_14 ik_0 ?_
      exact zw_zret X F dX7_isWithin_15 rfl (by first | (simp only [wth, bI_0', bI_1', bI_0, bI_1, bI_inj, c_2, c_7, decide_true, decide_false, Bool.and_true, Bool.true_and, Bool.and_false, Bool.false_and, Bool.or_true, Bool.true_or, Bool.or_false, Bool.false_or, Bool.not_true, Bool.not_false, if_true, if_false, ite_true, ite_false, Bool.false_eq_true, not_true_eq_false, not_false_eq_true, bI_t, bI_f, decide_eq_true_eq, reduceCtorEq]; done) | (simp [wth, bI_0', bI_1', bI_0, bI_1, bI_inj, c_2, c_7]; done) | simp_all) (rfl)
    · refine zw_iconst (v := 1) X dX7_isWithin_10 ik_1 ?_
      refine zw_goto (tgt := 15) X dX7_isWithin_11 (by decide) ?_
      exact zw_zret X F dX7_isWithin_15 rfl (by first | (simp only [wth, bI_0', bI_1', bI_0, bI_1, bI_inj, c_2, c_7, decide_true, decide_false, Bool.and_true, Bool.true_and, Bool.and_false, Bool.false_and, Bool.or_true, Bool.true_or, Bool.or_false, Bool.false_or, Bool.not_true, Bool.not_false, if_true, if_false, ite_true, ite_false, Bool.false_eq_true, not_true_eq_false, not_false_eq_true, bI_t, bI_f, decide_eq_true_eq, reduceCtorEq]; done) | (simp [wth, bI_0', bI_1', bI_0, bI_1, bI_inj, c_2, c_7]; done) | simp_all) (rfl)
set_option maxRecDepth 20000 in
set_option maxHeartbeats 4000000 in
theorem t_X7_isTraveller {σ : St} {v : Int32} : Ct MX7_isTraveller [.int v] σ (some (.int (bI (isTr v)))) (σ) := by
  refine ct_of (ls0 := [some (.int v)]) ok_MX7_isTraveller rfl (Nat.le_of_ble_eq_true rfl) rfl ?_
  intro g X F
  refine zw_iload_0 X dX7_isTraveller_0 ?_
  refine zw_iflt (tgt := 14) X dX7_isTraveller_1 (by decide) (fun c_1 => ?_) (fun c_1 => ?_)
  · refine zw_iconst (v := 0) X dX7_isTraveller_14 ik_0 ?_
    exact zw_zret X F dX7_isTraveller_15 rfl (by first | (simp only [isTr, bI_0', bI_1', bI_0, bI_1, bI_inj, c_1, decide_true, decide_false, Bool.and_true, Bool.true_and, Bool.and_false, Bool.false_and, Bool.or_true, Bool.true_or, Bool.or_false, Bool.false_or, Bool.not_true, Bool.not_false, if_true, if_false, ite_true, ite_false, Bool.false_eq_true, not_true_eq_false, not_false_eq_true, bI_t, bI_f, decide_eq_true_eq, reduceCtorEq]; done) | (simp [isTr, bI_0', bI_1', bI_0, bI_1, bI_inj, c_1]; done) | simp_all) (rfl)
  · refine zw_iload_0 X dX7_isTraveller_4 ?_
    refine zw_bipush (v := 6) X dX7_isTraveller_5 bk_6 ?_
    refine zw_icmpge (tgt := 14) X dX7_isTraveller_7 (by decide) (fun c_7 => ?_) (fun c_7 => ?_)
    · refine zw_iconst (v := 0) X dX7_isTraveller_14 ik_0 ?_
      exact zw_zret X F dX7_isTraveller_15 rfl (by first | (simp only [isTr, bI_0', bI_1', bI_0, bI_1, bI_inj, c_1, c_7, decide_true, decide_false, Bool.and_true, Bool.true_and, Bool.and_false, Bool.false_and, Bool.or_true, Bool.true_or, Bool.or_false, Bool.false_or, Bool.not_true, Bool.not_false, if_true, if_false, ite_true, ite_false, Bool.false_eq_true, not_true_eq_false, not_false_eq_true, bI_t, bI_f, decide_eq_true_eq, reduceCtorEq]; done) | (simp [isTr, bI_0', bI_1', bI_0, bI_1, bI_inj, c_1, c_7]; done) | simp_all) (rfl)
    · refine zw_iconst (v := 1) X dX7_isTraveller_10 ik_1 ?_
      refine zw_goto (tgt := 15) X dX7_isTraveller_11 (by decide) ?_
      exact zw_zret X F dX7_isTraveller_15 rfl (by first | (simp only [isTr, bI_0', bI_1', bI_0, bI_1, bI_inj, c_1, c_7, decide_true, decide_false, Bool.and_true, Bool.true_and, Bool.and_false, Bool.false_and, Bool.or_true, Bool.true_or, Bool.or_false, Bool.false_or, Bool.not_true, Bool.not_false, if_true, if_false, ite_true, ite_false, Bool.false_eq_true, not_true_eq_false, not_false_eq_true, bI_t, bI_f, decide_eq_true_eq, reduceCtorEq]; done) | (simp [isTr, bI_0', bI_1', bI_0, bI_1, bI_inj, c_1, c_7]; done) | simp_all) (rfl)
set_option maxRecDepth 20000 in
set_option maxHeartbeats 4000000 in
theorem t_X7_isCompartment {σ : St} {v : Int32} : Ct MX7_isCompartment [.int v] σ (some (.int (bI (isCo v)))) (σ) := by
  refine ct_of (ls0 := [some (.int v)]) ok_MX7_isCompartment rfl (Nat.le_of_ble_eq_true rfl) rfl ?_
  intro g X F
  refine zw_iload_0 X dX7_isCompartment_0 ?_
  refine zw_iflt (tgt := 13) X dX7_isCompartment_1 (by decide) (fun c_1 => ?_) (fun c_1 => ?_)
  · refine zw_iconst (v := 0) X dX7_isCompartment_13 ik_0 ?_
    exact zw_zret X F dX7_isCompartment_14 rfl (by first | (simp only [isCo, bI_0', bI_1', bI_0, bI_1, bI_inj, c_1, decide_true, decide_false, Bool.and_true, Bool.true_and, Bool.and_false, Bool.false_and, Bool.or_true, Bool.true_or, Bool.or_false, Bool.false_or, Bool.not_true, Bool.not_false, if_true, if_false, ite_true, ite_false, Bool.false_eq_true, not_true_eq_false, not_false_eq_true, bI_t, bI_f, decide_eq_true_eq, reduceCtorEq]; done) | (simp [isCo, bI_0', bI_1', bI_0, bI_1, bI_inj, c_1]; done) | simp_all) (rfl)
  · refine zw_iload_0 X dX7_isCompartment_4 ?_
    refine zw_iconst (v := 3) X dX7_isCompartment_5 ik_3 ?_
    refine zw_icmpge (tgt := 13) X dX7_isCompartment_6 (by decide) (fun c_6 => ?_) (fun c_6 => ?_)
    · refine zw_iconst (v := 0) X dX7_isCompartment_13 ik_0 ?_
      exact zw_zret X F dX7_isCompartment_14 rfl (by first | (simp only [isCo, bI_0', bI_1', bI_0, bI_1, bI_inj, c_1, c_6, decide_true, decide_false, Bool.and_true, Bool.true_and, Bool.and_false, Bool.false_and, Bool.or_true, Bool.true_or, Bool.or_false, Bool.false_or, Bool.not_true, Bool.not_false, if_true, if_false, ite_true, ite_false, Bool.false_eq_true, not_true_eq_false, not_false_eq_true, bI_t, bI_f, decide_eq_true_eq, reduceCtorEq]; done) | (simp [isCo, bI_0', bI_1', bI_0, bI_1, bI_inj, c_1, c_6]; done) | simp_all) (rfl)
    · refine zw_iconst (v := 1) X dX7_isCompartment_9 ik_1 ?_
      refine zw_goto (tgt := 14) X dX7_isCompartment_10 (by decide) ?_
      exact zw_zret X F dX7_isCompartment_14 rfl (by first | (simp only [isCo, bI_0', bI_1', bI_0, bI_1, bI_inj, c_1, c_6, decide_true, decide_false, Bool.and_true, Bool.true_and, Bool.and_false, Bool.false_and, Bool.or_true, Bool.true_or, Bool.or_false, Bool.false_or, Bool.not_true, Bool.not_false, if_true, if_false, ite_true, ite_false, Bool.false_eq_true, not_true_eq_false, not_false_eq_true, bI_t, bI_f, decide_eq_true_eq, reduceCtorEq]; done) | (simp [isCo, bI_0', bI_1', bI_0, bI_1, bI_inj, c_1, c_6]; done) | simp_all) (rfl)
set_option maxRecDepth 20000 in
set_option maxHeartbeats 4000000 in
theorem t_X7_isMinute {σ : St} {v : Int32} : Ct MX7_isMinute [.int v] σ (some (.int (bI (isMi v)))) (σ) := by
  refine ct_of (ls0 := [some (.int v)]) ok_MX7_isMinute rfl (Nat.le_of_ble_eq_true rfl) rfl ?_
  intro g X F
  refine zw_iload_0 X dX7_isMinute_0 ?_
  refine zw_iflt (tgt := 14) X dX7_isMinute_1 (by decide) (fun c_1 => ?_) (fun c_1 => ?_)
  · refine zw_iconst (v := 0) X dX7_isMinute_14 ik_0 ?_
    exact zw_zret X F dX7_isMinute_15 rfl (by first | (simp only [isMi, bI_0', bI_1', bI_0, bI_1, bI_inj, c_1, decide_true, decide_false, Bool.and_true, Bool.true_and, Bool.and_false, Bool.false_and, Bool.or_true, Bool.true_or, Bool.or_false, Bool.false_or, Bool.not_true, Bool.not_false, if_true, if_false, ite_true, ite_false, Bool.false_eq_true, not_true_eq_false, not_false_eq_true, bI_t, bI_f, decide_eq_true_eq, reduceCtorEq]; done) | (simp [isMi, bI_0', bI_1', bI_0, bI_1, bI_inj, c_1]; done) | simp_all) (rfl)
  · refine zw_iload_0 X dX7_isMinute_4 ?_
    refine zw_bipush (v := 30) X dX7_isMinute_5 bk_30 ?_
    refine zw_icmpge (tgt := 14) X dX7_isMinute_7 (by decide) (fun c_7 => ?_) (fun c_7 => ?_)
    · refine zw_iconst (v := 0) X dX7_isMinute_14 ik_0 ?_
      exact zw_zret X F dX7_isMinute_15 rfl (by first | (simp only [isMi, bI_0', bI_1', bI_0, bI_1, bI_inj, c_1, c_7, decide_true, decide_false, Bool.and_true, Bool.true_and, Bool.and_false, Bool.false_and, Bool.or_true, Bool.true_or, Bool.or_false, Bool.false_or, Bool.not_true, Bool.not_false, if_true, if_false, ite_true, ite_false, Bool.false_eq_true, not_true_eq_false, not_false_eq_true, bI_t, bI_f, decide_eq_true_eq, reduceCtorEq]; done) | (simp [isMi, bI_0', bI_1', bI_0, bI_1, bI_inj, c_1, c_7]; done) | simp_all) (rfl)
    · refine zw_iconst (v := 1) X dX7_isMinute_10 ik_1 ?_
      refine zw_goto (tgt := 15) X dX7_isMinute_11 (by decide) ?_
      exact zw_zret X F dX7_isMinute_15 rfl (by first | (simp only [isMi, bI_0', bI_1', bI_0, bI_1, bI_inj, c_1, c_7, decide_true, decide_false, Bool.and_true, Bool.true_and, Bool.and_false, Bool.false_and, Bool.or_true, Bool.true_or, Bool.or_false, Bool.false_or, Bool.not_true, Bool.not_false, if_true, if_false, ite_true, ite_false, Bool.false_eq_true, not_true_eq_false, not_false_eq_true, bI_t, bI_f, decide_eq_true_eq, reduceCtorEq]; done) | (simp [isMi, bI_0', bI_1', bI_0, bI_1, bI_inj, c_1, c_7]; done) | simp_all) (rfl)
set_option maxRecDepth 20000 in
set_option maxHeartbeats 4000000 in
theorem t_X5_isTunnel {σ : St} {k : Nat} (hT : isT k) {m : Int32} : Ct MX5_isTunnel [.ref k, .int m] σ (some (.int (bI (ttn σ k m)))) (σ) := by
  refine ct_of (ls0 := [some (.ref k), some (.int m)]) ok_MX5_isTunnel rfl (Nat.le_of_ble_eq_true rfl) rfl ?_
  intro g X F
  refine zw_iload_1 X dX5_isTunnel_0 ?_
  refine zw_iflt (tgt := 25) X dX5_isTunnel_1 (by decide) (fun c_1 => ?_) (fun c_1 => ?_)
  · refine zw_iconst (v := 0) X dX5_isTunnel_25 ik_0 ?_
    exact zw_zret X F dX5_isTunnel_26 rfl (by first | (simp only [ttn, tn, bI_0', bI_1', bI_0, bI_1, bI_inj, c_1, decide_true, decide_false, Bool.and_true, Bool.true_and, Bool.and_false, Bool.false_and, Bool.or_true, Bool.true_or, Bool.or_false, Bool.false_or, Bool.not_true, Bool.not_false, if_true, if_false, ite_true, ite_false, Bool.false_eq_true, not_true_eq_false, not_false_eq_true, bI_t, bI_f, decide_eq_true_eq, reduceCtorEq]; done) | (simp [ttn, tn, bI_0', bI_1', bI_0, bI_1, bI_inj, c_1]; done) | simp_all) (rfl)
  · refine zw_iload_1 X dX5_isTunnel_4 ?_
    refine zw_bipush (v := 30) X dX5_isTunnel_5 bk_30 ?_
    refine zw_icmpge (tgt := 25) X dX5_isTunnel_7 (by decide) (fun c_7 => ?_) (fun c_7 => ?_)
    · refine zw_iconst (v := 0) X dX5_isTunnel_25 ik_0 ?_
      exact zw_zret X F dX5_isTunnel_26 rfl (by first | (simp only [ttn, tn, bI_0', bI_1', bI_0, bI_1, bI_inj, c_1, c_7, decide_true, decide_false, Bool.and_true, Bool.true_and, Bool.and_false, Bool.false_and, Bool.or_true, Bool.true_or, Bool.or_false, Bool.false_or, Bool.not_true, Bool.not_false, if_true, if_false, ite_true, ite_false, Bool.false_eq_true, not_true_eq_false, not_false_eq_true, bI_t, bI_f, decide_eq_true_eq, reduceCtorEq]; done) | (simp [ttn, tn, bI_0', bI_1', bI_0, bI_1, bI_inj, c_1, c_7]; done) | simp_all) (rfl)
    · refine zw_aload_0 X dX5_isTunnel_10 ?_
      refine zw_getI X dX5_isTunnel_11 fl_X5_43 ck_X5 hT.1 rfl ?_
      refine zw_iconst (v := 1) X dX5_isTunnel_14 ik_1 ?_
      refine zw_iload_1 X dX5_isTunnel_15 ?_
      refine zw_ishl X dX5_isTunnel_16 ?_
      refine zw_iand X dX5_isTunnel_17 ?_
      refine zw_ifeq (tgt := 25) X dX5_isTunnel_18 (by decide) (fun c_18 => ?_) (fun c_18 => ?_)
      · refine zw_iconst (v := 0) X dX5_isTunnel_25 ik_0 ?_
        exact zw_zret X F dX5_isTunnel_26 rfl (by first | (simp only [ttn, tn, bI_0', bI_1', bI_0, bI_1, bI_inj, c_1, c_7, eq_true c_18, decide_true, decide_false, Bool.and_true, Bool.true_and, Bool.and_false, Bool.false_and, Bool.or_true, Bool.true_or, Bool.or_false, Bool.false_or, Bool.not_true, Bool.not_false, if_true, if_false, ite_true, ite_false, Bool.false_eq_true, not_true_eq_false, not_false_eq_true, bI_t, bI_f, decide_eq_true_eq, reduceCtorEq]; done) | (simp [ttn, tn, bI_0', bI_1', bI_0, bI_1, bI_inj, c_1, c_7, eq_true c_18]; done) | simp_all) (rfl)
      · refine zw_iconst (v := 1) X dX5_isTunnel_21 ik_1 ?_
        refine zw_goto (tgt := 26) X dX5_isTunnel_22 (by decide) ?_
        exact zw_zret X F dX5_isTunnel_26 rfl (by first | (simp only [ttn, tn, bI_0', bI_1', bI_0, bI_1, bI_inj, c_1, c_7, c_18, decide_true, decide_false, Bool.and_true, Bool.true_and, Bool.and_false, Bool.false_and, Bool.or_true, Bool.true_or, Bool.or_false, Bool.false_or, Bool.not_true, Bool.not_false, if_true, if_false, ite_true, ite_false, Bool.false_eq_true, not_true_eq_false, not_false_eq_true, bI_t, bI_f, decide_eq_true_eq, reduceCtorEq]; done) | (simp [ttn, tn, bI_0', bI_1', bI_0, bI_1, bI_inj, c_1, c_7, c_18]; done) | simp_all) (rfl)
set_option maxRecDepth 20000 in
set_option maxHeartbeats 4000000 in
theorem t_X5_ridesAt {σ : St} {k : Nat} (hT : isT k) {t m : Int32} : Ct MX5_ridesAt [.ref k, .int t, .int m] σ (some (.int (bI (trd σ k t m)))) (σ) := by
  refine ct_of (ls0 := [some (.ref k), some (.int t), some (.int m)]) ok_MX5_ridesAt rfl (Nat.le_of_ble_eq_true rfl) rfl ?_
  intro g X F
  refine zw_iload_1 X dX5_ridesAt_0 ?_
  refine zw_iflt (tgt := 22) X dX5_ridesAt_1 (by decide) (fun c_1 => ?_) (fun c_1 => ?_)
  · refine zw_iconst (v := 0) X dX5_ridesAt_22 ik_0 ?_
    exact zw_zret X F dX5_ridesAt_23 rfl (by first | (simp only [trd, rd, isTr, bI_0', bI_1', bI_0, bI_1, bI_inj, c_1, decide_true, decide_false, Bool.and_true, Bool.true_and, Bool.and_false, Bool.false_and, Bool.or_true, Bool.true_or, Bool.or_false, Bool.false_or, Bool.not_true, Bool.not_false, if_true, if_false, ite_true, ite_false, Bool.false_eq_true, not_true_eq_false, not_false_eq_true, bI_t, bI_f, decide_eq_true_eq, reduceCtorEq]; done) | (simp [trd, rd, isTr, bI_0', bI_1', bI_0, bI_1, bI_inj, c_1]; done) | simp_all) (rfl)
  · refine zw_iload_1 X dX5_ridesAt_4 ?_
    refine zw_bipush (v := 6) X dX5_ridesAt_5 bk_6 ?_
    refine zw_icmpge (tgt := 22) X dX5_ridesAt_7 (by decide) (fun c_7 => ?_) (fun c_7 => ?_)
    · refine zw_iconst (v := 0) X dX5_ridesAt_22 ik_0 ?_
      exact zw_zret X F dX5_ridesAt_23 rfl (by first | (simp only [trd, rd, isTr, bI_0', bI_1', bI_0, bI_1, bI_inj, c_1, c_7, decide_true, decide_false, Bool.and_true, Bool.true_and, Bool.and_false, Bool.false_and, Bool.or_true, Bool.true_or, Bool.or_false, Bool.false_or, Bool.not_true, Bool.not_false, if_true, if_false, ite_true, ite_false, Bool.false_eq_true, not_true_eq_false, not_false_eq_true, bI_t, bI_f, decide_eq_true_eq, reduceCtorEq]; done) | (simp [trd, rd, isTr, bI_0', bI_1', bI_0, bI_1, bI_inj, c_1, c_7]; done) | simp_all) (rfl)
    · refine zw_iload_2 X dX5_ridesAt_10 ?_
      refine zw_iflt (tgt := 22) X dX5_ridesAt_11 (by decide) (fun c_11 => ?_) (fun c_11 => ?_)
      · refine zw_iconst (v := 0) X dX5_ridesAt_22 ik_0 ?_
        exact zw_zret X F dX5_ridesAt_23 rfl (by first | (simp only [trd, rd, isTr, bI_0', bI_1', bI_0, bI_1, bI_inj, c_1, c_7, c_11, decide_true, decide_false, Bool.and_true, Bool.true_and, Bool.and_false, Bool.false_and, Bool.or_true, Bool.true_or, Bool.or_false, Bool.false_or, Bool.not_true, Bool.not_false, if_true, if_false, ite_true, ite_false, Bool.false_eq_true, not_true_eq_false, not_false_eq_true, bI_t, bI_f, decide_eq_true_eq, reduceCtorEq]; done) | (simp [trd, rd, isTr, bI_0', bI_1', bI_0, bI_1, bI_inj, c_1, c_7, c_11]; done) | simp_all) (rfl)
      · refine zw_iload_2 X dX5_ridesAt_14 ?_
        refine zw_aload_0 X dX5_ridesAt_15 ?_
        refine zw_getI X dX5_ridesAt_16 fl_X5_9 ck_X5 hT.1 rfl ?_
        refine zw_icmplt (tgt := 24) X dX5_ridesAt_19 (by decide) (fun c_19 => ?_) (fun c_19 => ?_)
        · refine zw_aload_0 X dX5_ridesAt_24 ?_
          refine zw_getR X dX5_ridesAt_25 fl_X5_18 ck_X5 hT.1 rfl ?_
          refine zw_iload_1 X dX5_ridesAt_28 ?_
          refine zw_iald X dX5_ridesAt_29 hT.2.1 (isTr_in (isTr_of c_1 c_7)) ?_
          refine zw_iflt (tgt := 57) X dX5_ridesAt_30 (by decide) (fun c_30 => ?_) (fun c_30 => ?_)
          · refine zw_iconst (v := 0) X dX5_ridesAt_57 ik_0 ?_
            exact zw_zret X F dX5_ridesAt_58 rfl (by first | (simp only [trd, rd, isTr, bI_0', bI_1', bI_0, bI_1, bI_inj, c_1, c_7, c_11, c_19, c_30, decide_true, decide_false, Bool.and_true, Bool.true_and, Bool.and_false, Bool.false_and, Bool.or_true, Bool.true_or, Bool.or_false, Bool.false_or, Bool.not_true, Bool.not_false, if_true, if_false, ite_true, ite_false, Bool.false_eq_true, not_true_eq_false, not_false_eq_true, bI_t, bI_f, decide_eq_true_eq, reduceCtorEq]; done) | (simp [trd, rd, isTr, bI_0', bI_1', bI_0, bI_1, bI_inj, c_1, c_7, c_11, c_19, c_30]; done) | simp_all) (rfl)
          · refine zw_aload_0 X dX5_ridesAt_33 ?_
            refine zw_getR X dX5_ridesAt_34 fl_X5_18 ck_X5 hT.1 rfl ?_
            refine zw_iload_1 X dX5_ridesAt_37 ?_
            refine zw_iald X dX5_ridesAt_38 hT.2.1 (isTr_in (isTr_of c_1 c_7)) ?_
            refine zw_iload_2 X dX5_ridesAt_39 ?_
            refine zw_icmpgt (tgt := 57) X dX5_ridesAt_40 (by decide) (fun c_40 => ?_) (fun c_40 => ?_)
            · refine zw_iconst (v := 0) X dX5_ridesAt_57 ik_0 ?_
              exact zw_zret X F dX5_ridesAt_58 rfl (by first | (simp only [trd, rd, isTr, bI_0', bI_1', bI_0, bI_1, bI_inj, c_1, c_7, c_11, c_19, c_30, c_40, decide_true, decide_false, Bool.and_true, Bool.true_and, Bool.and_false, Bool.false_and, Bool.or_true, Bool.true_or, Bool.or_false, Bool.false_or, Bool.not_true, Bool.not_false, if_true, if_false, ite_true, ite_false, Bool.false_eq_true, not_true_eq_false, not_false_eq_true, bI_t, bI_f, decide_eq_true_eq, reduceCtorEq]; done) | (simp [trd, rd, isTr, bI_0', bI_1', bI_0, bI_1, bI_inj, c_1, c_7, c_11, c_19, c_30, c_40]; done) | simp_all) (rfl)
            · refine zw_iload_2 X dX5_ridesAt_43 ?_
              refine zw_aload_0 X dX5_ridesAt_44 ?_
              refine zw_getR X dX5_ridesAt_45 fl_X5_22 ck_X5 hT.1 rfl ?_
              refine zw_iload_1 X dX5_ridesAt_48 ?_
              refine zw_iald X dX5_ridesAt_49 hT.2.2.1 (isTr_in (isTr_of c_1 c_7)) ?_
              refine zw_icmpgt (tgt := 57) X dX5_ridesAt_50 (by decide) (fun c_50 => ?_) (fun c_50 => ?_)
              · refine zw_iconst (v := 0) X dX5_ridesAt_57 ik_0 ?_
                exact zw_zret X F dX5_ridesAt_58 rfl (by first | (simp only [trd, rd, isTr, bI_0', bI_1', bI_0, bI_1, bI_inj, c_1, c_7, c_11, c_19, c_30, c_40, c_50, decide_true, decide_false, Bool.and_true, Bool.true_and, Bool.and_false, Bool.false_and, Bool.or_true, Bool.true_or, Bool.or_false, Bool.false_or, Bool.not_true, Bool.not_false, if_true, if_false, ite_true, ite_false, Bool.false_eq_true, not_true_eq_false, not_false_eq_true, bI_t, bI_f, decide_eq_true_eq, reduceCtorEq]; done) | (simp [trd, rd, isTr, bI_0', bI_1', bI_0, bI_1, bI_inj, c_1, c_7, c_11, c_19, c_30, c_40, c_50]; done) | simp_all) (rfl)
              · refine zw_iconst (v := 1) X dX5_ridesAt_53 ik_1 ?_
                refine zw_goto (tgt := 58) X dX5_ridesAt_54 (by decide) ?_
                exact zw_zret X F dX5_ridesAt_58 rfl (by first | (simp only [trd, rd, isTr, bI_0', bI_1', bI_0, bI_1, bI_inj, c_1, c_7, c_11, c_19, c_30, c_40, c_50, decide_true, decide_false, Bool.and_true, Bool.true_and, Bool.and_false, Bool.false_and, Bool.or_true, Bool.true_or, Bool.or_false, Bool.false_or, Bool.not_true, Bool.not_false, if_true, if_false, ite_true, ite_false, Bool.false_eq_true, not_true_eq_false, not_false_eq_true, bI_t, bI_f, decide_eq_true_eq, reduceCtorEq]; done) | (simp [trd, rd, isTr, bI_0', bI_1', bI_0, bI_1, bI_inj, c_1, c_7, c_11, c_19, c_30, c_40, c_50]; done) | simp_all) (rfl)
        · refine zw_iconst (v := 0) X dX5_ridesAt_22 ik_0 ?_
          exact zw_zret X F dX5_ridesAt_23 rfl (by first | (simp only [trd, rd, isTr, bI_0', bI_1', bI_0, bI_1, bI_inj, c_1, c_7, c_11, c_19, decide_true, decide_false, Bool.and_true, Bool.true_and, Bool.and_false, Bool.false_and, Bool.or_true, Bool.true_or, Bool.or_false, Bool.false_or, Bool.not_true, Bool.not_false, if_true, if_false, ite_true, ite_false, Bool.false_eq_true, not_true_eq_false, not_false_eq_true, bI_t, bI_f, decide_eq_true_eq, reduceCtorEq]; done) | (simp [trd, rd, isTr, bI_0', bI_1', bI_0, bI_1, bI_inj, c_1, c_7, c_11, c_19]; done) | simp_all) (rfl)
theorem trd_tr {σ : St} {k : Nat} {t m : Int32} (h : trd σ k t m = true) : isTr t = true := by simp only [trd, rd, Bool.and_eq_true] at h; exact h.1
set_option maxRecDepth 20000 in
set_option maxHeartbeats 4000000 in
theorem t_X5_ridesIn {σ : St} {k : Nat} (hT : isT k) {t c m : Int32} : Ct MX5_ridesIn [.ref k, .int t, .int c, .int m] σ (some (.int (bI (tri σ k t c m)))) (σ) := by
  refine ct_of (ls0 := [some (.ref k), some (.int t), some (.int c), some (.int m)]) ok_MX5_ridesIn rfl (Nat.le_of_ble_eq_true rfl) rfl ?_
  intro g X F
  refine zw_aload_0 X dX5_ridesIn_0 ?_
  refine zw_iload_1 X dX5_ridesIn_1 ?_
  refine zw_iload_3 X dX5_ridesIn_2 ?_
  refine zw_cV_iii X dX5_ridesIn_3 lk_X5_53 ok_MX5_ridesAt vi_MX5_ridesAt rm_X5_ridesIn_X5_ridesAt hT.1 rfl (Nat.le_of_ble_eq_true rfl) (t_X5_ridesAt hT) ?_
  refine zw_ifeqB (tgt := 23) X dX5_ridesIn_6 (by decide) (fun c_6 => ?_) (fun c_6 => ?_)
  · refine zw_iconst (v := 0) X dX5_ridesIn_23 ik_0 ?_
    exact zw_zret X F dX5_ridesIn_24 rfl (by first | (simp only [tri, bI_0', bI_1', bI_0, bI_1, bI_inj, c_6, decide_true, decide_false, Bool.and_true, Bool.true_and, Bool.and_false, Bool.false_and, Bool.or_true, Bool.true_or, Bool.or_false, Bool.false_or, Bool.not_true, Bool.not_false, if_true, if_false, ite_true, ite_false, Bool.false_eq_true, not_true_eq_false, not_false_eq_true, bI_t, bI_f, decide_eq_true_eq, reduceCtorEq]; done) | (simp [tri, bI_0', bI_1', bI_0, bI_1, bI_inj, c_6]; done) | simp_all) (rfl)
  · refine zw_aload_0 X dX5_ridesIn_9 ?_
    refine zw_getR X dX5_ridesIn_10 fl_X5_25 ck_X5 hT.1 rfl ?_
    refine zw_iload_1 X dX5_ridesIn_13 ?_
    refine zw_iald X dX5_ridesIn_14 hT.2.2.2.1 (isTr_in (trd_tr c_6)) ?_
    refine zw_iload_2 X dX5_ridesIn_15 ?_
    refine zw_icmpne (tgt := 23) X dX5_ridesIn_16 (by decide) (fun c_16 => ?_) (fun c_16 => ?_)
    · refine zw_iconst (v := 0) X dX5_ridesIn_23 ik_0 ?_
      exact zw_zret X F dX5_ridesIn_24 rfl (by first | (simp only [tri, bI_0', bI_1', bI_0, bI_1, bI_inj, c_6, c_16, decide_true, decide_false, Bool.and_true, Bool.true_and, Bool.and_false, Bool.false_and, Bool.or_true, Bool.true_or, Bool.or_false, Bool.false_or, Bool.not_true, Bool.not_false, if_true, if_false, ite_true, ite_false, Bool.false_eq_true, not_true_eq_false, not_false_eq_true, bI_t, bI_f, decide_eq_true_eq, reduceCtorEq]; done) | (simp [tri, bI_0', bI_1', bI_0, bI_1, bI_inj, c_6, c_16]; done) | simp_all) (rfl)
    · refine zw_iconst (v := 1) X dX5_ridesIn_19 ik_1 ?_
      refine zw_goto (tgt := 24) X dX5_ridesIn_20 (by decide) ?_
      exact zw_zret X F dX5_ridesIn_24 rfl (by first | (simp only [tri, bI_0', bI_1', bI_0, bI_1, bI_inj, c_6, eq_true c_16, decide_true, decide_false, Bool.and_true, Bool.true_and, Bool.and_false, Bool.false_and, Bool.or_true, Bool.true_or, Bool.or_false, Bool.false_or, Bool.not_true, Bool.not_false, if_true, if_false, ite_true, ite_false, Bool.false_eq_true, not_true_eq_false, not_false_eq_true, bI_t, bI_f, decide_eq_true_eq, reduceCtorEq]; done) | (simp [tri, bI_0', bI_1', bI_0, bI_1, bI_inj, c_6, eq_true c_16]; done) | simp_all) (rfl)
set_option maxRecDepth 20000 in
set_option maxHeartbeats 4000000 in
theorem t_X5_ridesNow {σ : St} {k : Nat} (hT : isT k) {t : Int32} : Ct MX5_ridesNow [.ref k, .int t] σ (some (.int (bI (trd σ k t (σ k 1))))) (σ) := by
  refine ct_of (ls0 := [some (.ref k), some (.int t)]) ok_MX5_ridesNow rfl (Nat.le_of_ble_eq_true rfl) rfl ?_
  intro g X F
  refine zw_aload_0 X dX5_ridesNow_0 ?_
  refine zw_iload_1 X dX5_ridesNow_1 ?_
  refine zw_aload_0 X dX5_ridesNow_2 ?_
  refine zw_getI X dX5_ridesNow_3 fl_X5_34 ck_X5 hT.1 rfl ?_
  refine zw_cV_iii X dX5_ridesNow_6 lk_X5_53 ok_MX5_ridesAt vi_MX5_ridesAt rm_X5_ridesNow_X5_ridesAt hT.1 rfl (Nat.le_of_ble_eq_true rfl) (t_X5_ridesAt hT) ?_
  exact zw_zret X F dX5_ridesNow_9 rfl (rfl) (rfl)
set_option maxRecDepth 20000 in
set_option maxHeartbeats 4000000 in
theorem t_X5_tunnelsOfLine {σ : St} {k : Nat} (hT : isT k) : Ct MX5_tunnelsOfLine [.ref k] σ (some (.int (ttol σ k))) (σ) := by
  refine ct_of (ls0 := [some (.ref k), none, none]) ok_MX5_tunnelsOfLine rfl (Nat.le_of_ble_eq_true rfl) rfl ?_
  intro g X F
  refine zw_iconst (v := 0) X dX5_tunnelsOfLine_0 ik_0 ?_
  refine zw_istore_1 X dX5_tunnelsOfLine_1 ?_
  refine zw_iconst (v := 0) X dX5_tunnelsOfLine_2 ik_0 ?_
  refine zw_istore_2 X dX5_tunnelsOfLine_3 ?_
  refine zloop (α := Int32) (S := fun n a => ∀ (v4_1 : Int32) (v4_2 : Int32), v4_1 = a → v4_2 = nI n → ZW g 4 [some (.ref k), some (.int v4_1), some (.int v4_2)] [] σ) (N := clN (σ k 0)) (f := (fun n c => if ttn σ k (nI n) then c + 1 else c)) (a0 := (0 : Int32)) (fun n4 a4 hn4 ha4 ih4 v4_1 v4_2 hv4_1 hv4_2 => ?_) (fun a4 ha4 v4_1 v4_2 hv4_1 hv4_2 => ?_) _ _ rfl rfl
  · subst hv4_1 hv4_2
    refine zw_iload_2 X dX5_tunnelsOfLine_4 ?_
    refine zw_aload_0 X dX5_tunnelsOfLine_5 ?_
    refine zw_getI X dX5_tunnelsOfLine_6 fl_X5_9 ck_X5 hT.1 rfl ?_
    refine zw_icmpge_f (tgt := 29) X dX5_tunnelsOfLine_9 (by decide) ((clN_lt (Nat.le_of_lt hn4)).mpr hn4) ?_
    refine zw_aload_0 X dX5_tunnelsOfLine_12 ?_
    refine zw_iload_2 X dX5_tunnelsOfLine_13 ?_
    refine zw_cV_ii X dX5_tunnelsOfLine_14 lk_X5_46 ok_MX5_isTunnel vi_MX5_isTunnel rm_X5_tunnelsOfLine_X5_isTunnel hT.1 rfl (Nat.le_of_ble_eq_true rfl) (t_X5_isTunnel hT) ?_
    refine zw_ifeqB (tgt := 23) X dX5_tunnelsOfLine_17 (by decide) (fun c_17 => ?_) (fun c_17 => ?_)
    · refine zw_iinc_2_p1 X dX5_tunnelsOfLine_23 ?_
      refine zw_goto (tgt := 4) X dX5_tunnelsOfLine_26 (by decide) ?_
      exact ih4 _ _ (by first | (simp only [c_17, decide_true, decide_false, Bool.and_true, Bool.true_and, Bool.and_false, Bool.false_and, Bool.or_true, Bool.true_or, Bool.or_false, Bool.false_or, Bool.not_true, Bool.not_false, if_true, if_false, ite_true, ite_false, Bool.false_eq_true, not_true_eq_false, not_false_eq_true, bI_t, bI_f, decide_eq_true_eq, reduceCtorEq]; done) | (simp [c_17]; done) | simp_all) (nI_1 n4)
    · refine zw_iinc_1_p1 X dX5_tunnelsOfLine_20 ?_
      refine zw_iinc_2_p1 X dX5_tunnelsOfLine_23 ?_
      refine zw_goto (tgt := 4) X dX5_tunnelsOfLine_26 (by decide) ?_
      exact ih4 _ _ (by first | (simp only [c_17, decide_true, decide_false, Bool.and_true, Bool.true_and, Bool.and_false, Bool.false_and, Bool.or_true, Bool.true_or, Bool.or_false, Bool.false_or, Bool.not_true, Bool.not_false, if_true, if_false, ite_true, ite_false, Bool.false_eq_true, not_true_eq_false, not_false_eq_true, bI_t, bI_f, decide_eq_true_eq, reduceCtorEq]; done) | (simp [c_17]; done) | simp_all) (nI_1 n4)
  · subst hv4_1 hv4_2
    refine zw_iload_2 X dX5_tunnelsOfLine_4 ?_
    refine zw_aload_0 X dX5_tunnelsOfLine_5 ?_
    refine zw_getI X dX5_tunnelsOfLine_6 fl_X5_9 ck_X5 hT.1 rfl ?_
    refine zw_icmpge_t (tgt := 29) X dX5_tunnelsOfLine_9 (by decide) (fun h => Nat.lt_irrefl _ ((clN_lt (Nat.le_refl _)).mp h)) ?_
    refine zw_iload_1 X dX5_tunnelsOfLine_29 ?_
    exact zw_iret X F dX5_tunnelsOfLine_30 rfl (by first | (simp only [ttol, cntB, ha4, decide_true, decide_false, Bool.and_true, Bool.true_and, Bool.and_false, Bool.false_and, Bool.or_true, Bool.true_or, Bool.or_false, Bool.false_or, Bool.not_true, Bool.not_false, if_true, if_false, ite_true, ite_false, Bool.false_eq_true, not_true_eq_false, not_false_eq_true, bI_t, bI_f, decide_eq_true_eq, reduceCtorEq]; done) | (simp [ttol, cntB, ha4]; done) | simp_all) (rfl)
set_option maxRecDepth 20000 in
set_option maxHeartbeats 4000000 in
theorem t_X5_minutesOf {σ : St} {k : Nat} (hT : isT k) {t : Int32} : Ct MX5_minutesOf [.ref k, .int t] σ (some (.int (tminOf σ k t))) (σ) := by
  refine ct_of (ls0 := [some (.ref k), some (.int t), none, none]) ok_MX5_minutesOf rfl (Nat.le_of_ble_eq_true rfl) rfl ?_
  intro g X F
  refine zw_iconst (v := 0) X dX5_minutesOf_0 ik_0 ?_
  refine zw_istore_2 X dX5_minutesOf_1 ?_
  refine zw_iconst (v := 0) X dX5_minutesOf_2 ik_0 ?_
  refine zw_istore_3 X dX5_minutesOf_3 ?_
  refine zloop (α := Int32) (S := fun n a => ∀ (v4_2 : Int32) (v4_3 : Int32), v4_2 = a → v4_3 = nI n → ZW g 4 [some (.ref k), some (.int t), some (.int v4_2), some (.int v4_3)] [] σ) (N := clN (σ k 0)) (f := (fun n c => if trd σ k t (nI n) then c + 1 else c)) (a0 := (0 : Int32)) (fun n4 a4 hn4 ha4 ih4 v4_2 v4_3 hv4_2 hv4_3 => ?_) (fun a4 ha4 v4_2 v4_3 hv4_2 hv4_3 => ?_) _ _ rfl rfl
  · subst hv4_2 hv4_3
    refine zw_iload_3 X dX5_minutesOf_4 ?_
    refine zw_aload_0 X dX5_minutesOf_5 ?_
    refine zw_getI X dX5_minutesOf_6 fl_X5_9 ck_X5 hT.1 rfl ?_
    refine zw_icmpge_f (tgt := 30) X dX5_minutesOf_9 (by decide) ((clN_lt (Nat.le_of_lt hn4)).mpr hn4) ?_
    refine zw_aload_0 X dX5_minutesOf_12 ?_
    refine zw_iload_1 X dX5_minutesOf_13 ?_
    refine zw_iload_3 X dX5_minutesOf_14 ?_
    refine zw_cV_iii X dX5_minutesOf_15 lk_X5_53 ok_MX5_ridesAt vi_MX5_ridesAt rm_X5_minutesOf_X5_ridesAt hT.1 rfl (Nat.le_of_ble_eq_true rfl) (t_X5_ridesAt hT) ?_
    refine zw_ifeqB (tgt := 24) X dX5_minutesOf_18 (by decide) (fun c_18 => ?_) (fun c_18 => ?_)
    · refine zw_iinc_3_p1 X dX5_minutesOf_24 ?_
      refine zw_goto (tgt := 4) X dX5_minutesOf_27 (by decide) ?_
      exact ih4 _ _ (by first | (simp only [c_18, decide_true, decide_false, Bool.and_true, Bool.true_and, Bool.and_false, Bool.false_and, Bool.or_true, Bool.true_or, Bool.or_false, Bool.false_or, Bool.not_true, Bool.not_false, if_true, if_false, ite_true, ite_false, Bool.false_eq_true, not_true_eq_false, not_false_eq_true, bI_t, bI_f, decide_eq_true_eq, reduceCtorEq]; done) | (simp [c_18]; done) | simp_all) (nI_1 n4)
    · refine zw_iinc_2_p1 X dX5_minutesOf_21 ?_
      refine zw_iinc_3_p1 X dX5_minutesOf_24 ?_
      refine zw_goto (tgt := 4) X dX5_minutesOf_27 (by decide) ?_
      exact ih4 _ _ (by first | (simp only [c_18, decide_true, decide_false, Bool.and_true, Bool.true_and, Bool.and_false, Bool.false_and, Bool.or_true, Bool.true_or, Bool.or_false, Bool.false_or, Bool.not_true, Bool.not_false, if_true, if_false, ite_true, ite_false, Bool.false_eq_true, not_true_eq_false, not_false_eq_true, bI_t, bI_f, decide_eq_true_eq, reduceCtorEq]; done) | (simp [c_18]; done) | simp_all) (nI_1 n4)
  · subst hv4_2 hv4_3
    refine zw_iload_3 X dX5_minutesOf_4 ?_
    refine zw_aload_0 X dX5_minutesOf_5 ?_
    refine zw_getI X dX5_minutesOf_6 fl_X5_9 ck_X5 hT.1 rfl ?_
    refine zw_icmpge_t (tgt := 30) X dX5_minutesOf_9 (by decide) (fun h => Nat.lt_irrefl _ ((clN_lt (Nat.le_refl _)).mp h)) ?_
    refine zw_iload_2 X dX5_minutesOf_30 ?_
    exact zw_iret X F dX5_minutesOf_31 rfl (by first | (simp only [tminOf, cntB, ha4, decide_true, decide_false, Bool.and_true, Bool.true_and, Bool.and_false, Bool.false_and, Bool.or_true, Bool.true_or, Bool.or_false, Bool.false_or, Bool.not_true, Bool.not_false, if_true, if_false, ite_true, ite_false, Bool.false_eq_true, not_true_eq_false, not_false_eq_true, bI_t, bI_f, decide_eq_true_eq, reduceCtorEq]; done) | (simp [tminOf, cntB, ha4]; done) | simp_all) (rfl)
set_option maxRecDepth 20000 in
set_option maxHeartbeats 4000000 in
theorem t_X5_ridersOf {σ : St} {k : Nat} (hT : isT k) {c m : Int32} : Ct MX5_ridersOf [.ref k, .int c, .int m] σ (some (.int (trdo σ k c m))) (σ) := by
  refine ct_of (ls0 := [some (.ref k), some (.int c), some (.int m), none, none]) ok_MX5_ridersOf rfl (Nat.le_of_ble_eq_true rfl) rfl ?_
  intro g X F
  refine zw_iconst (v := 0) X dX5_ridersOf_0 ik_0 ?_
  refine zw_istore_3 X dX5_ridersOf_1 ?_
  refine zw_iconst (v := 0) X dX5_ridersOf_2 ik_0 ?_
  refine zw_istore_4 X dX5_ridersOf_3 ?_
  refine zloop (α := Int32) (S := fun n a => ∀ (v5_3 : Int32) (v5_4 : Int32), v5_3 = a → v5_4 = nI n → ZW g 5 [some (.ref k), some (.int c), some (.int m), some (.int v5_3), some (.int v5_4)] [] σ) (N := 6) (f := (fun n x => if tri σ k (nI n) c m then x ||| ((1 : Int32) <<< (nI n &&& 31)) else x)) (a0 := (0 : Int32)) (fun n5 a5 hn5 ha5 ih5 v5_3 v5_4 hv5_3 hv5_4 => ?_) (fun a5 ha5 v5_3 v5_4 hv5_3 hv5_4 => ?_) _ _ rfl rfl
  · subst hv5_3 hv5_4
    refine zw_iload_4 X dX5_ridersOf_5 ?_
    refine zw_bipush (v := 6) X dX5_ridersOf_7 bk_6 ?_
    refine zw_icmpge_f (tgt := 36) X dX5_ridersOf_9 (by decide) (nI_lt hn5 (by decide)) ?_
    refine zw_aload_0 X dX5_ridersOf_12 ?_
    refine zw_iload_4 X dX5_ridersOf_13 ?_
    refine zw_iload_1 X dX5_ridersOf_15 ?_
    refine zw_iload_2 X dX5_ridersOf_16 ?_
    refine zw_cV_iiii X dX5_ridersOf_17 lk_X5_57 ok_MX5_ridesIn vi_MX5_ridesIn rm_X5_ridersOf_X5_ridesIn hT.1 rfl (Nat.le_of_ble_eq_true rfl) (t_X5_ridesIn hT) ?_
    refine zw_ifeqB (tgt := 30) X dX5_ridersOf_20 (by decide) (fun c_20 => ?_) (fun c_20 => ?_)
    · refine zw_iinc_4_p1 X dX5_ridersOf_30 ?_
      refine zw_goto (tgt := 5) X dX5_ridersOf_33 (by decide) ?_
      exact ih5 _ _ (by first | (simp only [c_20, decide_true, decide_false, Bool.and_true, Bool.true_and, Bool.and_false, Bool.false_and, Bool.or_true, Bool.true_or, Bool.or_false, Bool.false_or, Bool.not_true, Bool.not_false, if_true, if_false, ite_true, ite_false, Bool.false_eq_true, not_true_eq_false, not_false_eq_true, bI_t, bI_f, decide_eq_true_eq, reduceCtorEq]; done) | (simp [c_20]; done) | simp_all) (nI_1 n5)
    · refine zw_iload_3 X dX5_ridersOf_23 ?_
      refine zw_iconst (v := 1) X dX5_ridersOf_24 ik_1 ?_
      refine zw_iload_4 X dX5_ridersOf_25 ?_
      refine zw_ishl X dX5_ridersOf_27 ?_
      refine zw_ior X dX5_ridersOf_28 ?_
      refine zw_istore_3 X dX5_ridersOf_29 ?_
      refine zw_iinc_4_p1 X dX5_ridersOf_30 ?_
      refine zw_goto (tgt := 5) X dX5_ridersOf_33 (by decide) ?_
      exact ih5 _ _ (by first | (simp only [c_20, decide_true, decide_false, Bool.and_true, Bool.true_and, Bool.and_false, Bool.false_and, Bool.or_true, Bool.true_or, Bool.or_false, Bool.false_or, Bool.not_true, Bool.not_false, if_true, if_false, ite_true, ite_false, Bool.false_eq_true, not_true_eq_false, not_false_eq_true, bI_t, bI_f, decide_eq_true_eq, reduceCtorEq]; done) | (simp [c_20]; done) | simp_all) (nI_1 n5)
  · subst hv5_3 hv5_4
    refine zw_iload_4 X dX5_ridersOf_5 ?_
    refine zw_bipush (v := 6) X dX5_ridersOf_7 bk_6 ?_
    refine zw_icmpge_t (tgt := 36) X dX5_ridersOf_9 (by decide) (by decide) ?_
    refine zw_iload_3 X dX5_ridersOf_36 ?_
    exact zw_iret X F dX5_ridersOf_37 rfl (by first | (simp only [trdo, setB, ha5, decide_true, decide_false, Bool.and_true, Bool.true_and, Bool.and_false, Bool.false_and, Bool.or_true, Bool.true_or, Bool.or_false, Bool.false_or, Bool.not_true, Bool.not_false, if_true, if_false, ite_true, ite_false, Bool.false_eq_true, not_true_eq_false, not_false_eq_true, bI_t, bI_f, decide_eq_true_eq, reduceCtorEq]; done) | (simp [trdo, setB, ha5]; done) | simp_all) (rfl)
set_option maxRecDepth 20000 in
set_option maxHeartbeats 4000000 in
theorem t_X5_companionsOf {σ : St} {k : Nat} (hT : isT k) {t m : Int32} : Ct MX5_companionsOf [.ref k, .int t, .int m] σ (some (.int (tcomp σ k t m))) (σ) := by
  refine ct_of (ls0 := [some (.ref k), some (.int t), some (.int m)]) ok_MX5_companionsOf rfl (Nat.le_of_ble_eq_true rfl) rfl ?_
  intro g X F
  refine zw_iload_1 X dX5_companionsOf_0 ?_
  refine zw_cN_ii (host := "SilenceMinute") X dX5_companionsOf_1 (by decide +kernel) ok_MX7_isTraveller st_MX7_isTraveller rm_X5_companionsOf_X7_isTraveller (Nat.le_of_ble_eq_true rfl) t_X7_isTraveller ?_
  refine zw_ifeqB (tgt := 16) X dX5_companionsOf_4 (by decide) (fun c_4 => ?_) (fun c_4 => ?_)
  · refine zw_iconst (v := 0) X dX5_companionsOf_16 ik_0 ?_
    exact zw_iret X F dX5_companionsOf_17 rfl (by first | (simp only [tcomp, c_4, decide_true, decide_false, Bool.and_true, Bool.true_and, Bool.and_false, Bool.false_and, Bool.or_true, Bool.true_or, Bool.or_false, Bool.false_or, Bool.not_true, Bool.not_false, if_true, if_false, ite_true, ite_false, Bool.false_eq_true, not_true_eq_false, not_false_eq_true, bI_t, bI_f, decide_eq_true_eq, reduceCtorEq]; done) | (simp [tcomp, c_4]; done) | simp_all) (rfl)
  · refine zw_aload_0 X dX5_companionsOf_7 ?_
    refine zw_iload_1 X dX5_companionsOf_8 ?_
    refine zw_iload_2 X dX5_companionsOf_9 ?_
    refine zw_cV_iii X dX5_companionsOf_10 lk_X5_53 ok_MX5_ridesAt vi_MX5_ridesAt rm_X5_companionsOf_X5_ridesAt hT.1 rfl (Nat.le_of_ble_eq_true rfl) (t_X5_ridesAt hT) ?_
    refine zw_ifneB (tgt := 18) X dX5_companionsOf_13 (by decide) (fun c_13 => ?_) (fun c_13 => ?_)
    · refine zw_aload_0 X dX5_companionsOf_18 ?_
      refine zw_aload_0 X dX5_companionsOf_19 ?_
      refine zw_getR X dX5_companionsOf_20 fl_X5_25 ck_X5 hT.1 rfl ?_
      refine zw_iload_1 X dX5_companionsOf_23 ?_
      refine zw_iald X dX5_companionsOf_24 hT.2.2.2.1 (isTr_in c_4) ?_
      refine zw_iload_2 X dX5_companionsOf_25 ?_
      refine zw_cV_iii X dX5_companionsOf_26 lk_X5_61 ok_MX5_ridersOf vi_MX5_ridersOf rm_X5_companionsOf_X5_ridersOf hT.1 rfl (Nat.le_of_ble_eq_true rfl) (t_X5_ridersOf hT) ?_
      refine zw_iconst (v := 1) X dX5_companionsOf_29 ik_1 ?_
      refine zw_iload_1 X dX5_companionsOf_30 ?_
      refine zw_ishl X dX5_companionsOf_31 ?_
      refine zw_iconst (v := -1) X dX5_companionsOf_32 ik_m1 ?_
      refine zw_ixor X dX5_companionsOf_33 ?_
      refine zw_iand X dX5_companionsOf_34 ?_
      exact zw_iret X F dX5_companionsOf_35 rfl (by first | (simp only [tcomp, c_4, c_13, decide_true, decide_false, Bool.and_true, Bool.true_and, Bool.and_false, Bool.false_and, Bool.or_true, Bool.true_or, Bool.or_false, Bool.false_or, Bool.not_true, Bool.not_false, if_true, if_false, ite_true, ite_false, Bool.false_eq_true, not_true_eq_false, not_false_eq_true, bI_t, bI_f, decide_eq_true_eq, reduceCtorEq]; done) | (simp [tcomp, c_4, c_13]; done) | simp_all) (rfl)
    · refine zw_iconst (v := 0) X dX5_companionsOf_16 ik_0 ?_
      exact zw_iret X F dX5_companionsOf_17 rfl (by first | (simp only [tcomp, c_4, c_13, decide_true, decide_false, Bool.and_true, Bool.true_and, Bool.and_false, Bool.false_and, Bool.or_true, Bool.true_or, Bool.or_false, Bool.false_or, Bool.not_true, Bool.not_false, if_true, if_false, ite_true, ite_false, Bool.false_eq_true, not_true_eq_false, not_false_eq_true, bI_t, bI_f, decide_eq_true_eq, reduceCtorEq]; done) | (simp [tcomp, c_4, c_13]; done) | simp_all) (rfl)
set_option maxRecDepth 20000 in
set_option maxHeartbeats 4000000 in
theorem t_X5_ridersOfLine {σ : St} {k : Nat} (hT : isT k) : Ct MX5_ridersOfLine [.ref k] σ (some (.int (trol σ k))) (σ) := by
  refine ct_of (ls0 := [some (.ref k), none, none]) ok_MX5_ridersOfLine rfl (Nat.le_of_ble_eq_true rfl) rfl ?_
  intro g X F
  refine zw_iconst (v := 0) X dX5_ridersOfLine_0 ik_0 ?_
  refine zw_istore_1 X dX5_ridersOfLine_1 ?_
  refine zw_iconst (v := 0) X dX5_ridersOfLine_2 ik_0 ?_
  refine zw_istore_2 X dX5_ridersOfLine_3 ?_
  refine zloop (α := Int32) (S := fun n a => ∀ (v4_1 : Int32) (v4_2 : Int32), v4_1 = a → v4_2 = nI n → ZW g 4 [some (.ref k), some (.int v4_1), some (.int v4_2)] [] σ) (N := 6) (f := (fun n x => if decide (0 < tminOf σ k (nI n)) then x ||| ((1 : Int32) <<< (nI n &&& 31)) else x)) (a0 := (0 : Int32)) (fun n4 a4 hn4 ha4 ih4 v4_1 v4_2 hv4_1 hv4_2 => ?_) (fun a4 ha4 v4_1 v4_2 hv4_1 hv4_2 => ?_) _ _ rfl rfl
  · subst hv4_1 hv4_2
    refine zw_iload_2 X dX5_ridersOfLine_4 ?_
    refine zw_bipush (v := 6) X dX5_ridersOfLine_5 bk_6 ?_
    refine zw_icmpge_f (tgt := 30) X dX5_ridersOfLine_7 (by decide) (nI_lt hn4 (by decide)) ?_
    refine zw_aload_0 X dX5_ridersOfLine_10 ?_
    refine zw_iload_2 X dX5_ridersOfLine_11 ?_
    refine zw_cV_ii X dX5_ridersOfLine_12 lk_X5_65 ok_MX5_minutesOf vi_MX5_minutesOf rm_X5_ridersOfLine_X5_minutesOf hT.1 rfl (Nat.le_of_ble_eq_true rfl) (t_X5_minutesOf hT) ?_
    refine zw_ifle (tgt := 24) X dX5_ridersOfLine_15 (by decide) (fun c_15 => ?_) (fun c_15 => ?_)
    · refine zw_iinc_2_p1 X dX5_ridersOfLine_24 ?_
      refine zw_goto (tgt := 4) X dX5_ridersOfLine_27 (by decide) ?_
      exact ih4 _ _ (by first | (simp only [c_15, decide_true, decide_false, Bool.and_true, Bool.true_and, Bool.and_false, Bool.false_and, Bool.or_true, Bool.true_or, Bool.or_false, Bool.false_or, Bool.not_true, Bool.not_false, if_true, if_false, ite_true, ite_false, Bool.false_eq_true, not_true_eq_false, not_false_eq_true, bI_t, bI_f, decide_eq_true_eq, reduceCtorEq]; done) | (simp [c_15]; done) | simp_all) (nI_1 n4)
    · refine zw_iload_1 X dX5_ridersOfLine_18 ?_
      refine zw_iconst (v := 1) X dX5_ridersOfLine_19 ik_1 ?_
      refine zw_iload_2 X dX5_ridersOfLine_20 ?_
      refine zw_ishl X dX5_ridersOfLine_21 ?_
      refine zw_ior X dX5_ridersOfLine_22 ?_
      refine zw_istore_1 X dX5_ridersOfLine_23 ?_
      refine zw_iinc_2_p1 X dX5_ridersOfLine_24 ?_
      refine zw_goto (tgt := 4) X dX5_ridersOfLine_27 (by decide) ?_
      exact ih4 _ _ (by first | (simp only [c_15, decide_true, decide_false, Bool.and_true, Bool.true_and, Bool.and_false, Bool.false_and, Bool.or_true, Bool.true_or, Bool.or_false, Bool.false_or, Bool.not_true, Bool.not_false, if_true, if_false, ite_true, ite_false, Bool.false_eq_true, not_true_eq_false, not_false_eq_true, bI_t, bI_f, decide_eq_true_eq, reduceCtorEq]; done) | (simp [c_15]; done) | simp_all) (nI_1 n4)
  · subst hv4_1 hv4_2
    refine zw_iload_2 X dX5_ridersOfLine_4 ?_
    refine zw_bipush (v := 6) X dX5_ridersOfLine_5 bk_6 ?_
    refine zw_icmpge_t (tgt := 30) X dX5_ridersOfLine_7 (by decide) (by decide) ?_
    refine zw_iload_1 X dX5_ridersOfLine_30 ?_
    exact zw_iret X F dX5_ridersOfLine_31 rfl (by first | (simp only [trol, setB, ha4, decide_true, decide_false, Bool.and_true, Bool.true_and, Bool.and_false, Bool.false_and, Bool.or_true, Bool.true_or, Bool.or_false, Bool.false_or, Bool.not_true, Bool.not_false, if_true, if_false, ite_true, ite_false, Bool.false_eq_true, not_true_eq_false, not_false_eq_true, bI_t, bI_f, decide_eq_true_eq, reduceCtorEq]; done) | (simp [trol, setB, ha4]; done) | simp_all) (rfl)
set_option maxRecDepth 20000 in
set_option maxHeartbeats 4000000 in
theorem t_X5_ridesFromNowOn {σ : St} {k : Nat} (hT : isT k) {t : Int32} : Ct MX5_ridesFromNowOn [.ref k, .int t] σ (some (.int (bI (tfrom σ k t)))) σ := by
  refine ct_of (ls0 := [some (.ref k), some (.int t), none]) ok_MX5_ridesFromNowOn rfl (Nat.le_of_ble_eq_true rfl) rfl ?_
  intro g X F
  refine zw_aload_0 X dX5_ridesFromNowOn_0 ?_
  refine zw_getI X dX5_ridesFromNowOn_1 fl_X5_34 ck_X5 hT.1 rfl ?_
  refine zw_istore_2 X dX5_ridesFromNowOn_4 ?_
  refine zfind (S := fun j => ∀ T : Int32, T = σ k 1 + nI j → ZW g 5 [some (.ref k), some (.int t), some (.int T)] [] σ) (P := (fun j => trd σ k t (σ k 1 + nI j))) (N := (cnt (σ k 1) (σ k 0))) (fun j hj ih hb T hT0 => ?_) (fun hb T hT0 => ?_) _ (by rw [nI_0, Int32.add_zero])
  · subst hT0
    refine zw_iload_2 X dX5_ridesFromNowOn_5 ?_
    refine zw_aload_0 X dX5_ridesFromNowOn_6 ?_
    refine zw_getI X dX5_ridesFromNowOn_7 fl_X5_9 ck_X5 hT.1 rfl ?_
    refine zw_icmpge_f (tgt := 30) X dX5_ridesFromNowOn_10 (by decide) ((cnt_lt (Nat.le_of_lt hj)).mpr hj) ?_
    refine zw_aload_0 X dX5_ridesFromNowOn_13 ?_
    refine zw_iload_1 X dX5_ridesFromNowOn_14 ?_
    refine zw_iload_2 X dX5_ridesFromNowOn_15 ?_
    refine zw_cV_iii X dX5_ridesFromNowOn_16 lk_X5_53 ok_MX5_ridesAt vi_MX5_ridesAt rm_X5_ridesFromNowOn_X5_ridesAt hT.1 rfl (Nat.le_of_ble_eq_true rfl) (t_X5_ridesAt hT) ?_
    refine zw_ifeqB (tgt := 24) X dX5_ridesFromNowOn_19 (by decide) (fun c_19 => ?_) (fun c_19 => ?_)
    · refine zw_iinc_2_p1 X dX5_ridesFromNowOn_24 ?_
      refine zw_goto (tgt := 5) X dX5_ridesFromNowOn_27 (by decide) ?_
      exact ih (by simp [c_19]) _ (add_nI _ j)
    · refine zw_iconst (v := 1) X dX5_ridesFromNowOn_22 ik_1 ?_
      exact zw_zret X F dX5_ridesFromNowOn_23 rfl (by first | (simp only [tfrom, bI_1', exB_t hj, c_19, decide_true, decide_false, Bool.and_true, Bool.true_and, Bool.and_false, Bool.false_and, Bool.or_true, Bool.true_or, Bool.or_false, Bool.false_or, Bool.not_true, Bool.not_false, if_true, if_false, ite_true, ite_false, Bool.false_eq_true, not_true_eq_false, not_false_eq_true, bI_t, bI_f, decide_eq_true_eq, reduceCtorEq]; done) | (simp [tfrom, bI_1', exB_t hj, c_19]; done) | simp_all) (rfl)
  · subst hT0
    refine zw_iload_2 X dX5_ridesFromNowOn_5 ?_
    refine zw_aload_0 X dX5_ridesFromNowOn_6 ?_
    refine zw_getI X dX5_ridesFromNowOn_7 fl_X5_9 ck_X5 hT.1 rfl ?_
    refine zw_icmpge_t (tgt := 30) X dX5_ridesFromNowOn_10 (by decide) (fun h => Nat.lt_irrefl _ ((cnt_lt (Nat.le_refl _)).mp h)) ?_
    refine zw_iconst (v := 0) X dX5_ridesFromNowOn_30 ik_0 ?_
    exact zw_zret X F dX5_ridesFromNowOn_31 rfl (by first | (simp only [tfrom, bI_0', exB_f.mpr hb, decide_true, decide_false, Bool.and_true, Bool.true_and, Bool.and_false, Bool.false_and, Bool.or_true, Bool.true_or, Bool.or_false, Bool.false_or, Bool.not_true, Bool.not_false, if_true, if_false, ite_true, ite_false, Bool.false_eq_true, not_true_eq_false, not_false_eq_true, bI_t, bI_f, decide_eq_true_eq, reduceCtorEq]; done) | (simp [tfrom, bI_0', exB_f.mpr hb]; done) | simp_all) (rfl)
set_option maxRecDepth 20000 in
set_option maxHeartbeats 4000000 in
theorem t_X5_rideTogether {σ : St} {k : Nat} (hT : isT k) {a b : Int32} : Ct MX5_rideTogether [.ref k, .int a, .int b] σ (some (.int (bI (ttog σ k a b)))) σ := by
  refine ct_of (ls0 := [some (.ref k), some (.int a), some (.int b), none]) ok_MX5_rideTogether rfl (Nat.le_of_ble_eq_true rfl) rfl ?_
  intro g X F
  refine zw_iconst (v := 0) X dX5_rideTogether_0 ik_0 ?_
  refine zw_istore_3 X dX5_rideTogether_1 ?_
  refine zfind (S := fun j => ∀ T : Int32, T = nI j → ZW g 2 [some (.ref k), some (.int a), some (.int b), some (.int T)] [] σ) (P := (fun n => trd σ k a (nI n) && trd σ k b (nI n))) (N := (clN (σ k 0))) (fun j hj ih hb T hT0 => ?_) (fun hb T hT0 => ?_) _ rfl
  · subst hT0
    refine zw_iload_3 X dX5_rideTogether_2 ?_
    refine zw_aload_0 X dX5_rideTogether_3 ?_
    refine zw_getI X dX5_rideTogether_4 fl_X5_9 ck_X5 hT.1 rfl ?_
    refine zw_icmpge_f (tgt := 36) X dX5_rideTogether_7 (by decide) ((clN_lt (Nat.le_of_lt hj)).mpr hj) ?_
    refine zw_aload_0 X dX5_rideTogether_10 ?_
    refine zw_iload_1 X dX5_rideTogether_11 ?_
    refine zw_iload_3 X dX5_rideTogether_12 ?_
    refine zw_cV_iii X dX5_rideTogether_13 lk_X5_53 ok_MX5_ridesAt vi_MX5_ridesAt rm_X5_rideTogether_X5_ridesAt hT.1 rfl (Nat.le_of_ble_eq_true rfl) (t_X5_ridesAt hT) ?_
    refine zw_ifeqB (tgt := 30) X dX5_rideTogether_16 (by decide) (fun c_16 => ?_) (fun c_16 => ?_)
    · refine zw_iinc_3_p1 X dX5_rideTogether_30 ?_
      refine zw_goto (tgt := 2) X dX5_rideTogether_33 (by decide) ?_
      exact ih (by simp [c_16]) _ (nI_1 j)
    · refine zw_aload_0 X dX5_rideTogether_19 ?_
      refine zw_iload_2 X dX5_rideTogether_20 ?_
      refine zw_iload_3 X dX5_rideTogether_21 ?_
      refine zw_cV_iii X dX5_rideTogether_22 lk_X5_53 ok_MX5_ridesAt vi_MX5_ridesAt rm_X5_rideTogether_X5_ridesAt hT.1 rfl (Nat.le_of_ble_eq_true rfl) (t_X5_ridesAt hT) ?_
      refine zw_ifeqB (tgt := 30) X dX5_rideTogether_25 (by decide) (fun c_25 => ?_) (fun c_25 => ?_)
      · refine zw_iinc_3_p1 X dX5_rideTogether_30 ?_
        refine zw_goto (tgt := 2) X dX5_rideTogether_33 (by decide) ?_
        exact ih (by simp [c_16, c_25]) _ (nI_1 j)
      · refine zw_iconst (v := 1) X dX5_rideTogether_28 ik_1 ?_
        exact zw_zret X F dX5_rideTogether_29 rfl (by first | (simp only [ttog, bI_1', exB_t hj, c_16, c_25, decide_true, decide_false, Bool.and_true, Bool.true_and, Bool.and_false, Bool.false_and, Bool.or_true, Bool.true_or, Bool.or_false, Bool.false_or, Bool.not_true, Bool.not_false, if_true, if_false, ite_true, ite_false, Bool.false_eq_true, not_true_eq_false, not_false_eq_true, bI_t, bI_f, decide_eq_true_eq, reduceCtorEq]; done) | (simp [ttog, bI_1', exB_t hj, c_16, c_25]; done) | simp_all) (rfl)
  · subst hT0
    refine zw_iload_3 X dX5_rideTogether_2 ?_
    refine zw_aload_0 X dX5_rideTogether_3 ?_
    refine zw_getI X dX5_rideTogether_4 fl_X5_9 ck_X5 hT.1 rfl ?_
    refine zw_icmpge_t (tgt := 36) X dX5_rideTogether_7 (by decide) (fun h => Nat.lt_irrefl _ ((clN_lt (Nat.le_refl _)).mp h)) ?_
    refine zw_iconst (v := 0) X dX5_rideTogether_36 ik_0 ?_
    exact zw_zret X F dX5_rideTogether_37 rfl (by first | (simp only [ttog, bI_0', exB_f.mpr hb, decide_true, decide_false, Bool.and_true, Bool.true_and, Bool.and_false, Bool.false_and, Bool.or_true, Bool.true_or, Bool.or_false, Bool.false_or, Bool.not_true, Bool.not_false, if_true, if_false, ite_true, ite_false, Bool.false_eq_true, not_true_eq_false, not_false_eq_true, bI_t, bI_f, decide_eq_true_eq, reduceCtorEq]; done) | (simp [ttog, bI_0', exB_f.mpr hb]; done) | simp_all) (rfl)
set_option maxRecDepth 20000 in
set_option maxHeartbeats 4000000 in
theorem t_X5_holderOf {σ : St} {k : Nat} (hT : isT k) {c : Int32} : Ct MX5_holderOf [.ref k, .int c] σ (some (.int (thold σ k c))) (σ) := by
  refine ct_of (ls0 := [some (.ref k), some (.int c), none, none, none, none]) ok_MX5_holderOf rfl (Nat.le_of_ble_eq_true rfl) rfl ?_
  intro g X F
  refine zw_bipush (v := -6) X dX5_holderOf_0 bk_m6 ?_
  refine zw_istore_2 X dX5_holderOf_2 ?_
  refine zw_iconst (v := 0) X dX5_holderOf_3 ik_0 ?_
  refine zw_istore_3 X dX5_holderOf_4 ?_
  refine zw_aload_0 X dX5_holderOf_5 ?_
  refine zw_aload_0 X dX5_holderOf_6 ?_
  refine zw_getI X dX5_holderOf_7 fl_X5_34 ck_X5 hT.1 rfl ?_
  refine zw_cV_ii X dX5_holderOf_10 lk_X5_46 ok_MX5_isTunnel vi_MX5_isTunnel rm_X5_holderOf_X5_isTunnel hT.1 rfl (Nat.le_of_ble_eq_true rfl) (t_X5_isTunnel hT) ?_
  refine zw_ifeqB (tgt := 19) X dX5_holderOf_13 (by decide) (fun c_13 => ?_) (fun c_13 => ?_)
  · refine zw_iconst (v := 0) X dX5_holderOf_19 ik_0 ?_
    refine zw_istore_4 X dX5_holderOf_20 ?_
    refine zw_fg_5 ?_
    refine zloop (α := Int32 × Int32) (S := fun n a => ∀ (v22_2 : Int32) (v22_3 : Int32) (v22_4 : Int32), v22_2 = a.1 → v22_3 = a.2 → v22_4 = nI n → ZW g 22 [some (.ref k), some (.int c), some (.int v22_2), some (.int v22_3), some (.int v22_4), none] [] σ) (N := 6) (f := (hst σ k c)) (a0 := ((-6, 0) : Int32 × Int32)) (fun n22 a22 hn22 ha22 ih22 v22_2 v22_3 v22_4 hv22_2 hv22_3 hv22_4 => ?_) (fun a22 ha22 v22_2 v22_3 v22_4 hv22_2 hv22_3 hv22_4 => ?_) _ _ _ rfl rfl rfl
    · subst hv22_2 hv22_3 hv22_4
      refine zw_iload_4 X dX5_holderOf_22 ?_
      refine zw_bipush (v := 6) X dX5_holderOf_24 bk_6 ?_
      refine zw_icmpge_f (tgt := 110) X dX5_holderOf_26 (by decide) (nI_lt hn22 (by decide)) ?_
      refine zw_aload_0 X dX5_holderOf_29 ?_
      refine zw_getR X dX5_holderOf_30 fl_X5_31 ck_X5 hT.1 rfl ?_
      refine zw_iload_4 X dX5_holderOf_33 ?_
      refine zw_ialdN X dX5_holderOf_35 hT.2.2.2.2.2 hn22 (by decide) ?_
      refine zw_iload_3 X dX5_holderOf_36 ?_
      refine zw_icmple (tgt := 61) X dX5_holderOf_37 (by decide) (fun c_37 => ?_) (fun c_37 => ?_)
      · refine zw_iconst (v := 0) X dX5_holderOf_61 ik_0 ?_
        refine zw_istore_5 X dX5_holderOf_62 ?_
        refine zw_iload_5 X dX5_holderOf_64 ?_
        refine zw_ifeq_t (tgt := 104) X dX5_holderOf_66 (by decide) (by decide) ?_
        refine zw_iinc_4_p1 X dX5_holderOf_104 ?_
        refine zw_goto (tgt := 22) X dX5_holderOf_107 (by decide) ?_
        refine zw_fg_5 ?_
        exact ih22 _ _ _ (by first | (simp only [hst, c_13, c_37, decide_true, decide_false, Bool.and_true, Bool.true_and, Bool.and_false, Bool.false_and, Bool.or_true, Bool.true_or, Bool.or_false, Bool.false_or, Bool.not_true, Bool.not_false, if_true, if_false, ite_true, ite_false, Bool.false_eq_true, not_true_eq_false, not_false_eq_true, bI_t, bI_f, decide_eq_true_eq, reduceCtorEq]; done) | (simp [hst, c_13, c_37]; done) | simp_all) (by first | (simp only [hst, c_13, c_37, decide_true, decide_false, Bool.and_true, Bool.true_and, Bool.and_false, Bool.false_and, Bool.or_true, Bool.true_or, Bool.or_false, Bool.false_or, Bool.not_true, Bool.not_false, if_true, if_false, ite_true, ite_false, Bool.false_eq_true, not_true_eq_false, not_false_eq_true, bI_t, bI_f, decide_eq_true_eq, reduceCtorEq]; done) | (simp [hst, c_13, c_37]; done) | simp_all) (nI_1 n22)
      · refine zw_aload_0 X dX5_holderOf_40 ?_
        refine zw_getR X dX5_holderOf_41 fl_X5_31 ck_X5 hT.1 rfl ?_
        refine zw_iload_4 X dX5_holderOf_44 ?_
        refine zw_ialdN X dX5_holderOf_46 hT.2.2.2.2.2 hn22 (by decide) ?_
        refine zw_aload_0 X dX5_holderOf_47 ?_
        refine zw_getR X dX5_holderOf_48 fl_X5_28 ck_X5 hT.1 rfl ?_
        refine zw_iload_4 X dX5_holderOf_51 ?_
        refine zw_ialdN X dX5_holderOf_53 hT.2.2.2.2.1 hn22 (by decide) ?_
        refine zw_icmpgt (tgt := 61) X dX5_holderOf_54 (by decide) (fun c_54 => ?_) (fun c_54 => ?_)
        · refine zw_iconst (v := 0) X dX5_holderOf_61 ik_0 ?_
          refine zw_istore_5 X dX5_holderOf_62 ?_
          refine zw_iload_5 X dX5_holderOf_64 ?_
          refine zw_ifeq_t (tgt := 104) X dX5_holderOf_66 (by decide) (by decide) ?_
          refine zw_iinc_4_p1 X dX5_holderOf_104 ?_
          refine zw_goto (tgt := 22) X dX5_holderOf_107 (by decide) ?_
          refine zw_fg_5 ?_
          exact ih22 _ _ _ (by first | (simp only [hst, c_13, c_37, c_54, decide_true, decide_false, Bool.and_true, Bool.true_and, Bool.and_false, Bool.false_and, Bool.or_true, Bool.true_or, Bool.or_false, Bool.false_or, Bool.not_true, Bool.not_false, if_true, if_false, ite_true, ite_false, Bool.false_eq_true, not_true_eq_false, not_false_eq_true, bI_t, bI_f, decide_eq_true_eq, reduceCtorEq]; done) | (simp [hst, c_13, c_37, c_54]; done) | simp_all) (by first | (simp only [hst, c_13, c_37, c_54, decide_true, decide_false, Bool.and_true, Bool.true_and, Bool.and_false, Bool.false_and, Bool.or_true, Bool.true_or, Bool.or_false, Bool.false_or, Bool.not_true, Bool.not_false, if_true, if_false, ite_true, ite_false, Bool.false_eq_true, not_true_eq_false, not_false_eq_true, bI_t, bI_f, decide_eq_true_eq, reduceCtorEq]; done) | (simp [hst, c_13, c_37, c_54]; done) | simp_all) (nI_1 n22)
        · refine zw_iconst (v := 1) X dX5_holderOf_57 ik_1 ?_
          refine zw_goto (tgt := 62) X dX5_holderOf_58 (by decide) ?_
          refine zw_istore_5 X dX5_holderOf_62 ?_
          refine zw_iload_5 X dX5_holderOf_64 ?_
          refine zw_ifeq_f (tgt := 104) X dX5_holderOf_66 (by decide) (by decide) ?_
          refine zw_aload_0 X dX5_holderOf_69 ?_
          refine zw_getR X dX5_holderOf_70 fl_X5_25 ck_X5 hT.1 rfl ?_
          refine zw_iload_4 X dX5_holderOf_73 ?_
          refine zw_ialdN X dX5_holderOf_75 hT.2.2.2.1 hn22 (by decide) ?_
          refine zw_iload_1 X dX5_holderOf_76 ?_
          refine zw_icmpne (tgt := 104) X dX5_holderOf_77 (by decide) (fun c_77 => ?_) (fun c_77 => ?_)
          · refine zw_iinc_4_p1 X dX5_holderOf_104 ?_
            refine zw_goto (tgt := 22) X dX5_holderOf_107 (by decide) ?_
            refine zw_fg_5 ?_
            exact ih22 _ _ _ (by first | (simp only [hst, c_13, c_37, c_54, c_77, decide_true, decide_false, Bool.and_true, Bool.true_and, Bool.and_false, Bool.false_and, Bool.or_true, Bool.true_or, Bool.or_false, Bool.false_or, Bool.not_true, Bool.not_false, if_true, if_false, ite_true, ite_false, Bool.false_eq_true, not_true_eq_false, not_false_eq_true, bI_t, bI_f, decide_eq_true_eq, reduceCtorEq]; done) | (simp [hst, c_13, c_37, c_54, c_77]; done) | simp_all) (by first | (simp only [hst, c_13, c_37, c_54, c_77, decide_true, decide_false, Bool.and_true, Bool.true_and, Bool.and_false, Bool.false_and, Bool.or_true, Bool.true_or, Bool.or_false, Bool.false_or, Bool.not_true, Bool.not_false, if_true, if_false, ite_true, ite_false, Bool.false_eq_true, not_true_eq_false, not_false_eq_true, bI_t, bI_f, decide_eq_true_eq, reduceCtorEq]; done) | (simp [hst, c_13, c_37, c_54, c_77]; done) | simp_all) (nI_1 n22)
          · refine zw_aload_0 X dX5_holderOf_80 ?_
            refine zw_iload_4 X dX5_holderOf_81 ?_
            refine zw_aload_0 X dX5_holderOf_83 ?_
            refine zw_getI X dX5_holderOf_84 fl_X5_34 ck_X5 hT.1 rfl ?_
            refine zw_cV_iii X dX5_holderOf_87 lk_X5_53 ok_MX5_ridesAt vi_MX5_ridesAt rm_X5_holderOf_X5_ridesAt hT.1 rfl (Nat.le_of_ble_eq_true rfl) (t_X5_ridesAt hT) ?_
            refine zw_ifeqB (tgt := 104) X dX5_holderOf_90 (by decide) (fun c_90 => ?_) (fun c_90 => ?_)
            · refine zw_iinc_4_p1 X dX5_holderOf_104 ?_
              refine zw_goto (tgt := 22) X dX5_holderOf_107 (by decide) ?_
              refine zw_fg_5 ?_
              exact ih22 _ _ _ (by first | (simp only [hst, c_13, c_37, c_54, eq_true c_77, c_90, decide_true, decide_false, Bool.and_true, Bool.true_and, Bool.and_false, Bool.false_and, Bool.or_true, Bool.true_or, Bool.or_false, Bool.false_or, Bool.not_true, Bool.not_false, if_true, if_false, ite_true, ite_false, Bool.false_eq_true, not_true_eq_false, not_false_eq_true, bI_t, bI_f, decide_eq_true_eq, reduceCtorEq]; done) | (simp [hst, c_13, c_37, c_54, eq_true c_77, c_90]; done) | simp_all) (by first | (simp only [hst, c_13, c_37, c_54, eq_true c_77, c_90, decide_true, decide_false, Bool.and_true, Bool.true_and, Bool.and_false, Bool.false_and, Bool.or_true, Bool.true_or, Bool.or_false, Bool.false_or, Bool.not_true, Bool.not_false, if_true, if_false, ite_true, ite_false, Bool.false_eq_true, not_true_eq_false, not_false_eq_true, bI_t, bI_f, decide_eq_true_eq, reduceCtorEq]; done) | (simp [hst, c_13, c_37, c_54, eq_true c_77, c_90]; done) | simp_all) (nI_1 n22)
            · refine zw_aload_0 X dX5_holderOf_93 ?_
              refine zw_getR X dX5_holderOf_94 fl_X5_31 ck_X5 hT.1 rfl ?_
              refine zw_iload_4 X dX5_holderOf_97 ?_
              refine zw_ialdN X dX5_holderOf_99 hT.2.2.2.2.2 hn22 (by decide) ?_
              refine zw_istore_3 X dX5_holderOf_100 ?_
              refine zw_iload_4 X dX5_holderOf_101 ?_
              refine zw_istore_2 X dX5_holderOf_103 ?_
              refine zw_iinc_4_p1 X dX5_holderOf_104 ?_
              refine zw_goto (tgt := 22) X dX5_holderOf_107 (by decide) ?_
              refine zw_fg_5 ?_
              exact ih22 _ _ _ (by first | (simp only [hst, c_13, c_37, c_54, eq_true c_77, c_90, decide_true, decide_false, Bool.and_true, Bool.true_and, Bool.and_false, Bool.false_and, Bool.or_true, Bool.true_or, Bool.or_false, Bool.false_or, Bool.not_true, Bool.not_false, if_true, if_false, ite_true, ite_false, Bool.false_eq_true, not_true_eq_false, not_false_eq_true, bI_t, bI_f, decide_eq_true_eq, reduceCtorEq]; done) | (simp [hst, c_13, c_37, c_54, eq_true c_77, c_90]; done) | simp_all) (by first | (simp only [hst, c_13, c_37, c_54, eq_true c_77, c_90, decide_true, decide_false, Bool.and_true, Bool.true_and, Bool.and_false, Bool.false_and, Bool.or_true, Bool.true_or, Bool.or_false, Bool.false_or, Bool.not_true, Bool.not_false, if_true, if_false, ite_true, ite_false, Bool.false_eq_true, not_true_eq_false, not_false_eq_true, bI_t, bI_f, decide_eq_true_eq, reduceCtorEq]; done) | (simp [hst, c_13, c_37, c_54, eq_true c_77, c_90]; done) | simp_all) (nI_1 n22)
    · subst hv22_2 hv22_3 hv22_4
      refine zw_iload_4 X dX5_holderOf_22 ?_
      refine zw_bipush (v := 6) X dX5_holderOf_24 bk_6 ?_
      refine zw_icmpge_t (tgt := 110) X dX5_holderOf_26 (by decide) (by decide) ?_
      refine zw_iload_2 X dX5_holderOf_110 ?_
      exact zw_iret X F dX5_holderOf_111 rfl (by first | (simp only [thold, ha22, c_13, decide_true, decide_false, Bool.and_true, Bool.true_and, Bool.and_false, Bool.false_and, Bool.or_true, Bool.true_or, Bool.or_false, Bool.false_or, Bool.not_true, Bool.not_false, if_true, if_false, ite_true, ite_false, Bool.false_eq_true, not_true_eq_false, not_false_eq_true, bI_t, bI_f, decide_eq_true_eq, reduceCtorEq]; done) | (simp [thold, ha22, c_13]; done) | simp_all) (rfl)
  · refine zw_bipush (v := -6) X dX5_holderOf_16 bk_m6 ?_
    exact zw_iret X F dX5_holderOf_18 rfl (by simp [thold, c_13]) (rfl)
set_option maxRecDepth 20000 in
set_option maxHeartbeats 4000000 in
theorem t_X5_isHolder {σ : St} {k : Nat} (hT : isT k) {t : Int32} : Ct MX5_isHolder [.ref k, .int t] σ (some (.int (bI (tisH σ k t)))) (σ) := by
  refine ct_of (ls0 := [some (.ref k), some (.int t)]) ok_MX5_isHolder rfl (Nat.le_of_ble_eq_true rfl) rfl ?_
  intro g X F
  refine zw_iload_1 X dX5_isHolder_0 ?_
  refine zw_cN_ii (host := "SilenceMinute") X dX5_isHolder_1 (by decide +kernel) ok_MX7_isTraveller st_MX7_isTraveller rm_X5_isHolder_X7_isTraveller (Nat.le_of_ble_eq_true rfl) t_X7_isTraveller ?_
  refine zw_ifeqB (tgt := 25) X dX5_isHolder_4 (by decide) (fun c_4 => ?_) (fun c_4 => ?_)
  · refine zw_iconst (v := 0) X dX5_isHolder_25 ik_0 ?_
    exact zw_zret X F dX5_isHolder_26 rfl (by first | (simp only [tisH, bI_0', bI_1', bI_0, bI_1, bI_inj, c_4, decide_true, decide_false, Bool.and_true, Bool.true_and, Bool.and_false, Bool.false_and, Bool.or_true, Bool.true_or, Bool.or_false, Bool.false_or, Bool.not_true, Bool.not_false, if_true, if_false, ite_true, ite_false, Bool.false_eq_true, not_true_eq_false, not_false_eq_true, bI_t, bI_f, decide_eq_true_eq, reduceCtorEq]; done) | (simp [tisH, bI_0', bI_1', bI_0, bI_1, bI_inj, c_4]; done) | simp_all) (rfl)
  · refine zw_aload_0 X dX5_isHolder_7 ?_
    refine zw_aload_0 X dX5_isHolder_8 ?_
    refine zw_getR X dX5_isHolder_9 fl_X5_25 ck_X5 hT.1 rfl ?_
    refine zw_iload_1 X dX5_isHolder_12 ?_
    refine zw_iald X dX5_isHolder_13 hT.2.2.2.1 (isTr_in c_4) ?_
    refine zw_cV_ii X dX5_isHolder_14 lk_X5_69 ok_MX5_holderOf vi_MX5_holderOf rm_X5_isHolder_X5_holderOf hT.1 rfl (Nat.le_of_ble_eq_true rfl) (t_X5_holderOf hT) ?_
    refine zw_iload_1 X dX5_isHolder_17 ?_
    refine zw_icmpne (tgt := 25) X dX5_isHolder_18 (by decide) (fun c_18 => ?_) (fun c_18 => ?_)
    · refine zw_iconst (v := 0) X dX5_isHolder_25 ik_0 ?_
      exact zw_zret X F dX5_isHolder_26 rfl (by first | (simp only [tisH, bI_0', bI_1', bI_0, bI_1, bI_inj, c_4, c_18, decide_true, decide_false, Bool.and_true, Bool.true_and, Bool.and_false, Bool.false_and, Bool.or_true, Bool.true_or, Bool.or_false, Bool.false_or, Bool.not_true, Bool.not_false, if_true, if_false, ite_true, ite_false, Bool.false_eq_true, not_true_eq_false, not_false_eq_true, bI_t, bI_f, decide_eq_true_eq, reduceCtorEq]; done) | (simp [tisH, bI_0', bI_1', bI_0, bI_1, bI_inj, c_4, c_18]; done) | simp_all) (rfl)
    · refine zw_iconst (v := 1) X dX5_isHolder_21 ik_1 ?_
      refine zw_goto (tgt := 26) X dX5_isHolder_22 (by decide) ?_
      exact zw_zret X F dX5_isHolder_26 rfl (by first | (simp only [tisH, bI_0', bI_1', bI_0, bI_1, bI_inj, c_4, eq_true c_18, decide_true, decide_false, Bool.and_true, Bool.true_and, Bool.and_false, Bool.false_and, Bool.or_true, Bool.true_or, Bool.or_false, Bool.false_or, Bool.not_true, Bool.not_false, if_true, if_false, ite_true, ite_false, Bool.false_eq_true, not_true_eq_false, not_false_eq_true, bI_t, bI_f, decide_eq_true_eq, reduceCtorEq]; done) | (simp [tisH, bI_0', bI_1', bI_0, bI_1, bI_inj, c_4, eq_true c_18]; done) | simp_all) (rfl)
set_option maxRecDepth 20000 in
set_option maxHeartbeats 4000000 in
theorem t_X5_maySpeak {σ : St} {k : Nat} (hT : isT k) {t : Int32} : Ct MX5_maySpeak [.ref k, .int t] σ (some (.int (bI (tmay σ k t)))) (σ) := by
  refine ct_of (ls0 := [some (.ref k), some (.int t), none]) ok_MX5_maySpeak rfl (Nat.le_of_ble_eq_true rfl) rfl ?_
  intro g X F
  refine zw_iload_1 X dX5_maySpeak_0 ?_
  refine zw_cN_ii (host := "SilenceMinute") X dX5_maySpeak_1 (by decide +kernel) ok_MX7_isTraveller st_MX7_isTraveller rm_X5_maySpeak_X7_isTraveller (Nat.le_of_ble_eq_true rfl) t_X7_isTraveller ?_
  refine zw_ifeqB (tgt := 15) X dX5_maySpeak_4 (by decide) (fun c_4 => ?_) (fun c_4 => ?_)
  · refine zw_iconst (v := 0) X dX5_maySpeak_15 ik_0 ?_
    exact zw_zret X F dX5_maySpeak_16 rfl (by first | (simp only [tmay, bI_0', bI_1', bI_0, bI_1, bI_inj, c_4, decide_true, decide_false, Bool.and_true, Bool.true_and, Bool.and_false, Bool.false_and, Bool.or_true, Bool.true_or, Bool.or_false, Bool.false_or, Bool.not_true, Bool.not_false, if_true, if_false, ite_true, ite_false, Bool.false_eq_true, not_true_eq_false, not_false_eq_true, bI_t, bI_f, decide_eq_true_eq, reduceCtorEq]; done) | (simp [tmay, bI_0', bI_1', bI_0, bI_1, bI_inj, c_4]; done) | simp_all) (rfl)
  · refine zw_aload_0 X dX5_maySpeak_7 ?_
    refine zw_iload_1 X dX5_maySpeak_8 ?_
    refine zw_cV_ii X dX5_maySpeak_9 lk_X5_72 ok_MX5_ridesNow vi_MX5_ridesNow rm_X5_maySpeak_X5_ridesNow hT.1 rfl (Nat.le_of_ble_eq_true rfl) (t_X5_ridesNow hT) ?_
    refine zw_ifneB (tgt := 17) X dX5_maySpeak_12 (by decide) (fun c_12 => ?_) (fun c_12 => ?_)
    · refine zw_aload_0 X dX5_maySpeak_17 ?_
      refine zw_aload_0 X dX5_maySpeak_18 ?_
      refine zw_getR X dX5_maySpeak_19 fl_X5_25 ck_X5 hT.1 rfl ?_
      refine zw_iload_1 X dX5_maySpeak_22 ?_
      refine zw_iald X dX5_maySpeak_23 hT.2.2.2.1 (isTr_in c_4) ?_
      refine zw_cV_ii X dX5_maySpeak_24 lk_X5_69 ok_MX5_holderOf vi_MX5_holderOf rm_X5_maySpeak_X5_holderOf hT.1 rfl (Nat.le_of_ble_eq_true rfl) (t_X5_holderOf hT) ?_
      refine zw_istore_2 X dX5_maySpeak_27 ?_
      refine zw_iload_2 X dX5_maySpeak_28 ?_
      refine zw_bipush (v := -6) X dX5_maySpeak_29 bk_m6 ?_
      refine zw_icmpeq (tgt := 39) X dX5_maySpeak_31 (by decide) (fun c_31 => ?_) (fun c_31 => ?_)
      · refine zw_iconst (v := 1) X dX5_maySpeak_39 ik_1 ?_
        refine zw_goto (tgt := 44) X dX5_maySpeak_40 (by decide) ?_
        exact zw_zret X F dX5_maySpeak_44 rfl (by first | (simp only [tmay, bI_0', bI_1', bI_0, bI_1, bI_inj, c_4, c_12, eq_true c_31, decide_true, decide_false, Bool.and_true, Bool.true_and, Bool.and_false, Bool.false_and, Bool.or_true, Bool.true_or, Bool.or_false, Bool.false_or, Bool.not_true, Bool.not_false, if_true, if_false, ite_true, ite_false, Bool.false_eq_true, not_true_eq_false, not_false_eq_true, bI_t, bI_f, decide_eq_true_eq, reduceCtorEq]; done) | (simp [tmay, bI_0', bI_1', bI_0, bI_1, bI_inj, c_4, c_12, eq_true c_31]; done) | simp_all) (rfl)
      · refine zw_iload_2 X dX5_maySpeak_34 ?_
        refine zw_iload_1 X dX5_maySpeak_35 ?_
        refine zw_icmpne (tgt := 43) X dX5_maySpeak_36 (by decide) (fun c_36 => ?_) (fun c_36 => ?_)
        · refine zw_iconst (v := 0) X dX5_maySpeak_43 ik_0 ?_
          exact zw_zret X F dX5_maySpeak_44 rfl (by first | (simp only [tmay, bI_0', bI_1', bI_0, bI_1, bI_inj, c_4, c_12, c_31, c_36, decide_true, decide_false, Bool.and_true, Bool.true_and, Bool.and_false, Bool.false_and, Bool.or_true, Bool.true_or, Bool.or_false, Bool.false_or, Bool.not_true, Bool.not_false, if_true, if_false, ite_true, ite_false, Bool.false_eq_true, not_true_eq_false, not_false_eq_true, bI_t, bI_f, decide_eq_true_eq, reduceCtorEq]; done) | (simp [tmay, bI_0', bI_1', bI_0, bI_1, bI_inj, c_4, c_12, c_31, c_36]; done) | simp_all) (rfl)
        · refine zw_iconst (v := 1) X dX5_maySpeak_39 ik_1 ?_
          refine zw_goto (tgt := 44) X dX5_maySpeak_40 (by decide) ?_
          exact zw_zret X F dX5_maySpeak_44 rfl (by first | (simp only [tmay, bI_0', bI_1', bI_0, bI_1, bI_inj, c_4, c_12, c_31, eq_true c_36, decide_true, decide_false, Bool.and_true, Bool.true_and, Bool.and_false, Bool.false_and, Bool.or_true, Bool.true_or, Bool.or_false, Bool.false_or, Bool.not_true, Bool.not_false, if_true, if_false, ite_true, ite_false, Bool.false_eq_true, not_true_eq_false, not_false_eq_true, bI_t, bI_f, decide_eq_true_eq, reduceCtorEq]; done) | (simp [tmay, bI_0', bI_1', bI_0, bI_1, bI_inj, c_4, c_12, c_31, eq_true c_36]; done) | simp_all) (rfl)
    · refine zw_iconst (v := 0) X dX5_maySpeak_15 ik_0 ?_
      exact zw_zret X F dX5_maySpeak_16 rfl (by first | (simp only [tmay, bI_0', bI_1', bI_0, bI_1, bI_inj, c_4, c_12, decide_true, decide_false, Bool.and_true, Bool.true_and, Bool.and_false, Bool.false_and, Bool.or_true, Bool.true_or, Bool.or_false, Bool.false_or, Bool.not_true, Bool.not_false, if_true, if_false, ite_true, ite_false, Bool.false_eq_true, not_true_eq_false, not_false_eq_true, bI_t, bI_f, decide_eq_true_eq, reduceCtorEq]; done) | (simp [tmay, bI_0', bI_1', bI_0, bI_1, bI_inj, c_4, c_12]; done) | simp_all) (rfl)
set_option maxRecDepth 20000 in
set_option maxHeartbeats 4000000 in
theorem t_X5_payGuard {σ : St} {k : Nat} (hT : isT k) {t v : Int32} : Ct MX5_payGuard [.ref k, .int t, .int v] σ (none) (tpay σ k t v) := by
  refine ct_of (ls0 := [some (.ref k), some (.int t), some (.int v)]) ok_MX5_payGuard rfl (Nat.le_of_ble_eq_true rfl) rfl ?_
  intro g X F
  refine zw_iload_1 X dX5_payGuard_0 ?_
  refine zw_cN_ii (host := "SilenceMinute") X dX5_payGuard_1 (by decide +kernel) ok_MX7_isTraveller st_MX7_isTraveller rm_X5_payGuard_X7_isTraveller (Nat.le_of_ble_eq_true rfl) t_X7_isTraveller ?_
  refine zw_ifeqB (tgt := 27) X dX5_payGuard_4 (by decide) (fun c_4 => ?_) (fun c_4 => ?_)
  · exact zw_vret X F dX5_payGuard_27 rfl (by simp [tpay, tpay1, c_4])
  · refine zw_aload_0 X dX5_payGuard_7 ?_
    refine zw_getR X dX5_payGuard_8 fl_X5_28 ck_X5 hT.1 rfl ?_
    refine zw_iload_1 X dX5_payGuard_11 ?_
    refine zw_dup2_ir X dX5_payGuard_12 ?_
    refine zw_iald X dX5_payGuard_13 hT.2.2.2.2.1 (isTr_in c_4) ?_
    refine zw_iload_2 X dX5_payGuard_14 ?_
    refine zw_isub X dX5_payGuard_15 ?_
    refine zw_iast X dX5_payGuard_16 hT.2.2.2.2.1 (isTr_in c_4) ?_
    refine zw_aload_0 X dX5_payGuard_17 ?_
    refine zw_dup_r X dX5_payGuard_18 ?_
    refine zw_getI X dX5_payGuard_19 fl_X5_37 ck_X5 hT.1 rfl ?_
    refine zw_iload_2 X dX5_payGuard_22 ?_
    refine zw_iadd X dX5_payGuard_23 ?_
    refine zw_put X dX5_payGuard_24 fl_X5_37 ck_X5 ft_5_2 hT.1 rfl ?_
    exact zw_vret X F dX5_payGuard_27 rfl (by simp [tpay, tpay1, c_4])
set_option maxRecDepth 20000 in
set_option maxHeartbeats 4000000 in
theorem t_X5_setBid {σ : St} {k : Nat} (hT : isT k) {t b : Int32} : Ct MX5_setBid [.ref k, .int t, .int b] σ (none) (tsetB σ k t b) := by
  refine ct_of (ls0 := [some (.ref k), some (.int t), some (.int b)]) ok_MX5_setBid rfl (Nat.le_of_ble_eq_true rfl) rfl ?_
  intro g X F
  refine zw_iload_1 X dX5_setBid_0 ?_
  refine zw_cN_ii (host := "SilenceMinute") X dX5_setBid_1 (by decide +kernel) ok_MX7_isTraveller st_MX7_isTraveller rm_X5_setBid_X7_isTraveller (Nat.le_of_ble_eq_true rfl) t_X7_isTraveller ?_
  refine zw_ifeqB (tgt := 14) X dX5_setBid_4 (by decide) (fun c_4 => ?_) (fun c_4 => ?_)
  · exact zw_vret X F dX5_setBid_14 rfl (by simp [tsetB, c_4])
  · refine zw_aload_0 X dX5_setBid_7 ?_
    refine zw_getR X dX5_setBid_8 fl_X5_31 ck_X5 hT.1 rfl ?_
    refine zw_iload_1 X dX5_setBid_11 ?_
    refine zw_iload_2 X dX5_setBid_12 ?_
    refine zw_iast X dX5_setBid_13 hT.2.2.2.2.2 (isTr_in c_4) ?_
    exact zw_vret X F dX5_setBid_14 rfl (by simp [tsetB, c_4])
set_option maxRecDepth 20000 in
set_option maxHeartbeats 4000000 in
theorem t_X5_setRide {σ : St} {k : Nat} (hT : isT k) {t a b : Int32} : Ct MX5_setRide [.ref k, .int t, .int a, .int b] σ (none) (tsetR σ k t a b) := by
  refine ct_of (ls0 := [some (.ref k), some (.int t), some (.int a), some (.int b)]) ok_MX5_setRide rfl (Nat.le_of_ble_eq_true rfl) rfl ?_
  intro g X F
  refine zw_iload_1 X dX5_setRide_0 ?_
  refine zw_cN_ii (host := "SilenceMinute") X dX5_setRide_1 (by decide +kernel) ok_MX7_isTraveller st_MX7_isTraveller rm_X5_setRide_X7_isTraveller (Nat.le_of_ble_eq_true rfl) t_X7_isTraveller ?_
  refine zw_ifeqB (tgt := 21) X dX5_setRide_4 (by decide) (fun c_4 => ?_) (fun c_4 => ?_)
  · exact zw_vret X F dX5_setRide_21 rfl (by simp [tsetR, c_4])
  · refine zw_aload_0 X dX5_setRide_7 ?_
    refine zw_getR X dX5_setRide_8 fl_X5_18 ck_X5 hT.1 rfl ?_
    refine zw_iload_1 X dX5_setRide_11 ?_
    refine zw_iload_2 X dX5_setRide_12 ?_
    refine zw_iast X dX5_setRide_13 hT.2.1 (isTr_in c_4) ?_
    refine zw_aload_0 X dX5_setRide_14 ?_
    refine zw_getR X dX5_setRide_15 fl_X5_22 ck_X5 hT.1 rfl ?_
    refine zw_iload_1 X dX5_setRide_18 ?_
    refine zw_iload_3 X dX5_setRide_19 ?_
    refine zw_iast X dX5_setRide_20 hT.2.2.1 (isTr_in c_4) ?_
    exact zw_vret X F dX5_setRide_21 rfl (by simp [tsetR, c_4])
set_option maxRecDepth 20000 in
set_option maxHeartbeats 4000000 in
theorem t_X5_passMinute {σ : St} {k : Nat} (hT : isT k) : Ct MX5_passMinute [.ref k] σ (some (.int (bI (decide (σ k 1 < σ k 0))))) (tpas σ k) := by
  refine ct_of (ls0 := [some (.ref k), none, none]) ok_MX5_passMinute rfl (Nat.le_of_ble_eq_true rfl) rfl ?_
  intro g X F
  refine zw_aload_0 X dX5_passMinute_0 ?_
  refine zw_getI X dX5_passMinute_1 fl_X5_34 ck_X5 hT.1 rfl ?_
  refine zw_aload_0 X dX5_passMinute_4 ?_
  refine zw_getI X dX5_passMinute_5 fl_X5_9 ck_X5 hT.1 rfl ?_
  refine zw_icmplt (tgt := 13) X dX5_passMinute_8 (by decide) (fun c_8 => ?_) (fun c_8 => ?_)
  · refine zw_iconst (v := 0) X dX5_passMinute_13 ik_0 ?_
    refine zw_istore_1 X dX5_passMinute_14 ?_
    refine zw_fg_2 ?_
    refine zloop (α := St) (S := fun n a => ∀ (s15 : St) (v15_1 : Int32), s15 = a → v15_1 = nI n → ZW g 15 [some (.ref k), some (.int v15_1), none] [] s15) (N := 3) (f := (tpst k)) (a0 := σ) (fun n15 a15 hn15 ha15 ih15 s15 v15_1 hs15 hv15_1 => ?_) (fun a15 ha15 s15 v15_1 hs15 hv15_1 => ?_) _ _ rfl rfl
    · subst hs15 hv15_1
      refine zw_iload_1 X dX5_passMinute_15 ?_
      refine zw_iconst (v := 3) X dX5_passMinute_16 ik_3 ?_
      refine zw_icmpge_f (tgt := 50) X dX5_passMinute_17 (by decide) (nI_lt hn15 (by decide)) ?_
      refine zw_aload_0 X dX5_passMinute_20 ?_
      refine zw_iload_1 X dX5_passMinute_21 ?_
      refine zw_cV_ii X dX5_passMinute_22 lk_X5_69 ok_MX5_holderOf vi_MX5_holderOf rm_X5_passMinute_X5_holderOf hT.1 rfl (Nat.le_of_ble_eq_true rfl) (t_X5_holderOf hT) ?_
      refine zw_istore_2 X dX5_passMinute_25 ?_
      refine zw_iload_2 X dX5_passMinute_26 ?_
      refine zw_cN_ii (host := "SilenceMinute") X dX5_passMinute_27 (by decide +kernel) ok_MX7_isTraveller st_MX7_isTraveller rm_X5_passMinute_X7_isTraveller (Nat.le_of_ble_eq_true rfl) t_X7_isTraveller ?_
      refine zw_ifeqB (tgt := 44) X dX5_passMinute_30 (by decide) (fun c_30 => ?_) (fun c_30 => ?_)
      · refine zw_iinc_1_p1 X dX5_passMinute_44 ?_
        refine zw_goto (tgt := 15) X dX5_passMinute_47 (by decide) ?_
        refine zw_fg_2 ?_
        exact ih15 _ _ (by first | (simp only [tpst, c_8, c_30, decide_true, decide_false, Bool.and_true, Bool.true_and, Bool.and_false, Bool.false_and, Bool.or_true, Bool.true_or, Bool.or_false, Bool.false_or, Bool.not_true, Bool.not_false, if_true, if_false, ite_true, ite_false, Bool.false_eq_true, not_true_eq_false, not_false_eq_true, bI_t, bI_f, decide_eq_true_eq, reduceCtorEq]; done) | (simp [tpst, c_8, c_30]; done) | simp_all) (nI_1 n15)
      · refine zw_aload_0 X dX5_passMinute_33 ?_
        refine zw_iload_2 X dX5_passMinute_34 ?_
        refine zw_aload_0 X dX5_passMinute_35 ?_
        refine zw_getR X dX5_passMinute_36 fl_X5_31 ck_X5 hT.1 rfl ?_
        refine zw_iload_2 X dX5_passMinute_39 ?_
        refine zw_iald X dX5_passMinute_40 hT.2.2.2.2.2 (isTr_in c_30) ?_
        refine zw_cV_iiv X dX5_passMinute_41 lk_X5_75 ok_MX5_payGuard vi_MX5_payGuard rm_X5_passMinute_X5_payGuard hT.1 rfl (Nat.le_of_ble_eq_true rfl) (t_X5_payGuard hT) ?_
        refine zw_iinc_1_p1 X dX5_passMinute_44 ?_
        refine zw_goto (tgt := 15) X dX5_passMinute_47 (by decide) ?_
        refine zw_fg_2 ?_
        exact ih15 _ _ (by first | (simp only [tpst, c_8, c_30, decide_true, decide_false, Bool.and_true, Bool.true_and, Bool.and_false, Bool.false_and, Bool.or_true, Bool.true_or, Bool.or_false, Bool.false_or, Bool.not_true, Bool.not_false, if_true, if_false, ite_true, ite_false, Bool.false_eq_true, not_true_eq_false, not_false_eq_true, bI_t, bI_f, decide_eq_true_eq, reduceCtorEq]; done) | (simp [tpst, c_8, c_30]; done) | simp_all) (nI_1 n15)
    · subst hs15 hv15_1
      refine zw_iload_1 X dX5_passMinute_15 ?_
      refine zw_iconst (v := 3) X dX5_passMinute_16 ik_3 ?_
      refine zw_icmpge_t (tgt := 50) X dX5_passMinute_17 (by decide) (by decide) ?_
      refine zw_aload_0 X dX5_passMinute_50 ?_
      refine zw_dup_r X dX5_passMinute_51 ?_
      refine zw_getI X dX5_passMinute_52 fl_X5_34 ck_X5 hT.1 rfl ?_
      refine zw_iconst (v := 1) X dX5_passMinute_55 ik_1 ?_
      refine zw_iadd X dX5_passMinute_56 ?_
      refine zw_put X dX5_passMinute_57 fl_X5_34 ck_X5 ft_5_1 hT.1 rfl ?_
      refine zw_iconst (v := 1) X dX5_passMinute_60 ik_1 ?_
      exact zw_zret X F dX5_passMinute_61 rfl (by first | (simp only [bI_0', bI_1', bI_0, bI_1, bI_inj, c_8, decide_true, decide_false, Bool.and_true, Bool.true_and, Bool.and_false, Bool.false_and, Bool.or_true, Bool.true_or, Bool.or_false, Bool.false_or, Bool.not_true, Bool.not_false, if_true, if_false, ite_true, ite_false, Bool.false_eq_true, not_true_eq_false, not_false_eq_true, bI_t, bI_f, decide_eq_true_eq, reduceCtorEq]; done) | (simp [bI_0', bI_1', bI_0, bI_1, bI_inj, c_8]; done) | simp_all) (by simp [tpas, tpas3, ha15, c_8])
  · refine zw_iconst (v := 0) X dX5_passMinute_11 ik_0 ?_
    exact zw_zret X F dX5_passMinute_12 rfl (by first | (simp only [bI_0', bI_1', bI_0, bI_1, bI_inj, c_8, decide_true, decide_false, Bool.and_true, Bool.true_and, Bool.and_false, Bool.false_and, Bool.or_true, Bool.true_or, Bool.or_false, Bool.false_or, Bool.not_true, Bool.not_false, if_true, if_false, ite_true, ite_false, Bool.false_eq_true, not_true_eq_false, not_false_eq_true, bI_t, bI_f, decide_eq_true_eq, reduceCtorEq]; done) | (simp [bI_0', bI_1', bI_0, bI_1, bI_inj, c_8]; done) | simp_all) (by simp [tpas, c_8])
set_option maxRecDepth 20000 in
set_option maxHeartbeats 4000000 in
theorem t_X5_takeCough {σ : St} {k : Nat} (hT : isT k) {t : Int32} : Ct MX5_takeCough [.ref k, .int t] σ (none) (tcou σ k t) := by
  refine ct_of (ls0 := [some (.ref k), some (.int t), none, none]) ok_MX5_takeCough rfl (Nat.le_of_ble_eq_true rfl) rfl ?_
  intro g X F
  refine zw_iload_1 X dX5_takeCough_0 ?_
  refine zw_cN_ii (host := "SilenceMinute") X dX5_takeCough_1 (by decide +kernel) ok_MX7_isTraveller st_MX7_isTraveller rm_X5_takeCough_X7_isTraveller (Nat.le_of_ble_eq_true rfl) t_X7_isTraveller ?_
  refine zw_ifeqB (tgt := 15) X dX5_takeCough_4 (by decide) (fun c_4 => ?_) (fun c_4 => ?_)
  · exact zw_vret X F dX5_takeCough_15 rfl (by simp [tcou, tcou1, tcouv, c_4])
  · refine zw_aload_0 X dX5_takeCough_7 ?_
    refine zw_iload_1 X dX5_takeCough_8 ?_
    refine zw_cV_ii X dX5_takeCough_9 lk_X5_72 ok_MX5_ridesNow vi_MX5_ridesNow rm_X5_takeCough_X5_ridesNow hT.1 rfl (Nat.le_of_ble_eq_true rfl) (t_X5_ridesNow hT) ?_
    refine zw_ifneB (tgt := 16) X dX5_takeCough_12 (by decide) (fun c_12 => ?_) (fun c_12 => ?_)
    · refine zw_aload_0 X dX5_takeCough_16 ?_
      refine zw_aload_0 X dX5_takeCough_17 ?_
      refine zw_getR X dX5_takeCough_18 fl_X5_25 ck_X5 hT.1 rfl ?_
      refine zw_iload_1 X dX5_takeCough_21 ?_
      refine zw_iald X dX5_takeCough_22 hT.2.2.2.1 (isTr_in c_4) ?_
      refine zw_cV_ii X dX5_takeCough_23 lk_X5_69 ok_MX5_holderOf vi_MX5_holderOf rm_X5_takeCough_X5_holderOf hT.1 rfl (Nat.le_of_ble_eq_true rfl) (t_X5_holderOf hT) ?_
      refine zw_istore_2 X dX5_takeCough_26 ?_
      refine zw_iload_2 X dX5_takeCough_27 ?_
      refine zw_cN_ii (host := "SilenceMinute") X dX5_takeCough_28 (by decide +kernel) ok_MX7_isTraveller st_MX7_isTraveller rm_X5_takeCough_X7_isTraveller (Nat.le_of_ble_eq_true rfl) t_X7_isTraveller ?_
      refine zw_ifeqB (tgt := 69) X dX5_takeCough_31 (by decide) (fun c_31 => ?_) (fun c_31 => ?_)
      · exact zw_vret X F dX5_takeCough_69 rfl (by simp [tcou, tcou1, tcouv, c_4, c_12, c_31])
      · refine zw_iload_2 X dX5_takeCough_34 ?_
        refine zw_iload_1 X dX5_takeCough_35 ?_
        refine zw_icmpeq (tgt := 69) X dX5_takeCough_36 (by decide) (fun c_36 => ?_) (fun c_36 => ?_)
        · exact zw_vret X F dX5_takeCough_69 rfl (by simp [tcou, tcou1, tcouv, c_4, c_12, c_31, eq_true c_36])
        · refine zw_aload_0 X dX5_takeCough_39 ?_
          refine zw_getI X dX5_takeCough_40 fl_X5_15 ck_X5 hT.1 rfl ?_
          refine zw_aload_0 X dX5_takeCough_43 ?_
          refine zw_getR X dX5_takeCough_44 fl_X5_28 ck_X5 hT.1 rfl ?_
          refine zw_iload_2 X dX5_takeCough_47 ?_
          refine zw_iald X dX5_takeCough_48 hT.2.2.2.2.1 (isTr_in c_31) ?_
          refine zw_min X dX5_takeCough_49 lm_X5_79 ls_min li_math lc_min ⟨Nat.le_of_ble_eq_true rfl, Nat.le_of_ble_eq_true rfl⟩ (Nat.le_of_ble_eq_true rfl) ?_
          refine zw_istore_3 X dX5_takeCough_52 ?_
          refine zw_aload_0 X dX5_takeCough_53 ?_
          refine zw_iload_2 X dX5_takeCough_54 ?_
          refine zw_iload_3 X dX5_takeCough_55 ?_
          refine zw_cV_iiv X dX5_takeCough_56 lk_X5_75 ok_MX5_payGuard vi_MX5_payGuard rm_X5_takeCough_X5_payGuard hT.1 rfl (Nat.le_of_ble_eq_true rfl) (t_X5_payGuard hT) ?_
          refine zw_aload_0 X dX5_takeCough_59 ?_
          refine zw_dup_r X dX5_takeCough_60 ?_
          refine zw_getI X dX5_takeCough_61 fl_X5_40 ck_X5 hT.1 rfl ?_
          refine zw_iload_3 X dX5_takeCough_64 ?_
          refine zw_iadd X dX5_takeCough_65 ?_
          refine zw_put X dX5_takeCough_66 fl_X5_40 ck_X5 ft_5_4 hT.1 rfl ?_
          exact zw_vret X F dX5_takeCough_69 rfl (by simp [tcou, tcou1, tcouv, c_4, c_12, c_31, c_36])
    · exact zw_vret X F dX5_takeCough_15 rfl (by simp [tcou, tcou1, tcouv, c_4, c_12])
set_option maxRecDepth 20000 in
set_option maxHeartbeats 4000000 in
theorem t_X5_doDrawn {σ : St} {k : Nat} (hT : isT k) {x : Int32} : Ct MX5_doDrawn [.ref k, .int x] σ (none) (tdraw σ k x) := by
  refine ct_of (ls0 := [some (.ref k), some (.int x), none, none]) ok_MX5_doDrawn rfl (Nat.le_of_ble_eq_true rfl) rfl ?_
  intro g X F
  refine zw_iload_1 X dX5_doDrawn_0 ?_
  refine zw_bipush (v := 8) X dX5_doDrawn_1 bk_8 ?_
  refine zw_irem X dX5_doDrawn_3 (by decide) ?_
  refine zw_istore_2 X dX5_doDrawn_4 ?_
  refine zw_iload_1 X dX5_doDrawn_5 ?_
  refine zw_bipush (v := 8) X dX5_doDrawn_6 bk_8 ?_
  refine zw_idiv X dX5_doDrawn_8 (by decide) ?_
  refine zw_bipush (v := 6) X dX5_doDrawn_9 bk_6 ?_
  refine zw_irem X dX5_doDrawn_11 (by decide) ?_
  refine zw_istore_3 X dX5_doDrawn_12 ?_
  refine zw_iload_2 X dX5_doDrawn_13 ?_
  refine zw_iconst (v := 1) X dX5_doDrawn_14 ik_1 ?_
  refine zw_icmpgt (tgt := 26) X dX5_doDrawn_15 (by decide) (fun c_15 => ?_) (fun c_15 => ?_)
  · refine zw_iload_2 X dX5_doDrawn_26 ?_
    refine zw_iconst (v := 4) X dX5_doDrawn_27 ik_4 ?_
    refine zw_icmpgt (tgt := 46) X dX5_doDrawn_28 (by decide) (fun c_28 => ?_) (fun c_28 => ?_)
    · refine zw_aload_0 X dX5_doDrawn_46 ?_
      refine zw_iload_3 X dX5_doDrawn_47 ?_
      refine zw_cV_iv X dX5_doDrawn_48 lk_X5_91 ok_MX5_takeCough vi_MX5_takeCough rm_X5_doDrawn_X5_takeCough hT.1 rfl (Nat.le_of_ble_eq_true rfl) (t_X5_takeCough hT) ?_
      exact zw_vret X F dX5_doDrawn_51 rfl (by simp [tdraw, rem, c_15, c_28])
    · refine zw_aload_0 X dX5_doDrawn_31 ?_
      refine zw_iload_3 X dX5_doDrawn_32 ?_
      refine zw_iload_1 X dX5_doDrawn_33 ?_
      refine zw_bipush (v := 64) X dX5_doDrawn_34 bk_64 ?_
      refine zw_idiv X dX5_doDrawn_36 (by decide) ?_
      refine zw_bipush (v := 20) X dX5_doDrawn_37 bk_20 ?_
      refine zw_irem X dX5_doDrawn_39 (by decide) ?_
      refine zw_cV_iiv X dX5_doDrawn_40 lk_X5_88 ok_MX5_setBid vi_MX5_setBid rm_X5_doDrawn_X5_setBid hT.1 rfl (Nat.le_of_ble_eq_true rfl) (t_X5_setBid hT) ?_
      refine zw_goto (tgt := 51) X dX5_doDrawn_43 (by decide) ?_
      exact zw_vret X F dX5_doDrawn_51 rfl (by simp [tdraw, rem, c_15, c_28])
  · refine zw_aload_0 X dX5_doDrawn_18 ?_
    refine zw_cV_ni X dX5_doDrawn_19 lk_X5_84 ok_MX5_passMinute vi_MX5_passMinute rm_X5_doDrawn_X5_passMinute hT.1 rfl (Nat.le_of_ble_eq_true rfl) (t_X5_passMinute hT) ?_
    refine zw_pop_i X dX5_doDrawn_22 ?_
    refine zw_goto (tgt := 51) X dX5_doDrawn_23 (by decide) ?_
    exact zw_vret X F dX5_doDrawn_51 rfl (by simp [tdraw, rem, c_15])
set_option maxRecDepth 20000 in
set_option maxHeartbeats 4000000 in
theorem t_X5_knownAfter {σ : St} {k : Nat} (hT : isT k) {m x : Int32} : Ct MX5_knownAfter [.ref k, .int m, .int x] σ (some (.int (tkno σ k m x))) (σ) := by
  refine ct_of (ls0 := [some (.ref k), some (.int m), some (.int x), none, none, none]) ok_MX5_knownAfter rfl (Nat.le_of_ble_eq_true rfl) rfl ?_
  intro g X F
  refine zw_aload_0 X dX5_knownAfter_0 ?_
  refine zw_iload_1 X dX5_knownAfter_1 ?_
  refine zw_cV_ii X dX5_knownAfter_2 lk_X5_46 ok_MX5_isTunnel vi_MX5_isTunnel rm_X5_knownAfter_X5_isTunnel hT.1 rfl (Nat.le_of_ble_eq_true rfl) (t_X5_isTunnel hT) ?_
  refine zw_ifneB (tgt := 10) X dX5_knownAfter_5 (by decide) (fun c_5 => ?_) (fun c_5 => ?_)
  · refine zw_iload_2 X dX5_knownAfter_10 ?_
    refine zw_istore_3 X dX5_knownAfter_11 ?_
    refine zw_iconst (v := 0) X dX5_knownAfter_12 ik_0 ?_
    refine zw_istore_4 X dX5_knownAfter_13 ?_
    refine zw_fg_5 ?_
    refine zloop (α := Int32) (S := fun n a => ∀ (v15_3 : Int32) (v15_4 : Int32), v15_3 = a → v15_4 = nI n → ZW g 15 [some (.ref k), some (.int m), some (.int x), some (.int v15_3), some (.int v15_4), none] [] σ) (N := 3) (f := (tkst σ k m x)) (a0 := x) (fun n15 a15 hn15 ha15 ih15 v15_3 v15_4 hv15_3 hv15_4 => ?_) (fun a15 ha15 v15_3 v15_4 hv15_3 hv15_4 => ?_) _ _ rfl rfl
    · subst hv15_3 hv15_4
      refine zw_iload_4 X dX5_knownAfter_15 ?_
      refine zw_iconst (v := 3) X dX5_knownAfter_17 ik_3 ?_
      refine zw_icmpge_f (tgt := 48) X dX5_knownAfter_18 (by decide) (nI_lt hn15 (by decide)) ?_
      refine zw_aload_0 X dX5_knownAfter_21 ?_
      refine zw_iload_4 X dX5_knownAfter_22 ?_
      refine zw_iload_1 X dX5_knownAfter_24 ?_
      refine zw_cV_iii X dX5_knownAfter_25 lk_X5_61 ok_MX5_ridersOf vi_MX5_ridersOf rm_X5_knownAfter_X5_ridersOf hT.1 rfl (Nat.le_of_ble_eq_true rfl) (t_X5_ridersOf hT) ?_
      refine zw_istore_5 X dX5_knownAfter_28 ?_
      refine zw_iload_5 X dX5_knownAfter_30 ?_
      refine zw_iload_2 X dX5_knownAfter_32 ?_
      refine zw_iand X dX5_knownAfter_33 ?_
      refine zw_ifeq (tgt := 42) X dX5_knownAfter_34 (by decide) (fun c_34 => ?_) (fun c_34 => ?_)
      · refine zw_iinc_4_p1 X dX5_knownAfter_42 ?_
        refine zw_goto (tgt := 15) X dX5_knownAfter_45 (by decide) ?_
        refine zw_fg_5 ?_
        exact ih15 _ _ (by first | (simp only [tkst, c_5, eq_true c_34, decide_true, decide_false, Bool.and_true, Bool.true_and, Bool.and_false, Bool.false_and, Bool.or_true, Bool.true_or, Bool.or_false, Bool.false_or, Bool.not_true, Bool.not_false, if_true, if_false, ite_true, ite_false, Bool.false_eq_true, not_true_eq_false, not_false_eq_true, bI_t, bI_f, decide_eq_true_eq, reduceCtorEq]; done) | (simp [tkst, c_5, eq_true c_34]; done) | simp_all) (nI_1 n15)
      · refine zw_iload_3 X dX5_knownAfter_37 ?_
        refine zw_iload_5 X dX5_knownAfter_38 ?_
        refine zw_ior X dX5_knownAfter_40 ?_
        refine zw_istore_3 X dX5_knownAfter_41 ?_
        refine zw_iinc_4_p1 X dX5_knownAfter_42 ?_
        refine zw_goto (tgt := 15) X dX5_knownAfter_45 (by decide) ?_
        refine zw_fg_5 ?_
        exact ih15 _ _ (by first | (simp only [tkst, c_5, c_34, decide_true, decide_false, Bool.and_true, Bool.true_and, Bool.and_false, Bool.false_and, Bool.or_true, Bool.true_or, Bool.or_false, Bool.false_or, Bool.not_true, Bool.not_false, if_true, if_false, ite_true, ite_false, Bool.false_eq_true, not_true_eq_false, not_false_eq_true, bI_t, bI_f, decide_eq_true_eq, reduceCtorEq]; done) | (simp [tkst, c_5, c_34]; done) | simp_all) (nI_1 n15)
    · subst hv15_3 hv15_4
      refine zw_iload_4 X dX5_knownAfter_15 ?_
      refine zw_iconst (v := 3) X dX5_knownAfter_17 ik_3 ?_
      refine zw_icmpge_t (tgt := 48) X dX5_knownAfter_18 (by decide) (by decide) ?_
      refine zw_iload_3 X dX5_knownAfter_48 ?_
      exact zw_iret X F dX5_knownAfter_49 rfl (by first | (simp only [tkno, ha15, c_5, decide_true, decide_false, Bool.and_true, Bool.true_and, Bool.and_false, Bool.false_and, Bool.or_true, Bool.true_or, Bool.or_false, Bool.false_or, Bool.not_true, Bool.not_false, if_true, if_false, ite_true, ite_false, Bool.false_eq_true, not_true_eq_false, not_false_eq_true, bI_t, bI_f, decide_eq_true_eq, reduceCtorEq]; done) | (simp [tkno, ha15, c_5]; done) | simp_all) (rfl)
  · refine zw_iload_2 X dX5_knownAfter_8 ?_
    exact zw_iret X F dX5_knownAfter_9 rfl (by simp [tkno, c_5]) (rfl)
set_option maxRecDepth 20000 in
set_option maxHeartbeats 4000000 in
theorem t_X5_copyFrom {σ : St} {k j : Nat} (hT : isT k) (hJ : isT j) : Ct MX5_copyFrom [.ref k, .ref j] σ (none) (tcopy σ k j) := by
  refine ct_of (ls0 := [some (.ref k), some (.ref j), none]) ok_MX5_copyFrom rfl (Nat.le_of_ble_eq_true rfl) rfl ?_
  intro g X F
  refine zw_aload_0 X dX5_copyFrom_0 ?_
  refine zw_aload_1 X dX5_copyFrom_1 ?_
  refine zw_getI X dX5_copyFrom_2 fl_X5_9 ck_X5 hJ.1 rfl ?_
  refine zw_put X dX5_copyFrom_5 fl_X5_9 ck_X5 ft_5_0 hT.1 rfl ?_
  refine zw_aload_0 X dX5_copyFrom_8 ?_
  refine zw_aload_1 X dX5_copyFrom_9 ?_
  refine zw_getI X dX5_copyFrom_10 fl_X5_34 ck_X5 hJ.1 rfl ?_
  refine zw_put X dX5_copyFrom_13 fl_X5_34 ck_X5 ft_5_1 hT.1 rfl ?_
  refine zw_aload_0 X dX5_copyFrom_16 ?_
  refine zw_aload_1 X dX5_copyFrom_17 ?_
  refine zw_getI X dX5_copyFrom_18 fl_X5_37 ck_X5 hJ.1 rfl ?_
  refine zw_put X dX5_copyFrom_21 fl_X5_37 ck_X5 ft_5_2 hT.1 rfl ?_
  refine zw_aload_0 X dX5_copyFrom_24 ?_
  refine zw_aload_1 X dX5_copyFrom_25 ?_
  refine zw_getI X dX5_copyFrom_26 fl_X5_15 ck_X5 hJ.1 rfl ?_
  refine zw_put X dX5_copyFrom_29 fl_X5_15 ck_X5 ft_5_3 hT.1 rfl ?_
  refine zw_aload_0 X dX5_copyFrom_32 ?_
  refine zw_iconst (v := 0) X dX5_copyFrom_33 ik_0 ?_
  refine zw_put X dX5_copyFrom_34 fl_X5_40 ck_X5 ft_5_4 hT.1 rfl ?_
  refine zw_aload_0 X dX5_copyFrom_37 ?_
  refine zw_aload_1 X dX5_copyFrom_38 ?_
  refine zw_getI X dX5_copyFrom_39 fl_X5_43 ck_X5 hJ.1 rfl ?_
  refine zw_put X dX5_copyFrom_42 fl_X5_43 ck_X5 ft_5_5 hT.1 rfl ?_
  refine zw_iconst (v := 0) X dX5_copyFrom_45 ik_0 ?_
  refine zw_istore_2 X dX5_copyFrom_46 ?_
  refine zloop (α := St) (S := fun n a => ∀ (s47 : St) (v47_2 : Int32), s47 = a → v47_2 = nI n → ZW g 47 [some (.ref k), some (.ref j), some (.int v47_2)] [] s47) (N := 6) (f := (tcpst k j)) (a0 := (tcp5 σ k j)) (fun n47 a47 hn47 ha47 ih47 s47 v47_2 hs47 hv47_2 => ?_) (fun a47 ha47 s47 v47_2 hs47 hv47_2 => ?_) _ _ rfl rfl
  · subst hs47 hv47_2
    refine zw_iload_2 X dX5_copyFrom_47 ?_
    refine zw_bipush (v := 6) X dX5_copyFrom_48 bk_6 ?_
    refine zw_icmpge_f (tgt := 119) X dX5_copyFrom_50 (by decide) (nI_lt hn47 (by decide)) ?_
    refine zw_aload_0 X dX5_copyFrom_53 ?_
    refine zw_getR X dX5_copyFrom_54 fl_X5_18 ck_X5 hT.1 rfl ?_
    refine zw_iload_2 X dX5_copyFrom_57 ?_
    refine zw_aload_1 X dX5_copyFrom_58 ?_
    refine zw_getR X dX5_copyFrom_59 fl_X5_18 ck_X5 hJ.1 rfl ?_
    refine zw_iload_2 X dX5_copyFrom_62 ?_
    refine zw_ialdN X dX5_copyFrom_63 hJ.2.1 hn47 (by decide) ?_
    refine zw_iastN X dX5_copyFrom_64 hT.2.1 hn47 (by decide) ?_
    refine zw_aload_0 X dX5_copyFrom_65 ?_
    refine zw_getR X dX5_copyFrom_66 fl_X5_22 ck_X5 hT.1 rfl ?_
    refine zw_iload_2 X dX5_copyFrom_69 ?_
    refine zw_aload_1 X dX5_copyFrom_70 ?_
    refine zw_getR X dX5_copyFrom_71 fl_X5_22 ck_X5 hJ.1 rfl ?_
    refine zw_iload_2 X dX5_copyFrom_74 ?_
    refine zw_ialdN X dX5_copyFrom_75 hJ.2.2.1 hn47 (by decide) ?_
    refine zw_iastN X dX5_copyFrom_76 hT.2.2.1 hn47 (by decide) ?_
    refine zw_aload_0 X dX5_copyFrom_77 ?_
    refine zw_getR X dX5_copyFrom_78 fl_X5_25 ck_X5 hT.1 rfl ?_
    refine zw_iload_2 X dX5_copyFrom_81 ?_
    refine zw_aload_1 X dX5_copyFrom_82 ?_
    refine zw_getR X dX5_copyFrom_83 fl_X5_25 ck_X5 hJ.1 rfl ?_
    refine zw_iload_2 X dX5_copyFrom_86 ?_
    refine zw_ialdN X dX5_copyFrom_87 hJ.2.2.2.1 hn47 (by decide) ?_
    refine zw_iastN X dX5_copyFrom_88 hT.2.2.2.1 hn47 (by decide) ?_
    refine zw_aload_0 X dX5_copyFrom_89 ?_
    refine zw_getR X dX5_copyFrom_90 fl_X5_28 ck_X5 hT.1 rfl ?_
    refine zw_iload_2 X dX5_copyFrom_93 ?_
    refine zw_aload_1 X dX5_copyFrom_94 ?_
    refine zw_getR X dX5_copyFrom_95 fl_X5_28 ck_X5 hJ.1 rfl ?_
    refine zw_iload_2 X dX5_copyFrom_98 ?_
    refine zw_ialdN X dX5_copyFrom_99 hJ.2.2.2.2.1 hn47 (by decide) ?_
    refine zw_iastN X dX5_copyFrom_100 hT.2.2.2.2.1 hn47 (by decide) ?_
    refine zw_aload_0 X dX5_copyFrom_101 ?_
    refine zw_getR X dX5_copyFrom_102 fl_X5_31 ck_X5 hT.1 rfl ?_
    refine zw_iload_2 X dX5_copyFrom_105 ?_
    refine zw_aload_1 X dX5_copyFrom_106 ?_
    refine zw_getR X dX5_copyFrom_107 fl_X5_31 ck_X5 hJ.1 rfl ?_
    refine zw_iload_2 X dX5_copyFrom_110 ?_
    refine zw_ialdN X dX5_copyFrom_111 hJ.2.2.2.2.2 hn47 (by decide) ?_
    refine zw_iastN X dX5_copyFrom_112 hT.2.2.2.2.2 hn47 (by decide) ?_
    refine zw_iinc_2_p1 X dX5_copyFrom_113 ?_
    refine zw_goto (tgt := 47) X dX5_copyFrom_116 (by decide) ?_
    exact ih47 _ _ (by first | (simp only [tcpst, cpA, decide_true, decide_false, Bool.and_true, Bool.true_and, Bool.and_false, Bool.false_and, Bool.or_true, Bool.true_or, Bool.or_false, Bool.false_or, Bool.not_true, Bool.not_false, if_true, if_false, ite_true, ite_false, Bool.false_eq_true, not_true_eq_false, not_false_eq_true, bI_t, bI_f, decide_eq_true_eq, reduceCtorEq]; done) | (simp [tcpst, cpA]; done) | simp_all) (nI_1 n47)
  · subst hs47 hv47_2
    refine zw_iload_2 X dX5_copyFrom_47 ?_
    refine zw_bipush (v := 6) X dX5_copyFrom_48 bk_6 ?_
    refine zw_icmpge_t (tgt := 119) X dX5_copyFrom_50 (by decide) (by decide) ?_
    exact zw_vret X F dX5_copyFrom_119 rfl (ha47)
