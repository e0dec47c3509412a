/-! the reference's words -/
def hasB (s k : Int32) : Bool := decide ((s >>> (k &&& 31)) &&& 1 = 1)
def mBits (s : Int32) : Int32 := itr (fun n a => a + ((s >>> (nI n &&& 31)) &&& 1)) 30 0
def mrd (σ : St) (k m : Int32) : Bool := !decide (σ 43 (ix k) < 0) && (decide (m < σ 42 0) && wth m (σ 43 (ix k)) (σ 44 (ix k)))
theorem in6_of {k : Int32} (h : wth k 0 5 = true) : vp_in k 6 := by
  simp only [wth, Bool.and_eq_true, Bool.not_eq_true', decide_eq_false_iff_not] at h
  rw [vp_in_iff]
  have h1 := Int32.not_lt.mp h.1
  have h2 := Int32.not_lt.mp h.2
  rw [Int32.le_iff_toInt_le] at h1 h2
  have e5 : (5 : Int32).toInt = 5 := rfl
  have e0 : (0 : Int32).toInt = 0 := rfl
  omega
theorem in3_of {k : Int32} (h : wth k 0 2 = true) : vp_in k 3 := by
  simp only [wth, Bool.and_eq_true, Bool.not_eq_true', decide_eq_false_iff_not] at h
  rw [vp_in_iff]
  have h1 := Int32.not_lt.mp h.1
  have h2 := Int32.not_lt.mp h.2
  rw [Int32.le_iff_toInt_le] at h1 h2
  have e5 : (2 : Int32).toInt = 2 := rfl
  have e0 : (0 : Int32).toInt = 0 := rfl
  omega
def mmay (σ : St) (c : Int32) (n : Nat) : Bool := decide (σ 42 16 < σ 42 0) && (!hasB (σ 42 1) (σ 42 16) && (mrd σ (nI n) (σ 42 16) && (decide (σ 45 n = c) && (decide (0 < σ 51 n) && !decide (σ 50 n < σ 51 n)))))
def mhst (σ : St) (c : Int32) (n : Nat) (a : Int32) : Int32 := if mmay σ c n && (decide (a < 0) || decide (σ 51 (ix a) < σ 51 n)) then nI n else a
def mhold (σ : St) (c : Int32) : Int32 := itr (mhst σ c) 6 (-6)
theorem mh_rng (σ : St) (c : Int32) : ∀ n, n ≤ 6 → itr (mhst σ c) n (-6) = -6 ∨ ∃ j, j < 6 ∧ itr (mhst σ c) n (-6) = nI j
  | 0, _ => Or.inl rfl
  | n + 1, h => by
    have e : itr (mhst σ c) (n + 1) (-6) = mhst σ c n (itr (mhst σ c) n (-6)) := rfl
    rw [e]
    unfold mhst
    split
    · exact Or.inr ⟨n, by omega, rfl⟩
    · exact mh_rng σ c n (by omega)
theorem mh_in {σ : St} {c a : Int32} {n : Nat} (ha : a = itr (mhst σ c) n (-6)) (hn : n ≤ 6) (h : ¬ a < 0) : vp_in a 6 := by
  rcases mh_rng σ c n hn with h1 | ⟨j, hj, h1⟩
  · rw [ha, h1] at h; exact absurd (by decide) h
  · rw [ha, h1]; exact vp_in_nI hj (by decide)
theorem mhold_in {σ : St} {c : Int32} (h : ¬ mhold σ c < 0) : vp_in (mhold σ c) 6 := mh_in rfl (Nat.le_refl 6) h
def mp1 (τ : St) (k : Int32) : St := ups τ 50 (ix k) (τ 50 (ix k) - τ 51 (ix k))
def mp2 (τ : St) (k : Int32) : St := ups (mp1 τ k) 42 17 (mp1 τ k 42 17 + mp1 τ k 51 (ix k))
def mp3 (τ : St) (k : Int32) : St := ups (mp2 τ k) 52 (ix k) (mp2 τ k 52 (ix k) + mp2 τ k 51 (ix k))
def mp4 (τ : St) (k : Int32) (c : Nat) : St := ups (mp3 τ k) 53 c (mp3 τ k 53 c + mp3 τ k 51 (ix k))
def mpst (c : Nat) (τ : St) : St := if mhold τ (nI c) < 0 then τ else mp4 τ (mhold τ (nI c)) c
def mpas3 (σ : St) : St := itr mpst 3 σ
def mpas (σ : St) : St := ups (mpas3 σ) 42 16 (mpas3 σ 42 16 + 1)
def mspk (σ : St) (k : Int32) : Bool := mrd σ k (σ 42 16) && (decide (mhold σ (σ 45 (ix k)) < 0) || decide (mhold σ (σ 45 (ix k)) = k))
def mcv (σ : St) (h : Int32) : Int32 := if σ 42 7 < σ 50 (ix h) then σ 42 7 else σ 50 (ix h)
def mc1 (σ : St) (h : Int32) : St := ups σ 50 (ix h) (σ 50 (ix h) - mcv σ h)
def mc2 (σ : St) (h : Int32) : St := ups (mc1 σ h) 42 17 (mc1 σ h 42 17 + mcv σ h)
def mc3 (σ : St) (h : Int32) : St := ups (mc2 σ h) 42 18 (mc2 σ h 42 18 + mcv σ h)
def mcou (σ : St) (k : Int32) : St := if decide (mhold σ (σ 45 (ix k)) < 0) || decide (mhold σ (σ 45 (ix k)) = k) then σ else mc3 σ (mhold σ (σ 45 (ix k)))
def mwhy (σ : St) (k h : Int32) : Int32 := if mrd σ k (σ 42 16) then (if decide (h = 115) && !mspk σ k then 2 else 0) else 1
def man (n : Nat) (τ : St) : St := ups (cpA (cpA τ 50 46 n) 51 47 n) 52 n 0
def mnp (n : Nat) (τ : St) : St := ups τ 53 n 0
def mn1 (σ : St) : St := itr mnp 3 (itr man 6 σ)
def mn2 (σ : St) : St := ups (mn1 σ) 42 16 (mn1 σ 42 8)
def mn3 (σ : St) : St := ups (mn2 σ) 42 17 (mn2 σ 42 9)
def mNow (σ : St) : St := ups (mn3 σ) 42 18 0
/-! frames -/
theorem mp4_ne (τ : St) (k : Int32) (c : Nat) {q : Nat} (h1 : q ≠ 42) (h2 : q ≠ 50) (h3 : q ≠ 52) (h4 : q ≠ 53) : mp4 τ k c q = τ q := by
  unfold mp4 mp3 mp2 mp1
  rw [ups_other h4, ups_other h3, ups_other h1, ups_other h2]
theorem mpst_ne (c : Nat) (τ : St) {q : Nat} (h1 : q ≠ 42) (h2 : q ≠ 50) (h3 : q ≠ 52) (h4 : q ≠ 53) : mpst c τ q = τ q := by
  unfold mpst; split
  · rfl
  · exact mp4_ne _ _ _ h1 h2 h3 h4
theorem mpas_ne (σ : St) {q : Nat} (h1 : q ≠ 42) (h2 : q ≠ 50) (h3 : q ≠ 52) (h4 : q ≠ 53) : mpas σ q = σ q := by
  unfold mpas
  rw [ups_other h1]
  exact itr_fr (fun n τ => mpst_ne n τ h1 h2 h3 h4) 3 σ
theorem itr_fj {f : Nat → St → St} {q j : Nat} (h : ∀ n τ, f n τ q j = τ q j) : ∀ (n : Nat) (τ : St), itr f n τ q j = τ q j
  | 0, _ => rfl
  | n + 1, τ => (h n _).trans (itr_fj h n τ)
theorem ups_j {σ : St} {p i j : Nat} {x : Int32} (h : j ≠ i) : ups σ p i x p j = σ p j := by simp [ups, h]
theorem ups_s (σ : St) (p i : Nat) (x : Int32) : ups σ p i x p i = x := by simp [ups]
theorem mpst_42 (c : Nat) (τ : St) {j : Nat} (h : j ≠ 17) : mpst c τ 42 j = τ 42 j := by
  unfold mpst; split
  · rfl
  · unfold mp4 mp3 mp2 mp1
    rw [ups_other (show (42 : Nat) ≠ 53 by decide), ups_other (show (42 : Nat) ≠ 52 by decide), ups_j h, ups_other (show (42 : Nat) ≠ 50 by decide)]
theorem mpas3_42 (σ : St) {j : Nat} (h : j ≠ 17) : mpas3 σ 42 j = σ 42 j := itr_fj (fun n τ => mpst_42 n τ h) 3 σ
theorem mpas_42 (σ : St) {j : Nat} (h1 : j ≠ 16) (h2 : j ≠ 17) : mpas σ 42 j = σ 42 j := by
  unfold mpas; rw [ups_j h1, mpas3_42 σ h2]
theorem mpas_now (σ : St) : mpas σ 42 16 = σ 42 16 + 1 := by
  unfold mpas; rw [ups_s, mpas3_42 σ (by decide)]
theorem mNow_ne (σ : St) {q : Nat} (h1 : q ≠ 42) (h2 : q ≠ 50) (h3 : q ≠ 51) (h4 : q ≠ 52) (h5 : q ≠ 53) : mNow σ q = σ q := by
  unfold mNow mn3 mn2 mn1
  rw [ups_other h1, ups_other h1, ups_other h1, itr_fr (fun n τ => by unfold mnp; rw [ups_other h5]) 3, itr_fr (fun n τ => by unfold man cpA; rw [ups_other h4, ups_other h3, ups_other h2]) 6]
theorem mn1_42 (σ : St) : mn1 σ 42 = σ 42 := by
  unfold mn1
  rw [itr_fr (fun n τ => by unfold mnp; rw [ups_other (by decide)]) 3, itr_fr (fun n τ => by unfold man cpA; rw [ups_other (by decide), ups_other (by decide), ups_other (by decide)]) 6]
theorem mNow_42 (σ : St) {j : Nat} (h1 : j ≠ 16) (h2 : j ≠ 17) (h3 : j ≠ 18) : mNow σ 42 j = σ 42 j := by
  unfold mNow mn3 mn2
  rw [ups_j h3, ups_j h2, ups_j h1, mn1_42]
theorem mNow_now (σ : St) : mNow σ 42 16 = σ 42 8 := by
  unfold mNow mn3 mn2
  rw [ups_j (by decide), ups_j (by decide), ups_s, mn1_42]
theorem mNow_gua (σ : St) : mNow σ 42 17 = σ 42 9 := by
  unfold mNow mn3 mn2
  rw [ups_j (by decide), ups_s, ups_j (by decide), mn1_42]
theorem mNow_fin (σ : St) : mNow σ 42 18 = 0 := by unfold mNow; rw [ups_s]
/-! the minutes that are left -/
def mrun (n : Nat) (σ : St) : St := itr (fun _ τ => mpas τ) n σ
theorem mrun_42 (σ : St) {j : Nat} (h1 : j ≠ 16) (h2 : j ≠ 17) (n : Nat) : mrun n σ 42 j = σ 42 j := itr_fj (fun _ τ => mpas_42 τ h1 h2) n σ
theorem mrun_now (σ : St) : ∀ n, mrun n σ 42 16 = σ 42 16 + nI n
  | 0 => by rw [nI_0, Int32.add_zero]; rfl
  | n + 1 => by
    have e : mrun (n + 1) σ = mpas (mrun n σ) := rfl
    rw [e, mpas_now, mrun_now σ n, add_nI]
def mEnd (σ : St) : St := mrun (cnt (σ 42 16) (σ 42 0)) σ
def Y_line (σ : St) (a : Int32) : Int32 × St := if wth a 1 30 then (σ 42 0, ups (ups σ 42 0 a) 42 8 0) else (-2, σ)
def Y_tun1 (σ : St) (m : Int32) : St := ups σ 42 1 (σ 42 1 &&& (((1 : Int32) <<< (m &&& 31)) ^^^ (-1)))
def Y_tun2 (σ : St) (m b : Int32) : St := ups (Y_tun1 σ m) 42 1 (Y_tun1 σ m 42 1 ||| (if b = 0 then 0 else ((1 : Int32) <<< (m &&& 31))))
def Y_tun (σ : St) (m b : Int32) : Int32 × St := if wth m 0 29 then (mBits (Y_tun2 σ m b 42 1 &&& (((1 : Int32) <<< (Y_tun2 σ m b 42 0 &&& 31)) - 1)), Y_tun2 σ m b) else (-2, σ)
def Y_rdS (σ : St) (t a b : Int32) : St := ups (ups σ 43 (ix t) (if a < 0 then -6 else a)) 44 (ix t) (if a < 0 then -6 else b)
def Y_rdN (τ : St) (t : Int32) : Int32 := itr (fun n c => c + (if mrd τ t (nI n) then 1 else 0)) (clN (τ 42 0)) 0
def Y_ride (σ : St) (t a b : Int32) : Int32 × St := if wth t 0 5 then (if decide (a = -1) || (wth a 0 29 && wth b a 29) then (Y_rdN (Y_rdS σ t a b) t, Y_rdS σ t a b) else (-2, σ)) else (-1, σ)
def Y_seat (σ : St) (t c : Int32) : Int32 × St := if wth t 0 5 && wth c 0 2 then (σ 45 (ix t), ups σ 45 (ix t) c) else (-1, σ)
def Y_purse (σ : St) (t v : Int32) : Int32 × St := if wth t 0 5 then (if wth v 0 999 then (σ 46 (ix t), ups σ 46 (ix t) v) else (-2, σ)) else (-1, σ)
def Y_fine (σ : St) (v : Int32) : Int32 × St := if wth v 0 99 then (σ 42 7, ups σ 42 7 v) else (-2, σ)
def Y_say1 (σ : St) (s : Int32) : St := ups σ 49 (ix (σ 42 12)) s
def Y_say2 (σ : St) (s : Int32) : St := ups (Y_say1 σ s) 42 12 (Y_say1 σ s 42 12 + 1)
def Y_say (σ : St) (s : Int32) : Int32 × St := if wth s 33 126 then (if σ 42 12 = 60 then (-4, σ) else (Y_say2 σ s 42 12, Y_say2 σ s)) else (-2, σ)
def Y_wipe (σ : St) : Int32 × St := (σ 42 12, ups σ 42 12 0)
def Y_holds (σ : St) (c : Int32) : Int32 × St := if wth c 0 2 then (mhold (mNow σ) c, mNow σ) else (-1, σ)
def Y_heF (τ : St) (t : Int32) (n : Nat) (a : Int32) : Int32 := a ||| (if !decide (nI n = t) && (mrd τ (nI n) (τ 42 16) && decide (τ 45 n = τ 45 (ix t))) then ((1 : Int32) <<< (nI n &&& 31)) else 0)
def Y_hears (σ : St) (t : Int32) : Int32 × St := if wth t 0 5 then (if mspk (mNow σ) t then itr (Y_heF (mNow σ) t) 6 0 else -6, mNow σ) else (-1, σ)
def mfGo : Nat → St → St
  | 0, τ => τ
  | n + 1, τ => if τ 42 16 < τ 42 0 then mfGo n (mpas τ) else τ
def Y_fore (σ : St) (c d : Int32) : Int32 × St := if wth c 0 2 then (if wth d 0 30 then (mhold (mfGo (clN d) (mNow σ)) c, mfGo (clN d) (mNow σ)) else (-2, σ)) else (-1, σ)
def Y_rests (σ : St) (t : Int32) : Int32 × St := if wth t 0 5 then (mEnd (mNow σ) 50 (ix t), mEnd (mNow σ)) else (-1, σ)
def Y_taF (t q : Int32) (_ : Nat) (a : Int32 × St) : Int32 × St := (a.1 + (if mspk a.2 t && (mrd a.2 q (a.2 42 16) && decide (a.2 45 (ix t) = a.2 45 (ix q))) then 1 else 0), mpas a.2)
def Y_taA (σ : St) (t q : Int32) : Int32 × St := itr (Y_taF t q) (cnt (mNow σ 42 16) (mNow σ 42 0)) (0, mNow σ)
theorem itr2_run {β : Type} {f : Nat → β × St → β × St} (h : ∀ n a, (f n a).2 = mpas a.2) : ∀ (n : Nat) (a : β × St), (itr f n a).2 = mrun n a.2
  | 0, _ => rfl
  | n + 1, a => by
    have e : itr f (n + 1) a = f n (itr f n a) := rfl
    rw [e, h, itr2_run h n a]; rfl
def Y_talks (σ : St) (t q : Int32) : Int32 × St := if (wth t 0 5 && wth q 0 5) && !decide (t = q) then Y_taA σ t q else (-1, σ)
theorem run_lt {τ σ : St} {n : Nat} (e : τ = mrun n σ) (h : n ≤ cnt (σ 42 16) (σ 42 0)) : τ 42 16 < τ 42 0 ↔ n < cnt (σ 42 16) (σ 42 0) := by
  rw [e, mrun_now, mrun_42 σ (by decide) (by decide)]
  exact cnt_lt h

set_option maxRecDepth 20000 in
set_option maxHeartbeats 1000000 in
theorem t_X8_in {σ : St} {v a b : Int32} : Ct MX8_in [.int v, .int a, .int b] σ (some (.int (bI (wth v a b)))) (σ) := by
  refine ct_of (ls0 := [some (.int v), some (.int a), some (.int b)]) ok_MX8_in rfl (Nat.le_of_ble_eq_true rfl) rfl ?_
  intro g X F
  refine zw_iload_0 X dX8_in_0 ?_
  refine zw_iload_1 X dX8_in_1 ?_
  refine zw_icmplt (tgt := 14) X dX8_in_2 (by decide) (fun c_2 => ?_) (fun c_2 => ?_)
  · refine zw_iconst (v := 0) X dX8_in_14 ik_0 ?_
    exact zw_zret X F dX8_in_15 rfl (by first | (simp only [wth, bI_0', bI_1', bI_0, bI_1, bI_inj, c_2, decide_true, decide_false, Bool.and_true, Bool.true_and, Bool.and_false, Bool.false_and, Bool.or_true, Bool.true_or, Bool.or_false, Bool.false_or, Bool.not_true, Bool.not_false, if_true, if_false, ite_true, ite_false, Bool.false_eq_true, not_true_eq_false, not_false_eq_true, bI_t, bI_f, decide_eq_true_eq, reduceCtorEq]; done) | (simp [wth, bI_0', bI_1', bI_0, bI_1, bI_inj, c_2]; done) | simp_all) (rfl)
  · refine zw_iload_0 X dX8_in_5 ?_
    refine zw_iload_2 X dX8_in_6 ?_
    refine zw_icmpgt (tgt := 14) X dX8_in_7 (by decide) (fun c_7 => ?_) (fun c_7 => ?_)
    · refine zw_iconst (v := 0) X dX8_in_14 ik_0 ?_
      exact zw_zret X F dX8_in_15 rfl (by first | (simp only [wth, bI_0', bI_1', bI_0, bI_1, bI_inj, c_2, c_7, decide_true, decide_false, Bool.and_true, Bool.true_and, Bool.and_false, Bool.false_and, Bool.or_true, Bool.true_or, Bool.or_false, Bool.false_or, Bool.not_true, Bool.not_false, if_true, if_false, ite_true, ite_false, Bool.false_eq_true, not_true_eq_false, not_false_eq_true, bI_t, bI_f, decide_eq_true_eq, reduceCtorEq]; done) | (simp [wth, bI_0', bI_1', bI_0, bI_1, bI_inj, c_2, c_7]; done) | simp_all) (rfl)
    · refine zw_iconst (v := 1) X dX8_in_10 ik_1 ?_
      refine zw_goto (tgt := 15) X dX8_in_11 (by decide) ?_
      exact zw_zret X F dX8_in_15 rfl (by first | (simp only [wth, bI_0', bI_1', bI_0, bI_1, bI_inj, c_2, c_7, decide_true, decide_false, Bool.and_true, Bool.true_and, Bool.and_false, Bool.false_and, Bool.or_true, Bool.true_or, Bool.or_false, Bool.false_or, Bool.not_true, Bool.not_false, if_true, if_false, ite_true, ite_false, Bool.false_eq_true, not_true_eq_false, not_false_eq_true, bI_t, bI_f, decide_eq_true_eq, reduceCtorEq]; done) | (simp [wth, bI_0', bI_1', bI_0, bI_1, bI_inj, c_2, c_7]; done) | simp_all) (rfl)
set_option maxRecDepth 20000 in
set_option maxHeartbeats 1000000 in
theorem t_X8_has {σ : St} {s k : Int32} : Ct MX8_has [.int s, .int k] σ (some (.int (bI (hasB s k)))) (σ) := by
  refine ct_of (ls0 := [some (.int s), some (.int k)]) ok_MX8_has rfl (Nat.le_of_ble_eq_true rfl) rfl ?_
  intro g X F
  refine zw_iload_0 X dX8_has_0 ?_
  refine zw_iload_1 X dX8_has_1 ?_
  refine zw_ishr X dX8_has_2 ?_
  refine zw_iconst (v := 1) X dX8_has_3 ik_1 ?_
  refine zw_iand X dX8_has_4 ?_
  refine zw_iconst (v := 1) X dX8_has_5 ik_1 ?_
  refine zw_icmpne (tgt := 13) X dX8_has_6 (by decide) (fun c_6 => ?_) (fun c_6 => ?_)
  · refine zw_iconst (v := 0) X dX8_has_13 ik_0 ?_
    exact zw_zret X F dX8_has_14 rfl (by first | (simp only [hasB, bI_0', bI_1', bI_0, bI_1, bI_inj, c_6, decide_true, decide_false, Bool.and_true, Bool.true_and, Bool.and_false, Bool.false_and, Bool.or_true, Bool.true_or, Bool.or_false, Bool.false_or, Bool.not_true, Bool.not_false, if_true, if_false, ite_true, ite_false, Bool.false_eq_true, not_true_eq_false, not_false_eq_true, bI_t, bI_f, decide_eq_true_eq, reduceCtorEq]; done) | (simp [hasB, bI_0', bI_1', bI_0, bI_1, bI_inj, c_6]; done) | simp_all) (rfl)
  · refine zw_iconst (v := 1) X dX8_has_9 ik_1 ?_
    refine zw_goto (tgt := 14) X dX8_has_10 (by decide) ?_
    exact zw_zret X F dX8_has_14 rfl (by first | (simp only [hasB, bI_0', bI_1', bI_0, bI_1, bI_inj, eq_true c_6, decide_true, decide_false, Bool.and_true, Bool.true_and, Bool.and_false, Bool.false_and, Bool.or_true, Bool.true_or, Bool.or_false, Bool.false_or, Bool.not_true, Bool.not_false, if_true, if_false, ite_true, ite_false, Bool.false_eq_true, not_true_eq_false, not_false_eq_true, bI_t, bI_f, decide_eq_true_eq, reduceCtorEq]; done) | (simp [hasB, bI_0', bI_1', bI_0, bI_1, bI_inj, eq_true c_6]; done) | simp_all) (rfl)
set_option maxRecDepth 20000 in
set_option maxHeartbeats 1000000 in
theorem t_X8_isOne {σ : St} {v : Int32} : Ct MX8_isOne [.int v] σ (some (.int (bI (wth v 0 5)))) (σ) := by
  refine ct_of (ls0 := [some (.int v)]) ok_MX8_isOne rfl (Nat.le_of_ble_eq_true rfl) rfl ?_
  intro g X F
  refine zw_iload_0 X dX8_isOne_0 ?_
  refine zw_iconst (v := 0) X dX8_isOne_1 ik_0 ?_
  refine zw_iconst (v := 5) X dX8_isOne_2 ik_5 ?_
  refine zw_cS_iiii X dX8_isOne_3 lk_X8_60 ok_MX8_in st_MX8_in rm_X8_isOne_X8_in (Nat.le_of_ble_eq_true rfl) t_X8_in ?_
  exact zw_zret X F dX8_isOne_6 rfl (rfl) (rfl)
set_option maxRecDepth 20000 in
set_option maxHeartbeats 1000000 in
theorem t_X8_isRoom {σ : St} {v : Int32} : Ct MX8_isRoom [.int v] σ (some (.int (bI (wth v 0 2)))) (σ) := by
  refine ct_of (ls0 := [some (.int v)]) ok_MX8_isRoom rfl (Nat.le_of_ble_eq_true rfl) rfl ?_
  intro g X F
  refine zw_iload_0 X dX8_isRoom_0 ?_
  refine zw_iconst (v := 0) X dX8_isRoom_1 ik_0 ?_
  refine zw_iconst (v := 2) X dX8_isRoom_2 ik_2 ?_
  refine zw_cS_iiii X dX8_isRoom_3 lk_X8_60 ok_MX8_in st_MX8_in rm_X8_isRoom_X8_in (Nat.le_of_ble_eq_true rfl) t_X8_in ?_
  exact zw_zret X F dX8_isRoom_6 rfl (rfl) (rfl)
set_option maxRecDepth 20000 in
set_option maxHeartbeats 1000000 in
theorem t_X8_isLetter {σ : St} {v : Int32} : Ct MX8_isLetter [.int v] σ (some (.int (bI (wth v 65 70)))) (σ) := by
  refine ct_of (ls0 := [some (.int v)]) ok_MX8_isLetter rfl (Nat.le_of_ble_eq_true rfl) rfl ?_
  intro g X F
  refine zw_iload_0 X dX8_isLetter_0 ?_
  refine zw_bipush (v := 65) X dX8_isLetter_1 bk_65 ?_
  refine zw_bipush (v := 70) X dX8_isLetter_3 bk_70 ?_
  refine zw_cS_iiii X dX8_isLetter_5 lk_X8_60 ok_MX8_in st_MX8_in rm_X8_isLetter_X8_in (Nat.le_of_ble_eq_true rfl) t_X8_in ?_
  exact zw_zret X F dX8_isLetter_8 rfl (rfl) (rfl)
set_option maxRecDepth 20000 in
set_option maxHeartbeats 1000000 in
theorem t_X8_isDigit {σ : St} {v : Int32} : Ct MX8_isDigit [.int v] σ (some (.int (bI (wth v 48 57)))) (σ) := by
  refine ct_of (ls0 := [some (.int v)]) ok_MX8_isDigit rfl (Nat.le_of_ble_eq_true rfl) rfl ?_
  intro g X F
  refine zw_iload_0 X dX8_isDigit_0 ?_
  refine zw_bipush (v := 48) X dX8_isDigit_1 bk_48 ?_
  refine zw_bipush (v := 57) X dX8_isDigit_3 bk_57 ?_
  refine zw_cS_iiii X dX8_isDigit_5 lk_X8_60 ok_MX8_in st_MX8_in rm_X8_isDigit_X8_in (Nat.le_of_ble_eq_true rfl) t_X8_in ?_
  exact zw_zret X F dX8_isDigit_8 rfl (rfl) (rfl)
set_option maxRecDepth 20000 in
set_option maxHeartbeats 1000000 in
theorem t_X8_bits {σ : St} {s : Int32} : Ct MX8_bits [.int s] σ (some (.int (mBits s))) (σ) := by
  refine ct_of (ls0 := [some (.int s), none, none]) ok_MX8_bits rfl (Nat.le_of_ble_eq_true rfl) rfl ?_
  intro g X F
  refine zw_iconst (v := 0) X dX8_bits_0 ik_0 ?_
  refine zw_istore_1 X dX8_bits_1 ?_
  refine zw_iconst (v := 0) X dX8_bits_2 ik_0 ?_
  refine zw_istore_2 X dX8_bits_3 ?_
  refine zloop (α := Int32) (S := fun zn za => ∀ (v4_1 : Int32) (v4_2 : Int32), v4_1 = za → v4_2 = nI zn → ZW g 4 [some (.int s), some (.int v4_1), some (.int v4_2)] [] σ) (N := 30) (f := (fun n a => a + ((s >>> (nI n &&& 31)) &&& 1))) (a0 := (0 : Int32)) (fun n4 a4 hn4 ha4 ih4 v4_1 v4_2 hv4_1 hv4_2 => ?_) (fun a4 ha4 v4_1 v4_2 hv4_1 hv4_2 => ?_) _ _ rfl rfl
  · subst hv4_1 hv4_2
    refine zw_iload_2 X dX8_bits_4 ?_
    refine zw_bipush (v := 30) X dX8_bits_5 bk_30 ?_
    refine zw_icmpge_f (tgt := 24) X dX8_bits_7 (by decide) (nI_lt hn4 (by decide)) ?_
    refine zw_iload_1 X dX8_bits_10 ?_
    refine zw_iload_0 X dX8_bits_11 ?_
    refine zw_iload_2 X dX8_bits_12 ?_
    refine zw_ishr X dX8_bits_13 ?_
    refine zw_iconst (v := 1) X dX8_bits_14 ik_1 ?_
    refine zw_iand X dX8_bits_15 ?_
    refine zw_iadd X dX8_bits_16 ?_
    refine zw_istore_1 X dX8_bits_17 ?_
    refine zw_iinc_2_p1 X dX8_bits_18 ?_
    refine zw_goto (tgt := 4) X dX8_bits_21 (by decide) ?_
    exact ih4 _ _ (by first | rfl | (simp only [decide_true, decide_false, Bool.and_true, Bool.true_and, Bool.and_false, Bool.false_and, Bool.or_true, Bool.true_or, Bool.or_false, Bool.false_or, Bool.not_true, Bool.not_false, if_true, if_false, ite_true, ite_false, Bool.false_eq_true, not_true_eq_false, not_false_eq_true, bI_t, bI_f, decide_eq_true_eq, reduceCtorEq]; done) | (simp; done) | simp_all) (nI_1 n4)
  · subst hv4_1 hv4_2
    refine zw_iload_2 X dX8_bits_4 ?_
    refine zw_bipush (v := 30) X dX8_bits_5 bk_30 ?_
    refine zw_icmpge_t (tgt := 24) X dX8_bits_7 (by decide) (by decide) ?_
    refine zw_iload_1 X dX8_bits_24 ?_
    exact zw_iret X F dX8_bits_25 rfl (by first | (simp only [mBits, ha4, decide_true, decide_false, Bool.and_true, Bool.true_and, Bool.and_false, Bool.false_and, Bool.or_true, Bool.true_or, Bool.or_false, Bool.false_or, Bool.not_true, Bool.not_false, if_true, if_false, ite_true, ite_false, Bool.false_eq_true, not_true_eq_false, not_false_eq_true, bI_t, bI_f, decide_eq_true_eq, reduceCtorEq]; done) | (simp [mBits, ha4]; done) | simp_all) (rfl)
set_option maxRecDepth 20000 in
set_option maxHeartbeats 1000000 in
theorem t_X8_rides {σ : St} {k m : Int32} (hk : vp_in k 6) : Ct MX8_rides [.ref 42, .int k, .int m] σ (some (.int (bI (mrd σ k m)))) (σ) := by
  refine ct_of (ls0 := [some (.ref 42), some (.int k), some (.int m)]) ok_MX8_rides rfl (Nat.le_of_ble_eq_true rfl) rfl ?_
  intro g X F
  refine zw_aload_0 X dX8_rides_0 ?_
  refine zw_getR X dX8_rides_1 fl_X8_13 ck_X8 sh_42 rfl ?_
  refine zw_iload_1 X dX8_rides_4 ?_
  refine zw_iald X dX8_rides_5 sh_43 hk ?_
  refine zw_iflt (tgt := 40) X dX8_rides_6 (by decide) (fun c_6 => ?_) (fun c_6 => ?_)
  · refine zw_iconst (v := 0) X dX8_rides_40 ik_0 ?_
    exact zw_zret X F dX8_rides_41 rfl (by first | (simp only [mrd, bI_0', bI_1', bI_0, bI_1, bI_inj, c_6, decide_true, decide_false, Bool.and_true, Bool.true_and, Bool.and_false, Bool.false_and, Bool.or_true, Bool.true_or, Bool.or_false, Bool.false_or, Bool.not_true, Bool.not_false, if_true, if_false, ite_true, ite_false, Bool.false_eq_true, not_true_eq_false, not_false_eq_true, bI_t, bI_f, decide_eq_true_eq, reduceCtorEq]; done) | (simp [mrd, bI_0', bI_1', bI_0, bI_1, bI_inj, c_6]; done) | simp_all) (rfl)
  · refine zw_iload_2 X dX8_rides_9 ?_
    refine zw_aload_0 X dX8_rides_10 ?_
    refine zw_getI X dX8_rides_11 fl_X8_7 ck_X8 sh_42 rfl ?_
    refine zw_icmpge (tgt := 40) X dX8_rides_14 (by decide) (fun c_14 => ?_) (fun c_14 => ?_)
    · refine zw_iconst (v := 0) X dX8_rides_40 ik_0 ?_
      exact zw_zret X F dX8_rides_41 rfl (by first | (simp only [mrd, bI_0', bI_1', bI_0, bI_1, bI_inj, c_6, c_14, decide_true, decide_false, Bool.and_true, Bool.true_and, Bool.and_false, Bool.false_and, Bool.or_true, Bool.true_or, Bool.or_false, Bool.false_or, Bool.not_true, Bool.not_false, if_true, if_false, ite_true, ite_false, Bool.false_eq_true, not_true_eq_false, not_false_eq_true, bI_t, bI_f, decide_eq_true_eq, reduceCtorEq]; done) | (simp [mrd, bI_0', bI_1', bI_0, bI_1, bI_inj, c_6, c_14]; done) | simp_all) (rfl)
    · refine zw_iload_2 X dX8_rides_17 ?_
      refine zw_aload_0 X dX8_rides_18 ?_
      refine zw_getR X dX8_rides_19 fl_X8_13 ck_X8 sh_42 rfl ?_
      refine zw_iload_1 X dX8_rides_22 ?_
      refine zw_iald X dX8_rides_23 sh_43 hk ?_
      refine zw_aload_0 X dX8_rides_24 ?_
      refine zw_getR X dX8_rides_25 fl_X8_17 ck_X8 sh_42 rfl ?_
      refine zw_iload_1 X dX8_rides_28 ?_
      refine zw_iald X dX8_rides_29 sh_44 hk ?_
      refine zw_cS_iiii X dX8_rides_30 lk_X8_60 ok_MX8_in st_MX8_in rm_X8_rides_X8_in (Nat.le_of_ble_eq_true rfl) t_X8_in ?_
      refine zw_ifeqB (tgt := 40) X dX8_rides_33 (by decide) (fun c_33 => ?_) (fun c_33 => ?_)
      · refine zw_iconst (v := 0) X dX8_rides_40 ik_0 ?_
        exact zw_zret X F dX8_rides_41 rfl (by first | (simp only [mrd, bI_0', bI_1', bI_0, bI_1, bI_inj, c_6, c_14, c_33, decide_true, decide_false, Bool.and_true, Bool.true_and, Bool.and_false, Bool.false_and, Bool.or_true, Bool.true_or, Bool.or_false, Bool.false_or, Bool.not_true, Bool.not_false, if_true, if_false, ite_true, ite_false, Bool.false_eq_true, not_true_eq_false, not_false_eq_true, bI_t, bI_f, decide_eq_true_eq, reduceCtorEq]; done) | (simp [mrd, bI_0', bI_1', bI_0, bI_1, bI_inj, c_6, c_14, c_33]; done) | simp_all) (rfl)
      · refine zw_iconst (v := 1) X dX8_rides_36 ik_1 ?_
        refine zw_goto (tgt := 41) X dX8_rides_37 (by decide) ?_
        exact zw_zret X F dX8_rides_41 rfl (by first | (simp only [mrd, bI_0', bI_1', bI_0, bI_1, bI_inj, c_6, c_14, c_33, decide_true, decide_false, Bool.and_true, Bool.true_and, Bool.and_false, Bool.false_and, Bool.or_true, Bool.true_or, Bool.or_false, Bool.false_or, Bool.not_true, Bool.not_false, if_true, if_false, ite_true, ite_false, Bool.false_eq_true, not_true_eq_false, not_false_eq_true, bI_t, bI_f, decide_eq_true_eq, reduceCtorEq]; done) | (simp [mrd, bI_0', bI_1', bI_0, bI_1, bI_inj, c_6, c_14, c_33]; done) | simp_all) (rfl)
set_option maxRecDepth 20000 in
set_option maxHeartbeats 1000000 in
theorem t_X8_isTunnel {σ : St} {m : Int32} : Ct MX8_isTunnel [.ref 42, .int m] σ (some (.int (bI (hasB (σ 42 1) m)))) (σ) := by
  refine ct_of (ls0 := [some (.ref 42), some (.int m)]) ok_MX8_isTunnel rfl (Nat.le_of_ble_eq_true rfl) rfl ?_
  intro g X F
  refine zw_aload_0 X dX8_isTunnel_0 ?_
  refine zw_getI X dX8_isTunnel_1 fl_X8_67 ck_X8 sh_42 rfl ?_
  refine zw_iload_1 X dX8_isTunnel_4 ?_
  refine zw_cS_iii X dX8_isTunnel_5 lk_X8_110 ok_MX8_has st_MX8_has rm_X8_isTunnel_X8_has (Nat.le_of_ble_eq_true rfl) t_X8_has ?_
  exact zw_zret X F dX8_isTunnel_8 rfl (rfl) (rfl)
set_option maxRecDepth 20000 in
set_option maxHeartbeats 1000000 in
theorem t_X8_ridesNow {σ : St} {k : Int32} (hk : vp_in k 6) : Ct MX8_ridesNow [.ref 42, .int k] σ (some (.int (bI (mrd σ k (σ 42 16))))) (σ) := by
  refine ct_of (ls0 := [some (.ref 42), some (.int k)]) ok_MX8_ridesNow rfl (Nat.le_of_ble_eq_true rfl) rfl ?_
  intro g X F
  refine zw_aload_0 X dX8_ridesNow_0 ?_
  refine zw_iload_1 X dX8_ridesNow_1 ?_
  refine zw_aload_0 X dX8_ridesNow_2 ?_
  refine zw_getI X dX8_ridesNow_3 fl_X8_98 ck_X8 sh_42 rfl ?_
  refine zw_cV_iii X dX8_ridesNow_6 lk_X8_78 ok_MX8_rides vi_MX8_rides rm_X8_ridesNow_X8_rides sh_42 rfl (Nat.le_of_ble_eq_true rfl) (t_X8_rides hk) ?_
  exact zw_zret X F dX8_ridesNow_9 rfl (rfl) (rfl)
set_option maxRecDepth 20000 in
set_option maxHeartbeats 1000000 in
theorem t_X8_holder {σ : St} {c : Int32} : Ct MX8_holder [.ref 42, .int c] σ (some (.int (mhold σ c))) (σ) := by
  refine ct_of (ls0 := [some (.ref 42), some (.int c), none, none, none]) ok_MX8_holder rfl (Nat.le_of_ble_eq_true rfl) rfl ?_
  intro g X F
  refine zw_bipush (v := -6) X dX8_holder_0 bk_m6 ?_
  refine zw_istore_2 X dX8_holder_2 ?_
  refine zw_iconst (v := 0) X dX8_holder_3 ik_0 ?_
  refine zw_istore_3 X dX8_holder_4 ?_
  refine zw_fg_4 ?_
  refine zloop (α := Int32) (S := fun zn za => ∀ (v5_2 : Int32) (v5_3 : Int32), v5_2 = za → v5_3 = nI zn → ZW g 5 [some (.ref 42), some (.int c), some (.int v5_2), some (.int v5_3), none] [] σ) (N := 6) (f := (mhst σ c)) (a0 := (-6 : Int32)) (fun n5 a5 hn5 ha5 ih5 v5_2 v5_3 hv5_2 hv5_3 => ?_) (fun a5 ha5 v5_2 v5_3 hv5_2 hv5_3 => ?_) _ _ rfl rfl
  · subst hv5_2 hv5_3
    refine zw_iload_3 X dX8_holder_5 ?_
    refine zw_bipush (v := 6) X dX8_holder_6 bk_6 ?_
    refine zw_icmpge_f (tgt := 122) X dX8_holder_8 (by decide) (nI_lt hn5 (by decide)) ?_
    refine zw_aload_0 X dX8_holder_11 ?_
    refine zw_getI X dX8_holder_12 fl_X8_98 ck_X8 sh_42 rfl ?_
    refine zw_aload_0 X dX8_holder_15 ?_
    refine zw_getI X dX8_holder_16 fl_X8_7 ck_X8 sh_42 rfl ?_
    refine zw_icmpge (tgt := 83) X dX8_holder_19 (by decide) (fun c_19 => ?_) (fun c_19 => ?_)
    · refine zw_iconst (v := 0) X dX8_holder_83 ik_0 ?_
      refine zw_istore_4 X dX8_holder_84 ?_
      refine zw_iload_4 X dX8_holder_86 ?_
      refine zw_ifeq_t (tgt := 114) X dX8_holder_88 (by decide) (by decide) ?_
      refine zw_iload_2 X dX8_holder_114 ?_
      refine zw_istore_2 X dX8_holder_115 ?_
      refine zw_iinc_3_p1 X dX8_holder_116 ?_
      refine zw_goto (tgt := 5) X dX8_holder_119 (by decide) ?_
      refine zw_fg_4 ?_
      exact ih5 _ _ (by first | (simp only [mhst, mmay, c_19, decide_true, decide_false, Bool.and_true, Bool.true_and, Bool.and_false, Bool.false_and, Bool.or_true, Bool.true_or, Bool.or_false, Bool.false_or, Bool.not_true, Bool.not_false, if_true, if_false, ite_true, ite_false, Bool.false_eq_true, not_true_eq_false, not_false_eq_true, bI_t, bI_f, decide_eq_true_eq, reduceCtorEq]; done) | (simp [mhst, mmay, c_19]; done) | simp_all) (nI_1 n5)
    · refine zw_aload_0 X dX8_holder_22 ?_
      refine zw_aload_0 X dX8_holder_23 ?_
      refine zw_getI X dX8_holder_24 fl_X8_98 ck_X8 sh_42 rfl ?_
      refine zw_cV_ii X dX8_holder_27 lk_X8_113 ok_MX8_isTunnel vi_MX8_isTunnel rm_X8_holder_X8_isTunnel sh_42 rfl (Nat.le_of_ble_eq_true rfl) t_X8_isTunnel ?_
      refine zw_ifneB (tgt := 83) X dX8_holder_30 (by decide) (fun c_30 => ?_) (fun c_30 => ?_)
      · refine zw_iconst (v := 0) X dX8_holder_83 ik_0 ?_
        refine zw_istore_4 X dX8_holder_84 ?_
        refine zw_iload_4 X dX8_holder_86 ?_
        refine zw_ifeq_t (tgt := 114) X dX8_holder_88 (by decide) (by decide) ?_
        refine zw_iload_2 X dX8_holder_114 ?_
        refine zw_istore_2 X dX8_holder_115 ?_
        refine zw_iinc_3_p1 X dX8_holder_116 ?_
        refine zw_goto (tgt := 5) X dX8_holder_119 (by decide) ?_
        refine zw_fg_4 ?_
        exact ih5 _ _ (by first | (simp only [mhst, mmay, c_19, c_30, decide_true, decide_false, Bool.and_true, Bool.true_and, Bool.and_false, Bool.false_and, Bool.or_true, Bool.true_or, Bool.or_false, Bool.false_or, Bool.not_true, Bool.not_false, if_true, if_false, ite_true, ite_false, Bool.false_eq_true, not_true_eq_false, not_false_eq_true, bI_t, bI_f, decide_eq_true_eq, reduceCtorEq]; done) | (simp [mhst, mmay, c_19, c_30]; done) | simp_all) (nI_1 n5)
      · refine zw_aload_0 X dX8_holder_33 ?_
        refine zw_iload_3 X dX8_holder_34 ?_
        refine zw_aload_0 X dX8_holder_35 ?_
        refine zw_getI X dX8_holder_36 fl_X8_98 ck_X8 sh_42 rfl ?_
        refine zw_cV_iii X dX8_holder_39 lk_X8_78 ok_MX8_rides vi_MX8_rides rm_X8_holder_X8_rides sh_42 rfl (Nat.le_of_ble_eq_true rfl) (t_X8_rides (vp_in_nI hn5 (by decide))) ?_
        refine zw_ifeqB (tgt := 83) X dX8_holder_42 (by decide) (fun c_42 => ?_) (fun c_42 => ?_)
        · refine zw_iconst (v := 0) X dX8_holder_83 ik_0 ?_
          refine zw_istore_4 X dX8_holder_84 ?_
          refine zw_iload_4 X dX8_holder_86 ?_
          refine zw_ifeq_t (tgt := 114) X dX8_holder_88 (by decide) (by decide) ?_
          refine zw_iload_2 X dX8_holder_114 ?_
          refine zw_istore_2 X dX8_holder_115 ?_
          refine zw_iinc_3_p1 X dX8_holder_116 ?_
          refine zw_goto (tgt := 5) X dX8_holder_119 (by decide) ?_
          refine zw_fg_4 ?_
          exact ih5 _ _ (by first | (simp only [mhst, mmay, c_19, c_30, c_42, decide_true, decide_false, Bool.and_true, Bool.true_and, Bool.and_false, Bool.false_and, Bool.or_true, Bool.true_or, Bool.or_false, Bool.false_or, Bool.not_true, Bool.not_false, if_true, if_false, ite_true, ite_false, Bool.false_eq_true, not_true_eq_false, not_false_eq_true, bI_t, bI_f, decide_eq_true_eq, reduceCtorEq]; done) | (simp [mhst, mmay, c_19, c_30, c_42]; done) | simp_all) (nI_1 n5)
        · refine zw_aload_0 X dX8_holder_45 ?_
          refine zw_getR X dX8_holder_46 fl_X8_20 ck_X8 sh_42 rfl ?_
          refine zw_iload_3 X dX8_holder_49 ?_
          refine zw_ialdN X dX8_holder_50 sh_45 hn5 (by decide) ?_
          refine zw_iload_1 X dX8_holder_51 ?_
          refine zw_icmpne (tgt := 83) X dX8_holder_52 (by decide) (fun c_52 => ?_) (fun c_52 => ?_)
          · refine zw_iconst (v := 0) X dX8_holder_83 ik_0 ?_
            refine zw_istore_4 X dX8_holder_84 ?_
            refine zw_iload_4 X dX8_holder_86 ?_
            refine zw_ifeq_t (tgt := 114) X dX8_holder_88 (by decide) (by decide) ?_
            refine zw_iload_2 X dX8_holder_114 ?_
            refine zw_istore_2 X dX8_holder_115 ?_
            refine zw_iinc_3_p1 X dX8_holder_116 ?_
            refine zw_goto (tgt := 5) X dX8_holder_119 (by decide) ?_
            refine zw_fg_4 ?_
            exact ih5 _ _ (by first | (simp only [mhst, mmay, c_19, c_30, c_42, c_52, decide_true, decide_false, Bool.and_true, Bool.true_and, Bool.and_false, Bool.false_and, Bool.or_true, Bool.true_or, Bool.or_false, Bool.false_or, Bool.not_true, Bool.not_false, if_true, if_false, ite_true, ite_false, Bool.false_eq_true, not_true_eq_false, not_false_eq_true, bI_t, bI_f, decide_eq_true_eq, reduceCtorEq]; done) | (simp [mhst, mmay, c_19, c_30, c_42, c_52]; done) | simp_all) (nI_1 n5)
          · refine zw_aload_0 X dX8_holder_55 ?_
            refine zw_getR X dX8_holder_56 fl_X8_41 ck_X8 sh_42 rfl ?_
            refine zw_iload_3 X dX8_holder_59 ?_
            refine zw_ialdN X dX8_holder_60 sh_51 hn5 (by decide) ?_
            refine zw_ifle (tgt := 83) X dX8_holder_61 (by decide) (fun c_61 => ?_) (fun c_61 => ?_)
            · refine zw_iconst (v := 0) X dX8_holder_83 ik_0 ?_
              refine zw_istore_4 X dX8_holder_84 ?_
              refine zw_iload_4 X dX8_holder_86 ?_
              refine zw_ifeq_t (tgt := 114) X dX8_holder_88 (by decide) (by decide) ?_
              refine zw_iload_2 X dX8_holder_114 ?_
              refine zw_istore_2 X dX8_holder_115 ?_
              refine zw_iinc_3_p1 X dX8_holder_116 ?_
              refine zw_goto (tgt := 5) X dX8_holder_119 (by decide) ?_
              refine zw_fg_4 ?_
              exact ih5 _ _ (by first | (simp only [mhst, mmay, c_19, c_30, c_42, eq_true c_52, c_61, decide_true, decide_false, Bool.and_true, Bool.true_and, Bool.and_false, Bool.false_and, Bool.or_true, Bool.true_or, Bool.or_false, Bool.false_or, Bool.not_true, Bool.not_false, if_true, if_false, ite_true, ite_false, Bool.false_eq_true, not_true_eq_false, not_false_eq_true, bI_t, bI_f, decide_eq_true_eq, reduceCtorEq]; done) | (simp [mhst, mmay, c_19, c_30, c_42, eq_true c_52, c_61]; done) | simp_all) (nI_1 n5)
            · refine zw_aload_0 X dX8_holder_64 ?_
              refine zw_getR X dX8_holder_65 fl_X8_41 ck_X8 sh_42 rfl ?_
              refine zw_iload_3 X dX8_holder_68 ?_
              refine zw_ialdN X dX8_holder_69 sh_51 hn5 (by decide) ?_
              refine zw_aload_0 X dX8_holder_70 ?_
              refine zw_getR X dX8_holder_71 fl_X8_38 ck_X8 sh_42 rfl ?_
              refine zw_iload_3 X dX8_holder_74 ?_
              refine zw_ialdN X dX8_holder_75 sh_50 hn5 (by decide) ?_
              refine zw_icmpgt (tgt := 83) X dX8_holder_76 (by decide) (fun c_76 => ?_) (fun c_76 => ?_)
              · refine zw_iconst (v := 0) X dX8_holder_83 ik_0 ?_
                refine zw_istore_4 X dX8_holder_84 ?_
                refine zw_iload_4 X dX8_holder_86 ?_
                refine zw_ifeq_t (tgt := 114) X dX8_holder_88 (by decide) (by decide) ?_
                refine zw_iload_2 X dX8_holder_114 ?_
                refine zw_istore_2 X dX8_holder_115 ?_
                refine zw_iinc_3_p1 X dX8_holder_116 ?_
                refine zw_goto (tgt := 5) X dX8_holder_119 (by decide) ?_
                refine zw_fg_4 ?_
                exact ih5 _ _ (by first | (simp only [mhst, mmay, c_19, c_30, c_42, eq_true c_52, c_61, c_76, decide_true, decide_false, Bool.and_true, Bool.true_and, Bool.and_false, Bool.false_and, Bool.or_true, Bool.true_or, Bool.or_false, Bool.false_or, Bool.not_true, Bool.not_false, if_true, if_false, ite_true, ite_false, Bool.false_eq_true, not_true_eq_false, not_false_eq_true, bI_t, bI_f, decide_eq_true_eq, reduceCtorEq]; done) | (simp [mhst, mmay, c_19, c_30, c_42, eq_true c_52, c_61, c_76]; done) | simp_all) (nI_1 n5)
              · refine zw_iconst (v := 1) X dX8_holder_79 ik_1 ?_
                refine zw_goto (tgt := 84) X dX8_holder_80 (by decide) ?_
                refine zw_istore_4 X dX8_holder_84 ?_
                refine zw_iload_4 X dX8_holder_86 ?_
                refine zw_ifeq_f (tgt := 114) X dX8_holder_88 (by decide) (by decide) ?_
                refine zw_iload_2 X dX8_holder_91 ?_
                refine zw_iflt (tgt := 110) X dX8_holder_92 (by decide) (fun c_92 => ?_) (fun c_92 => ?_)
                · refine zw_iload_3 X dX8_holder_110 ?_
                  refine zw_goto (tgt := 115) X dX8_holder_111 (by decide) ?_
                  refine zw_istore_2 X dX8_holder_115 ?_
                  refine zw_iinc_3_p1 X dX8_holder_116 ?_
                  refine zw_goto (tgt := 5) X dX8_holder_119 (by decide) ?_
                  refine zw_fg_4 ?_
                  exact ih5 _ _ (by first | (simp only [mhst, mmay, c_19, c_30, c_42, eq_true c_52, c_61, c_76, c_92, decide_true, decide_false, Bool.and_true, Bool.true_and, Bool.and_false, Bool.false_and, Bool.or_true, Bool.true_or, Bool.or_false, Bool.false_or, Bool.not_true, Bool.not_false, if_true, if_false, ite_true, ite_false, Bool.false_eq_true, not_true_eq_false, not_false_eq_true, bI_t, bI_f, decide_eq_true_eq, reduceCtorEq]; done) | (simp [mhst, mmay, c_19, c_30, c_42, eq_true c_52, c_61, c_76, c_92]; done) | simp_all) (nI_1 n5)
                · refine zw_aload_0 X dX8_holder_95 ?_
                  refine zw_getR X dX8_holder_96 fl_X8_41 ck_X8 sh_42 rfl ?_
                  refine zw_iload_3 X dX8_holder_99 ?_
                  refine zw_ialdN X dX8_holder_100 sh_51 hn5 (by decide) ?_
                  refine zw_aload_0 X dX8_holder_101 ?_
                  refine zw_getR X dX8_holder_102 fl_X8_41 ck_X8 sh_42 rfl ?_
                  refine zw_iload_2 X dX8_holder_105 ?_
                  refine zw_iald X dX8_holder_106 sh_51 (mh_in ha5 (Nat.le_of_lt hn5) c_92) ?_
                  refine zw_icmple (tgt := 114) X dX8_holder_107 (by decide) (fun c_107 => ?_) (fun c_107 => ?_)
                  · refine zw_iload_2 X dX8_holder_114 ?_
                    refine zw_istore_2 X dX8_holder_115 ?_
                    refine zw_iinc_3_p1 X dX8_holder_116 ?_
                    refine zw_goto (tgt := 5) X dX8_holder_119 (by decide) ?_
                    refine zw_fg_4 ?_
                    exact ih5 _ _ (by first | (simp only [mhst, mmay, c_19, c_30, c_42, eq_true c_52, c_61, c_76, c_92, c_107, decide_true, decide_false, Bool.and_true, Bool.true_and, Bool.and_false, Bool.false_and, Bool.or_true, Bool.true_or, Bool.or_false, Bool.false_or, Bool.not_true, Bool.not_false, if_true, if_false, ite_true, ite_false, Bool.false_eq_true, not_true_eq_false, not_false_eq_true, bI_t, bI_f, decide_eq_true_eq, reduceCtorEq]; done) | (simp [mhst, mmay, c_19, c_30, c_42, eq_true c_52, c_61, c_76, c_92, c_107]; done) | simp_all) (nI_1 n5)
                  · refine zw_iload_3 X dX8_holder_110 ?_
                    refine zw_goto (tgt := 115) X dX8_holder_111 (by decide) ?_
                    refine zw_istore_2 X dX8_holder_115 ?_
                    refine zw_iinc_3_p1 X dX8_holder_116 ?_
                    refine zw_goto (tgt := 5) X dX8_holder_119 (by decide) ?_
                    refine zw_fg_4 ?_
                    exact ih5 _ _ (by first | (simp only [mhst, mmay, c_19, c_30, c_42, eq_true c_52, c_61, c_76, c_92, c_107, decide_true, decide_false, Bool.and_true, Bool.true_and, Bool.and_false, Bool.false_and, Bool.or_true, Bool.true_or, Bool.or_false, Bool.false_or, Bool.not_true, Bool.not_false, if_true, if_false, ite_true, ite_false, Bool.false_eq_true, not_true_eq_false, not_false_eq_true, bI_t, bI_f, decide_eq_true_eq, reduceCtorEq]; done) | (simp [mhst, mmay, c_19, c_30, c_42, eq_true c_52, c_61, c_76, c_92, c_107]; done) | simp_all) (nI_1 n5)
  · subst hv5_2 hv5_3
    refine zw_iload_3 X dX8_holder_5 ?_
    refine zw_bipush (v := 6) X dX8_holder_6 bk_6 ?_
    refine zw_icmpge_t (tgt := 122) X dX8_holder_8 (by decide) (by decide) ?_
    refine zw_iload_2 X dX8_holder_122 ?_
    exact zw_iret X F dX8_holder_123 rfl (by first | (simp only [mhold, ha5, decide_true, decide_false, Bool.and_true, Bool.true_and, Bool.and_false, Bool.false_and, Bool.or_true, Bool.true_or, Bool.or_false, Bool.false_or, Bool.not_true, Bool.not_false, if_true, if_false, ite_true, ite_false, Bool.false_eq_true, not_true_eq_false, not_false_eq_true, bI_t, bI_f, decide_eq_true_eq, reduceCtorEq]; done) | (simp [mhold, ha5]; done) | simp_all) (rfl)
set_option maxRecDepth 20000 in
set_option maxHeartbeats 1000000 in
theorem t_X8_pass {σ : St}  : Ct MX8_pass [.ref 42] σ (none) (mpas σ) := by
  refine ct_of (ls0 := [some (.ref 42), none, none]) ok_MX8_pass rfl (Nat.le_of_ble_eq_true rfl) rfl ?_
  intro g X F
  refine zw_iconst (v := 0) X dX8_pass_0 ik_0 ?_
  refine zw_istore_1 X dX8_pass_1 ?_
  refine zw_fg_2 ?_
  refine zloop (α := St) (S := fun zn za => ∀ (s2 : St) (v2_1 : Int32), s2 = za → v2_1 = nI zn → ZW g 2 [some (.ref 42), some (.int v2_1), none] [] s2) (N := 3) (f := mpst) (a0 := σ) (fun n2 a2 hn2 ha2 ih2 s2 v2_1 hs2 hv2_1 => ?_) (fun a2 ha2 s2 v2_1 hs2 hv2_1 => ?_) _ _ rfl rfl
  · subst hs2 hv2_1
    refine zw_iload_1 X dX8_pass_2 ?_
    refine zw_iconst (v := 3) X dX8_pass_3 ik_3 ?_
    refine zw_icmpge_f (tgt := 83) X dX8_pass_4 (by decide) (nI_lt hn2 (by decide)) ?_
    refine zw_aload_0 X dX8_pass_7 ?_
    refine zw_iload_1 X dX8_pass_8 ?_
    refine zw_cV_ii X dX8_pass_9 lk_X8_116 ok_MX8_holder vi_MX8_holder rm_X8_pass_X8_holder sh_42 rfl (Nat.le_of_ble_eq_true rfl) t_X8_holder ?_
    refine zw_istore_2 X dX8_pass_12 ?_
    refine zw_iload_2 X dX8_pass_13 ?_
    refine zw_iflt (tgt := 77) X dX8_pass_14 (by decide) (fun c_14 => ?_) (fun c_14 => ?_)
    · refine zw_iinc_1_p1 X dX8_pass_77 ?_
      refine zw_goto (tgt := 2) X dX8_pass_80 (by decide) ?_
      refine zw_fg_2 ?_
      exact ih2 _ _ (by first | (simp only [mpst, mp4, mp3, mp2, mp1, c_14, decide_true, decide_false, Bool.and_true, Bool.true_and, Bool.and_false, Bool.false_and, Bool.or_true, Bool.true_or, Bool.or_false, Bool.false_or, Bool.not_true, Bool.not_false, if_true, if_false, ite_true, ite_false, Bool.false_eq_true, not_true_eq_false, not_false_eq_true, bI_t, bI_f, decide_eq_true_eq, reduceCtorEq]; done) | (simp [mpst, mp4, mp3, mp2, mp1, c_14]; done) | simp_all) (nI_1 n2)
    · refine zw_aload_0 X dX8_pass_17 ?_
      refine zw_getR X dX8_pass_18 fl_X8_38 ck_X8 sh_42 rfl ?_
      refine zw_iload_2 X dX8_pass_21 ?_
      refine zw_dup2_ir X dX8_pass_22 ?_
      refine zw_iald X dX8_pass_23 sh_50 (mhold_in c_14) ?_
      refine zw_aload_0 X dX8_pass_24 ?_
      refine zw_getR X dX8_pass_25 fl_X8_41 ck_X8 sh_42 rfl ?_
      refine zw_iload_2 X dX8_pass_28 ?_
      refine zw_iald X dX8_pass_29 sh_51 (mhold_in c_14) ?_
      refine zw_isub X dX8_pass_30 ?_
      refine zw_iast X dX8_pass_31 sh_50 (mhold_in c_14) ?_
      refine zw_aload_0 X dX8_pass_32 ?_
      refine zw_dup_r X dX8_pass_33 ?_
      refine zw_getI X dX8_pass_34 fl_X8_104 ck_X8 sh_42 rfl ?_
      refine zw_aload_0 X dX8_pass_37 ?_
      refine zw_getR X dX8_pass_38 fl_X8_41 ck_X8 sh_42 rfl ?_
      refine zw_iload_2 X dX8_pass_41 ?_
      refine zw_iald X dX8_pass_42 sh_51 (mhold_in c_14) ?_
      refine zw_iadd X dX8_pass_43 ?_
      refine zw_put X dX8_pass_44 fl_X8_104 ck_X8 ft_8_17 sh_42 rfl ?_
      refine zw_aload_0 X dX8_pass_47 ?_
      refine zw_getR X dX8_pass_48 fl_X8_44 ck_X8 sh_42 rfl ?_
      refine zw_iload_2 X dX8_pass_51 ?_
      refine zw_dup2_ir X dX8_pass_52 ?_
      refine zw_iald X dX8_pass_53 sh_52 (mhold_in c_14) ?_
      refine zw_aload_0 X dX8_pass_54 ?_
      refine zw_getR X dX8_pass_55 fl_X8_41 ck_X8 sh_42 rfl ?_
      refine zw_iload_2 X dX8_pass_58 ?_
      refine zw_iald X dX8_pass_59 sh_51 (mhold_in c_14) ?_
      refine zw_iadd X dX8_pass_60 ?_
      refine zw_iast X dX8_pass_61 sh_52 (mhold_in c_14) ?_
      refine zw_aload_0 X dX8_pass_62 ?_
      refine zw_getR X dX8_pass_63 fl_X8_47 ck_X8 sh_42 rfl ?_
      refine zw_iload_1 X dX8_pass_66 ?_
      refine zw_dup2_ir X dX8_pass_67 ?_
      refine zw_ialdN X dX8_pass_68 sh_53 hn2 (by decide) ?_
      refine zw_aload_0 X dX8_pass_69 ?_
      refine zw_getR X dX8_pass_70 fl_X8_41 ck_X8 sh_42 rfl ?_
      refine zw_iload_2 X dX8_pass_73 ?_
      refine zw_iald X dX8_pass_74 sh_51 (mhold_in c_14) ?_
      refine zw_iadd X dX8_pass_75 ?_
      refine zw_iastN X dX8_pass_76 sh_53 hn2 (by decide) ?_
      refine zw_iinc_1_p1 X dX8_pass_77 ?_
      refine zw_goto (tgt := 2) X dX8_pass_80 (by decide) ?_
      refine zw_fg_2 ?_
      exact ih2 _ _ (by first | (simp only [mpst, mp4, mp3, mp2, mp1, c_14, decide_true, decide_false, Bool.and_true, Bool.true_and, Bool.and_false, Bool.false_and, Bool.or_true, Bool.true_or, Bool.or_false, Bool.false_or, Bool.not_true, Bool.not_false, if_true, if_false, ite_true, ite_false, Bool.false_eq_true, not_true_eq_false, not_false_eq_true, bI_t, bI_f, decide_eq_true_eq, reduceCtorEq]; done) | (simp [mpst, mp4, mp3, mp2, mp1, c_14]; done) | simp_all) (nI_1 n2)
  · subst hs2 hv2_1
    refine zw_iload_1 X dX8_pass_2 ?_
    refine zw_iconst (v := 3) X dX8_pass_3 ik_3 ?_
    refine zw_icmpge_t (tgt := 83) X dX8_pass_4 (by decide) (by decide) ?_
    refine zw_aload_0 X dX8_pass_83 ?_
    refine zw_dup_r X dX8_pass_84 ?_
    refine zw_getI X dX8_pass_85 fl_X8_98 ck_X8 sh_42 rfl ?_
    refine zw_iconst (v := 1) X dX8_pass_88 ik_1 ?_
    refine zw_iadd X dX8_pass_89 ?_
    refine zw_put X dX8_pass_90 fl_X8_98 ck_X8 ft_8_16 sh_42 rfl ?_
    exact zw_vret X F dX8_pass_93 rfl (by rw [mpas, mpas3, ← ha2])
set_option maxRecDepth 20000 in
set_option maxHeartbeats 1000000 in
theorem t_X8_maySpeak {σ : St} {k : Int32} (hk : vp_in k 6) : Ct MX8_maySpeak [.ref 42, .int k] σ (some (.int (bI (mspk σ k)))) (σ) := by
  refine ct_of (ls0 := [some (.ref 42), some (.int k), none]) ok_MX8_maySpeak rfl (Nat.le_of_ble_eq_true rfl) rfl ?_
  intro g X F
  refine zw_aload_0 X dX8_maySpeak_0 ?_
  refine zw_aload_0 X dX8_maySpeak_1 ?_
  refine zw_getR X dX8_maySpeak_2 fl_X8_20 ck_X8 sh_42 rfl ?_
  refine zw_iload_1 X dX8_maySpeak_5 ?_
  refine zw_iald X dX8_maySpeak_6 sh_45 hk ?_
  refine zw_cV_ii X dX8_maySpeak_7 lk_X8_116 ok_MX8_holder vi_MX8_holder rm_X8_maySpeak_X8_holder sh_42 rfl (Nat.le_of_ble_eq_true rfl) t_X8_holder ?_
  refine zw_istore_2 X dX8_maySpeak_10 ?_
  refine zw_aload_0 X dX8_maySpeak_11 ?_
  refine zw_iload_1 X dX8_maySpeak_12 ?_
  refine zw_cV_ii X dX8_maySpeak_13 lk_X8_119 ok_MX8_ridesNow vi_MX8_ridesNow rm_X8_maySpeak_X8_ridesNow sh_42 rfl (Nat.le_of_ble_eq_true rfl) (t_X8_ridesNow hk) ?_
  refine zw_ifeqB (tgt := 32) X dX8_maySpeak_16 (by decide) (fun c_16 => ?_) (fun c_16 => ?_)
  · refine zw_iconst (v := 0) X dX8_maySpeak_32 ik_0 ?_
    exact zw_zret X F dX8_maySpeak_33 rfl (by first | (simp only [mspk, bI_0', bI_1', bI_0, bI_1, bI_inj, c_16, decide_true, decide_false, Bool.and_true, Bool.true_and, Bool.and_false, Bool.false_and, Bool.or_true, Bool.true_or, Bool.or_false, Bool.false_or, Bool.not_true, Bool.not_false, if_true, if_false, ite_true, ite_false, Bool.false_eq_true, not_true_eq_false, not_false_eq_true, bI_t, bI_f, decide_eq_true_eq, reduceCtorEq]; done) | (simp [mspk, bI_0', bI_1', bI_0, bI_1, bI_inj, c_16]; done) | simp_all) (rfl)
  · refine zw_iload_2 X dX8_maySpeak_19 ?_
    refine zw_iflt (tgt := 28) X dX8_maySpeak_20 (by decide) (fun c_20 => ?_) (fun c_20 => ?_)
    · refine zw_iconst (v := 1) X dX8_maySpeak_28 ik_1 ?_
      refine zw_goto (tgt := 33) X dX8_maySpeak_29 (by decide) ?_
      exact zw_zret X F dX8_maySpeak_33 rfl (by first | (simp only [mspk, bI_0', bI_1', bI_0, bI_1, bI_inj, c_16, c_20, decide_true, decide_false, Bool.and_true, Bool.true_and, Bool.and_false, Bool.false_and, Bool.or_true, Bool.true_or, Bool.or_false, Bool.false_or, Bool.not_true, Bool.not_false, if_true, if_false, ite_true, ite_false, Bool.false_eq_true, not_true_eq_false, not_false_eq_true, bI_t, bI_f, decide_eq_true_eq, reduceCtorEq]; done) | (simp [mspk, bI_0', bI_1', bI_0, bI_1, bI_inj, c_16, c_20]; done) | simp_all) (rfl)
    · refine zw_iload_2 X dX8_maySpeak_23 ?_
      refine zw_iload_1 X dX8_maySpeak_24 ?_
      refine zw_icmpne (tgt := 32) X dX8_maySpeak_25 (by decide) (fun c_25 => ?_) (fun c_25 => ?_)
      · refine zw_iconst (v := 0) X dX8_maySpeak_32 ik_0 ?_
        exact zw_zret X F dX8_maySpeak_33 rfl (by first | (simp only [mspk, bI_0', bI_1', bI_0, bI_1, bI_inj, c_16, c_20, c_25, decide_true, decide_false, Bool.and_true, Bool.true_and, Bool.and_false, Bool.false_and, Bool.or_true, Bool.true_or, Bool.or_false, Bool.false_or, Bool.not_true, Bool.not_false, if_true, if_false, ite_true, ite_false, Bool.false_eq_true, not_true_eq_false, not_false_eq_true, bI_t, bI_f, decide_eq_true_eq, reduceCtorEq]; done) | (simp [mspk, bI_0', bI_1', bI_0, bI_1, bI_inj, c_16, c_20, c_25]; done) | simp_all) (rfl)
      · refine zw_iconst (v := 1) X dX8_maySpeak_28 ik_1 ?_
        refine zw_goto (tgt := 33) X dX8_maySpeak_29 (by decide) ?_
        exact zw_zret X F dX8_maySpeak_33 rfl (by first | (simp only [mspk, bI_0', bI_1', bI_0, bI_1, bI_inj, c_16, c_20, eq_true c_25, decide_true, decide_false, Bool.and_true, Bool.true_and, Bool.and_false, Bool.false_and, Bool.or_true, Bool.true_or, Bool.or_false, Bool.false_or, Bool.not_true, Bool.not_false, if_true, if_false, ite_true, ite_false, Bool.false_eq_true, not_true_eq_false, not_false_eq_true, bI_t, bI_f, decide_eq_true_eq, reduceCtorEq]; done) | (simp [mspk, bI_0', bI_1', bI_0, bI_1, bI_inj, c_16, c_20, eq_true c_25]; done) | simp_all) (rfl)
set_option maxRecDepth 20000 in
set_option maxHeartbeats 1000000 in
theorem t_X8_cough {σ : St} {k : Int32} (hk : vp_in k 6) : Ct MX8_cough [.ref 42, .int k] σ (none) (mcou σ k) := by
  refine ct_of (ls0 := [some (.ref 42), some (.int k), none, none]) ok_MX8_cough rfl (Nat.le_of_ble_eq_true rfl) rfl ?_
  intro g X F
  refine zw_aload_0 X dX8_cough_0 ?_
  refine zw_aload_0 X dX8_cough_1 ?_
  refine zw_getR X dX8_cough_2 fl_X8_20 ck_X8 sh_42 rfl ?_
  refine zw_iload_1 X dX8_cough_5 ?_
  refine zw_iald X dX8_cough_6 sh_45 hk ?_
  refine zw_cV_ii X dX8_cough_7 lk_X8_116 ok_MX8_holder vi_MX8_holder rm_X8_cough_X8_holder sh_42 rfl (Nat.le_of_ble_eq_true rfl) t_X8_holder ?_
  refine zw_istore_2 X dX8_cough_10 ?_
  refine zw_iload_2 X dX8_cough_11 ?_
  refine zw_iflt (tgt := 77) X dX8_cough_12 (by decide) (fun c_12 => ?_) (fun c_12 => ?_)
  · exact zw_vret X F dX8_cough_77 rfl (by first | (simp only [mcou, mc3, mc2, mc1, mcv, c_12, decide_true, decide_false, Bool.and_true, Bool.true_and, Bool.and_false, Bool.false_and, Bool.or_true, Bool.true_or, Bool.or_false, Bool.false_or, Bool.not_true, Bool.not_false, if_true, if_false, ite_true, ite_false, Bool.false_eq_true, not_true_eq_false, not_false_eq_true, bI_t, bI_f, decide_eq_true_eq, reduceCtorEq]; done) | (simp [mcou, mc3, mc2, mc1, mcv, c_12]; done) | simp_all)
  · refine zw_iload_2 X dX8_cough_15 ?_
    refine zw_iload_1 X dX8_cough_16 ?_
    refine zw_icmpeq (tgt := 77) X dX8_cough_17 (by decide) (fun c_17 => ?_) (fun c_17 => ?_)
    · exact zw_vret X F dX8_cough_77 rfl (by first | (simp only [mcou, mc3, mc2, mc1, mcv, c_12, eq_true c_17, decide_true, decide_false, Bool.and_true, Bool.true_and, Bool.and_false, Bool.false_and, Bool.or_true, Bool.true_or, Bool.or_false, Bool.false_or, Bool.not_true, Bool.not_false, if_true, if_false, ite_true, ite_false, Bool.false_eq_true, not_true_eq_false, not_false_eq_true, bI_t, bI_f, decide_eq_true_eq, reduceCtorEq]; done) | (simp [mcou, mc3, mc2, mc1, mcv, c_12, eq_true c_17]; done) | simp_all)
    · refine zw_aload_0 X dX8_cough_20 ?_
      refine zw_getI X dX8_cough_21 fl_X8_29 ck_X8 sh_42 rfl ?_
      refine zw_aload_0 X dX8_cough_24 ?_
      refine zw_getR X dX8_cough_25 fl_X8_38 ck_X8 sh_42 rfl ?_
      refine zw_iload_2 X dX8_cough_28 ?_
      refine zw_iald X dX8_cough_29 sh_50 (mhold_in c_12) ?_
      refine zw_icmpge (tgt := 40) X dX8_cough_30 (by decide) (fun c_30 => ?_) (fun c_30 => ?_)
      · refine zw_aload_0 X dX8_cough_40 ?_
        refine zw_getR X dX8_cough_41 fl_X8_38 ck_X8 sh_42 rfl ?_
        refine zw_iload_2 X dX8_cough_44 ?_
        refine zw_iald X dX8_cough_45 sh_50 (mhold_in c_12) ?_
        refine zw_istore_3 X dX8_cough_46 ?_
        refine zw_aload_0 X dX8_cough_47 ?_
        refine zw_getR X dX8_cough_48 fl_X8_38 ck_X8 sh_42 rfl ?_
        refine zw_iload_2 X dX8_cough_51 ?_
        refine zw_dup2_ir X dX8_cough_52 ?_
        refine zw_iald X dX8_cough_53 sh_50 (mhold_in c_12) ?_
        refine zw_iload_3 X dX8_cough_54 ?_
        refine zw_isub X dX8_cough_55 ?_
        refine zw_iast X dX8_cough_56 sh_50 (mhold_in c_12) ?_
        refine zw_aload_0 X dX8_cough_57 ?_
        refine zw_dup_r X dX8_cough_58 ?_
        refine zw_getI X dX8_cough_59 fl_X8_104 ck_X8 sh_42 rfl ?_
        refine zw_iload_3 X dX8_cough_62 ?_
        refine zw_iadd X dX8_cough_63 ?_
        refine zw_put X dX8_cough_64 fl_X8_104 ck_X8 ft_8_17 sh_42 rfl ?_
        refine zw_aload_0 X dX8_cough_67 ?_
        refine zw_dup_r X dX8_cough_68 ?_
        refine zw_getI X dX8_cough_69 fl_X8_107 ck_X8 sh_42 rfl ?_
        refine zw_iload_3 X dX8_cough_72 ?_
        refine zw_iadd X dX8_cough_73 ?_
        refine zw_put X dX8_cough_74 fl_X8_107 ck_X8 ft_8_18 sh_42 rfl ?_
        exact zw_vret X F dX8_cough_77 rfl (by first | (simp only [mcou, mc3, mc2, mc1, mcv, c_12, c_17, c_30, decide_true, decide_false, Bool.and_true, Bool.true_and, Bool.and_false, Bool.false_and, Bool.or_true, Bool.true_or, Bool.or_false, Bool.false_or, Bool.not_true, Bool.not_false, if_true, if_false, ite_true, ite_false, Bool.false_eq_true, not_true_eq_false, not_false_eq_true, bI_t, bI_f, decide_eq_true_eq, reduceCtorEq]; done) | (simp [mcou, mc3, mc2, mc1, mcv, c_12, c_17, c_30]; done) | simp_all)
      · refine zw_aload_0 X dX8_cough_33 ?_
        refine zw_getI X dX8_cough_34 fl_X8_29 ck_X8 sh_42 rfl ?_
        refine zw_goto (tgt := 46) X dX8_cough_37 (by decide) ?_
        refine zw_istore_3 X dX8_cough_46 ?_
        refine zw_aload_0 X dX8_cough_47 ?_
        refine zw_getR X dX8_cough_48 fl_X8_38 ck_X8 sh_42 rfl ?_
        refine zw_iload_2 X dX8_cough_51 ?_
        refine zw_dup2_ir X dX8_cough_52 ?_
        refine zw_iald X dX8_cough_53 sh_50 (mhold_in c_12) ?_
        refine zw_iload_3 X dX8_cough_54 ?_
        refine zw_isub X dX8_cough_55 ?_
        refine zw_iast X dX8_cough_56 sh_50 (mhold_in c_12) ?_
        refine zw_aload_0 X dX8_cough_57 ?_
        refine zw_dup_r X dX8_cough_58 ?_
        refine zw_getI X dX8_cough_59 fl_X8_104 ck_X8 sh_42 rfl ?_
        refine zw_iload_3 X dX8_cough_62 ?_
        refine zw_iadd X dX8_cough_63 ?_
        refine zw_put X dX8_cough_64 fl_X8_104 ck_X8 ft_8_17 sh_42 rfl ?_
        refine zw_aload_0 X dX8_cough_67 ?_
        refine zw_dup_r X dX8_cough_68 ?_
        refine zw_getI X dX8_cough_69 fl_X8_107 ck_X8 sh_42 rfl ?_
        refine zw_iload_3 X dX8_cough_72 ?_
        refine zw_iadd X dX8_cough_73 ?_
        refine zw_put X dX8_cough_74 fl_X8_107 ck_X8 ft_8_18 sh_42 rfl ?_
        exact zw_vret X F dX8_cough_77 rfl (by first | (simp only [mcou, mc3, mc2, mc1, mcv, c_12, c_17, c_30, decide_true, decide_false, Bool.and_true, Bool.true_and, Bool.and_false, Bool.false_and, Bool.or_true, Bool.true_or, Bool.or_false, Bool.false_or, Bool.not_true, Bool.not_false, if_true, if_false, ite_true, ite_false, Bool.false_eq_true, not_true_eq_false, not_false_eq_true, bI_t, bI_f, decide_eq_true_eq, reduceCtorEq]; done) | (simp [mcou, mc3, mc2, mc1, mcv, c_12, c_17, c_30]; done) | simp_all)
set_option maxRecDepth 20000 in
set_option maxHeartbeats 1000000 in
theorem t_X8_whyNot {σ : St} {k h : Int32} (hk : vp_in k 6) : Ct MX8_whyNot [.ref 42, .int k, .int h] σ (some (.int (mwhy σ k h))) (σ) := by
  refine ct_of (ls0 := [some (.ref 42), some (.int k), some (.int h)]) ok_MX8_whyNot rfl (Nat.le_of_ble_eq_true rfl) rfl ?_
  intro g X F
  refine zw_aload_0 X dX8_whyNot_0 ?_
  refine zw_iload_1 X dX8_whyNot_1 ?_
  refine zw_cV_ii X dX8_whyNot_2 lk_X8_119 ok_MX8_ridesNow vi_MX8_ridesNow rm_X8_whyNot_X8_ridesNow sh_42 rfl (Nat.le_of_ble_eq_true rfl) (t_X8_ridesNow hk) ?_
  refine zw_ifneB (tgt := 12) X dX8_whyNot_5 (by decide) (fun c_5 => ?_) (fun c_5 => ?_)
  · refine zw_iload_2 X dX8_whyNot_12 ?_
    refine zw_bipush (v := 115) X dX8_whyNot_13 bk_115 ?_
    refine zw_icmpne (tgt := 30) X dX8_whyNot_15 (by decide) (fun c_15 => ?_) (fun c_15 => ?_)
    · refine zw_iconst (v := 0) X dX8_whyNot_30 ik_0 ?_
      exact zw_iret X F dX8_whyNot_31 rfl (by first | (simp only [mwhy, c_5, c_15, decide_true, decide_false, Bool.and_true, Bool.true_and, Bool.and_false, Bool.false_and, Bool.or_true, Bool.true_or, Bool.or_false, Bool.false_or, Bool.not_true, Bool.not_false, if_true, if_false, ite_true, ite_false, Bool.false_eq_true, not_true_eq_false, not_false_eq_true, bI_t, bI_f, decide_eq_true_eq, reduceCtorEq]; done) | (simp [mwhy, c_5, c_15]; done) | simp_all) (rfl)
    · refine zw_aload_0 X dX8_whyNot_18 ?_
      refine zw_iload_1 X dX8_whyNot_19 ?_
      refine zw_cV_ii X dX8_whyNot_20 lk_X8_122 ok_MX8_maySpeak vi_MX8_maySpeak rm_X8_whyNot_X8_maySpeak sh_42 rfl (Nat.le_of_ble_eq_true rfl) (t_X8_maySpeak hk) ?_
      refine zw_ifneB (tgt := 30) X dX8_whyNot_23 (by decide) (fun c_23 => ?_) (fun c_23 => ?_)
      · refine zw_iconst (v := 0) X dX8_whyNot_30 ik_0 ?_
        exact zw_iret X F dX8_whyNot_31 rfl (by first | (simp only [mwhy, c_5, eq_true c_15, c_23, decide_true, decide_false, Bool.and_true, Bool.true_and, Bool.and_false, Bool.false_and, Bool.or_true, Bool.true_or, Bool.or_false, Bool.false_or, Bool.not_true, Bool.not_false, if_true, if_false, ite_true, ite_false, Bool.false_eq_true, not_true_eq_false, not_false_eq_true, bI_t, bI_f, decide_eq_true_eq, reduceCtorEq]; done) | (simp [mwhy, c_5, eq_true c_15, c_23]; done) | simp_all) (rfl)
      · refine zw_iconst (v := 2) X dX8_whyNot_26 ik_2 ?_
        refine zw_goto (tgt := 31) X dX8_whyNot_27 (by decide) ?_
        exact zw_iret X F dX8_whyNot_31 rfl (by first | (simp only [mwhy, c_5, eq_true c_15, c_23, decide_true, decide_false, Bool.and_true, Bool.true_and, Bool.and_false, Bool.false_and, Bool.or_true, Bool.true_or, Bool.or_false, Bool.false_or, Bool.not_true, Bool.not_false, if_true, if_false, ite_true, ite_false, Bool.false_eq_true, not_true_eq_false, not_false_eq_true, bI_t, bI_f, decide_eq_true_eq, reduceCtorEq]; done) | (simp [mwhy, c_5, eq_true c_15, c_23]; done) | simp_all) (rfl)
  · refine zw_iconst (v := 1) X dX8_whyNot_8 ik_1 ?_
    refine zw_goto (tgt := 31) X dX8_whyNot_9 (by decide) ?_
    exact zw_iret X F dX8_whyNot_31 rfl (by first | (simp only [mwhy, c_5, decide_true, decide_false, Bool.and_true, Bool.true_and, Bool.and_false, Bool.false_and, Bool.or_true, Bool.true_or, Bool.or_false, Bool.false_or, Bool.not_true, Bool.not_false, if_true, if_false, ite_true, ite_false, Bool.false_eq_true, not_true_eq_false, not_false_eq_true, bI_t, bI_f, decide_eq_true_eq, reduceCtorEq]; done) | (simp [mwhy, c_5]; done) | simp_all) (rfl)
set_option maxRecDepth 20000 in
set_option maxHeartbeats 1000000 in
theorem t_X8_asNow {σ : St}  : Ct MX8_asNow [.ref 42] σ (none) (mNow σ) := by
  refine ct_of (ls0 := [some (.ref 42), none]) ok_MX8_asNow rfl (Nat.le_of_ble_eq_true rfl) rfl ?_
  intro g X F
  refine zw_iconst (v := 0) X dX8_asNow_0 ik_0 ?_
  refine zw_istore_1 X dX8_asNow_1 ?_
  refine zloop (α := St) (S := fun zn za => ∀ (s2 : St) (v2_1 : Int32), s2 = za → v2_1 = nI zn → ZW g 2 [some (.ref 42), some (.int v2_1)] [] s2) (N := 6) (f := man) (a0 := σ) (fun n2 a2 hn2 ha2 ih2 s2 v2_1 hs2 hv2_1 => ?_) (fun a2 ha2 s2 v2_1 hs2 hv2_1 => ?_) _ _ rfl rfl
  · subst hs2 hv2_1
    refine zw_iload_1 X dX8_asNow_2 ?_
    refine zw_bipush (v := 6) X dX8_asNow_3 bk_6 ?_
    refine zw_icmpge_f (tgt := 45) X dX8_asNow_5 (by decide) (nI_lt hn2 (by decide)) ?_
    refine zw_aload_0 X dX8_asNow_8 ?_
    refine zw_getR X dX8_asNow_9 fl_X8_38 ck_X8 sh_42 rfl ?_
    refine zw_iload_1 X dX8_asNow_12 ?_
    refine zw_aload_0 X dX8_asNow_13 ?_
    refine zw_getR X dX8_asNow_14 fl_X8_23 ck_X8 sh_42 rfl ?_
    refine zw_iload_1 X dX8_asNow_17 ?_
    refine zw_ialdN X dX8_asNow_18 sh_46 hn2 (by decide) ?_
    refine zw_iastN X dX8_asNow_19 sh_50 hn2 (by decide) ?_
    refine zw_aload_0 X dX8_asNow_20 ?_
    refine zw_getR X dX8_asNow_21 fl_X8_41 ck_X8 sh_42 rfl ?_
    refine zw_iload_1 X dX8_asNow_24 ?_
    refine zw_aload_0 X dX8_asNow_25 ?_
    refine zw_getR X dX8_asNow_26 fl_X8_26 ck_X8 sh_42 rfl ?_
    refine zw_iload_1 X dX8_asNow_29 ?_
    refine zw_ialdN X dX8_asNow_30 sh_47 hn2 (by decide) ?_
    refine zw_iastN X dX8_asNow_31 sh_51 hn2 (by decide) ?_
    refine zw_aload_0 X dX8_asNow_32 ?_
    refine zw_getR X dX8_asNow_33 fl_X8_44 ck_X8 sh_42 rfl ?_
    refine zw_iload_1 X dX8_asNow_36 ?_
    refine zw_iconst (v := 0) X dX8_asNow_37 ik_0 ?_
    refine zw_iastN X dX8_asNow_38 sh_52 hn2 (by decide) ?_
    refine zw_iinc_1_p1 X dX8_asNow_39 ?_
    refine zw_goto (tgt := 2) X dX8_asNow_42 (by decide) ?_
    exact ih2 _ _ (by first | (simp only [man, cpA, decide_true, decide_false, Bool.and_true, Bool.true_and, Bool.and_false, Bool.false_and, Bool.or_true, Bool.true_or, Bool.or_false, Bool.false_or, Bool.not_true, Bool.not_false, if_true, if_false, ite_true, ite_false, Bool.false_eq_true, not_true_eq_false, not_false_eq_true, bI_t, bI_f, decide_eq_true_eq, reduceCtorEq]; done) | (simp [man, cpA]; done) | simp_all) (nI_1 n2)
  · subst hs2 hv2_1
    refine zw_iload_1 X dX8_asNow_2 ?_
    refine zw_bipush (v := 6) X dX8_asNow_3 bk_6 ?_
    refine zw_icmpge_t (tgt := 45) X dX8_asNow_5 (by decide) (by decide) ?_
    refine zw_iconst (v := 0) X dX8_asNow_45 ik_0 ?_
    refine zw_istore_1 X dX8_asNow_46 ?_
    refine zloop (α := St) (S := fun zn za => ∀ (s47 : St) (v47_1 : Int32), s47 = za → v47_1 = nI zn → ZW g 47 [some (.ref 42), some (.int v47_1)] [] s47) (N := 3) (f := mnp) (a0 := (itr man 6 σ)) (fun n47 a47 hn47 ha47 ih47 s47 v47_1 hs47 hv47_1 => ?_) (fun a47 ha47 s47 v47_1 hs47 hv47_1 => ?_) _ _ ha2 rfl
    · subst hs47 hv47_1
      refine zw_iload_1 X dX8_asNow_47 ?_
      refine zw_iconst (v := 3) X dX8_asNow_48 ik_3 ?_
      refine zw_icmpge_f (tgt := 65) X dX8_asNow_49 (by decide) (nI_lt hn47 (by decide)) ?_
      refine zw_aload_0 X dX8_asNow_52 ?_
      refine zw_getR X dX8_asNow_53 fl_X8_47 ck_X8 sh_42 rfl ?_
      refine zw_iload_1 X dX8_asNow_56 ?_
      refine zw_iconst (v := 0) X dX8_asNow_57 ik_0 ?_
      refine zw_iastN X dX8_asNow_58 sh_53 hn47 (by decide) ?_
      refine zw_iinc_1_p1 X dX8_asNow_59 ?_
      refine zw_goto (tgt := 47) X dX8_asNow_62 (by decide) ?_
      exact ih47 _ _ (by first | (simp only [mnp, decide_true, decide_false, Bool.and_true, Bool.true_and, Bool.and_false, Bool.false_and, Bool.or_true, Bool.true_or, Bool.or_false, Bool.false_or, Bool.not_true, Bool.not_false, if_true, if_false, ite_true, ite_false, Bool.false_eq_true, not_true_eq_false, not_false_eq_true, bI_t, bI_f, decide_eq_true_eq, reduceCtorEq]; done) | (simp [mnp]; done) | simp_all) (nI_1 n47)
    · subst hs47 hv47_1
      refine zw_iload_1 X dX8_asNow_47 ?_
      refine zw_iconst (v := 3) X dX8_asNow_48 ik_3 ?_
      refine zw_icmpge_t (tgt := 65) X dX8_asNow_49 (by decide) (by decide) ?_
      refine zw_aload_0 X dX8_asNow_65 ?_
      refine zw_aload_0 X dX8_asNow_66 ?_
      refine zw_getI X dX8_asNow_67 fl_X8_64 ck_X8 sh_42 rfl ?_
      refine zw_put X dX8_asNow_70 fl_X8_98 ck_X8 ft_8_16 sh_42 rfl ?_
      refine zw_aload_0 X dX8_asNow_73 ?_
      refine zw_aload_0 X dX8_asNow_74 ?_
      refine zw_getI X dX8_asNow_75 fl_X8_101 ck_X8 sh_42 rfl ?_
      refine zw_put X dX8_asNow_78 fl_X8_104 ck_X8 ft_8_17 sh_42 rfl ?_
      refine zw_aload_0 X dX8_asNow_81 ?_
      refine zw_iconst (v := 0) X dX8_asNow_82 ik_0 ?_
      refine zw_put X dX8_asNow_83 fl_X8_107 ck_X8 ft_8_18 sh_42 rfl ?_
      exact zw_vret X F dX8_asNow_86 rfl (by rw [mNow, mn3, mn2, mn1, ← ha47])
set_option maxRecDepth 20000 in
set_option maxHeartbeats 1000000 in
theorem t_X8_line {σ : St} {a : Int32} : Ct MX8_line [.ref 42, .int a] σ (some (.int (Y_line σ a).1)) ((Y_line σ a).2) := by
  refine ct_of (ls0 := [some (.ref 42), some (.int a), none]) ok_MX8_line rfl (Nat.le_of_ble_eq_true rfl) rfl ?_
  intro g X F
  refine zw_iload_1 X dX8_line_0 ?_
  refine zw_iconst (v := 1) X dX8_line_1 ik_1 ?_
  refine zw_bipush (v := 30) X dX8_line_2 bk_30 ?_
  refine zw_cS_iiii X dX8_line_4 lk_X8_60 ok_MX8_in st_MX8_in rm_X8_line_X8_in (Nat.le_of_ble_eq_true rfl) t_X8_in ?_
  refine zw_ifneB (tgt := 13) X dX8_line_7 (by decide) (fun c_7 => ?_) (fun c_7 => ?_)
  · refine zw_aload_0 X dX8_line_13 ?_
    refine zw_getI X dX8_line_14 fl_X8_7 ck_X8 sh_42 rfl ?_
    refine zw_istore_2 X dX8_line_17 ?_
    refine zw_aload_0 X dX8_line_18 ?_
    refine zw_iload_1 X dX8_line_19 ?_
    refine zw_put X dX8_line_20 fl_X8_7 ck_X8 ft_8_0 sh_42 rfl ?_
    refine zw_aload_0 X dX8_line_23 ?_
    refine zw_iconst (v := 0) X dX8_line_24 ik_0 ?_
    refine zw_put X dX8_line_25 fl_X8_64 ck_X8 ft_8_8 sh_42 rfl ?_
    refine zw_iload_2 X dX8_line_28 ?_
    exact zw_iret X F dX8_line_29 rfl (by first | (simp only [Y_line, c_7, decide_true, decide_false, Bool.and_true, Bool.true_and, Bool.and_false, Bool.false_and, Bool.or_true, Bool.true_or, Bool.or_false, Bool.false_or, Bool.not_true, Bool.not_false, if_true, if_false, ite_true, ite_false, Bool.false_eq_true, not_true_eq_false, not_false_eq_true, bI_t, bI_f, decide_eq_true_eq, reduceCtorEq]; done) | (simp [Y_line, c_7]; done) | simp_all) (by first | (simp only [Y_line, c_7, decide_true, decide_false, Bool.and_true, Bool.true_and, Bool.and_false, Bool.false_and, Bool.or_true, Bool.true_or, Bool.or_false, Bool.false_or, Bool.not_true, Bool.not_false, if_true, if_false, ite_true, ite_false, Bool.false_eq_true, not_true_eq_false, not_false_eq_true, bI_t, bI_f, decide_eq_true_eq, reduceCtorEq]; done) | (simp [Y_line, c_7]; done) | simp_all)
  · refine zw_bipush (v := -2) X dX8_line_10 bk_m2 ?_
    exact zw_iret X F dX8_line_12 rfl (by first | (simp only [Y_line, c_7, decide_true, decide_false, Bool.and_true, Bool.true_and, Bool.and_false, Bool.false_and, Bool.or_true, Bool.true_or, Bool.or_false, Bool.false_or, Bool.not_true, Bool.not_false, if_true, if_false, ite_true, ite_false, Bool.false_eq_true, not_true_eq_false, not_false_eq_true, bI_t, bI_f, decide_eq_true_eq, reduceCtorEq]; done) | (simp [Y_line, c_7]; done) | simp_all) (by first | (simp only [Y_line, c_7, decide_true, decide_false, Bool.and_true, Bool.true_and, Bool.and_false, Bool.false_and, Bool.or_true, Bool.true_or, Bool.or_false, Bool.false_or, Bool.not_true, Bool.not_false, if_true, if_false, ite_true, ite_false, Bool.false_eq_true, not_true_eq_false, not_false_eq_true, bI_t, bI_f, decide_eq_true_eq, reduceCtorEq]; done) | (simp [Y_line, c_7]; done) | simp_all)
set_option maxRecDepth 20000 in
set_option maxHeartbeats 1000000 in
theorem t_X8_tunnel {σ : St} {m b : Int32} : Ct MX8_tunnel [.ref 42, .int m, .int b] σ (some (.int (Y_tun σ m b).1)) ((Y_tun σ m b).2) := by
  refine ct_of (ls0 := [some (.ref 42), some (.int m), some (.int b)]) ok_MX8_tunnel rfl (Nat.le_of_ble_eq_true rfl) rfl ?_
  intro g X F
  refine zw_iload_1 X dX8_tunnel_0 ?_
  refine zw_iconst (v := 0) X dX8_tunnel_1 ik_0 ?_
  refine zw_bipush (v := 29) X dX8_tunnel_2 bk_29 ?_
  refine zw_cS_iiii X dX8_tunnel_4 lk_X8_60 ok_MX8_in st_MX8_in rm_X8_tunnel_X8_in (Nat.le_of_ble_eq_true rfl) t_X8_in ?_
  refine zw_ifneB (tgt := 13) X dX8_tunnel_7 (by decide) (fun c_7 => ?_) (fun c_7 => ?_)
  · refine zw_aload_0 X dX8_tunnel_13 ?_
    refine zw_dup_r X dX8_tunnel_14 ?_
    refine zw_getI X dX8_tunnel_15 fl_X8_67 ck_X8 sh_42 rfl ?_
    refine zw_iconst (v := 1) X dX8_tunnel_18 ik_1 ?_
    refine zw_iload_1 X dX8_tunnel_19 ?_
    refine zw_ishl X dX8_tunnel_20 ?_
    refine zw_iconst (v := -1) X dX8_tunnel_21 ik_m1 ?_
    refine zw_ixor X dX8_tunnel_22 ?_
    refine zw_iand X dX8_tunnel_23 ?_
    refine zw_put X dX8_tunnel_24 fl_X8_67 ck_X8 ft_8_1 sh_42 rfl ?_
    refine zw_aload_0 X dX8_tunnel_27 ?_
    refine zw_dup_r X dX8_tunnel_28 ?_
    refine zw_getI X dX8_tunnel_29 fl_X8_67 ck_X8 sh_42 rfl ?_
    refine zw_iload_2 X dX8_tunnel_32 ?_
    refine zw_ifeq (tgt := 42) X dX8_tunnel_33 (by decide) (fun c_33 => ?_) (fun c_33 => ?_)
    · refine zw_iconst (v := 0) X dX8_tunnel_42 ik_0 ?_
      refine zw_ior X dX8_tunnel_43 ?_
      refine zw_put X dX8_tunnel_44 fl_X8_67 ck_X8 ft_8_1 sh_42 rfl ?_
      refine zw_aload_0 X dX8_tunnel_47 ?_
      refine zw_getI X dX8_tunnel_48 fl_X8_67 ck_X8 sh_42 rfl ?_
      refine zw_iconst (v := 1) X dX8_tunnel_51 ik_1 ?_
      refine zw_aload_0 X dX8_tunnel_52 ?_
      refine zw_getI X dX8_tunnel_53 fl_X8_7 ck_X8 sh_42 rfl ?_
      refine zw_ishl X dX8_tunnel_56 ?_
      refine zw_iconst (v := 1) X dX8_tunnel_57 ik_1 ?_
      refine zw_isub X dX8_tunnel_58 ?_
      refine zw_iand X dX8_tunnel_59 ?_
      refine zw_cS_ii X dX8_tunnel_60 lk_X8_70 ok_MX8_bits st_MX8_bits rm_X8_tunnel_X8_bits (Nat.le_of_ble_eq_true rfl) t_X8_bits ?_
      exact zw_iret X F dX8_tunnel_63 rfl (by first | (simp only [Y_tun2, Y_tun1, Y_tun, c_7, eq_true c_33, decide_true, decide_false, Bool.and_true, Bool.true_and, Bool.and_false, Bool.false_and, Bool.or_true, Bool.true_or, Bool.or_false, Bool.false_or, Bool.not_true, Bool.not_false, if_true, if_false, ite_true, ite_false, Bool.false_eq_true, not_true_eq_false, not_false_eq_true, bI_t, bI_f, decide_eq_true_eq, reduceCtorEq]; done) | (simp [Y_tun2, Y_tun1, Y_tun, c_7, eq_true c_33]; done) | simp_all) (by first | (simp only [Y_tun2, Y_tun1, Y_tun, c_7, eq_true c_33, decide_true, decide_false, Bool.and_true, Bool.true_and, Bool.and_false, Bool.false_and, Bool.or_true, Bool.true_or, Bool.or_false, Bool.false_or, Bool.not_true, Bool.not_false, if_true, if_false, ite_true, ite_false, Bool.false_eq_true, not_true_eq_false, not_false_eq_true, bI_t, bI_f, decide_eq_true_eq, reduceCtorEq]; done) | (simp [Y_tun2, Y_tun1, Y_tun, c_7, eq_true c_33]; done) | simp_all)
    · refine zw_iconst (v := 1) X dX8_tunnel_36 ik_1 ?_
      refine zw_iload_1 X dX8_tunnel_37 ?_
      refine zw_ishl X dX8_tunnel_38 ?_
      refine zw_goto (tgt := 43) X dX8_tunnel_39 (by decide) ?_
      refine zw_ior X dX8_tunnel_43 ?_
      refine zw_put X dX8_tunnel_44 fl_X8_67 ck_X8 ft_8_1 sh_42 rfl ?_
      refine zw_aload_0 X dX8_tunnel_47 ?_
      refine zw_getI X dX8_tunnel_48 fl_X8_67 ck_X8 sh_42 rfl ?_
      refine zw_iconst (v := 1) X dX8_tunnel_51 ik_1 ?_
      refine zw_aload_0 X dX8_tunnel_52 ?_
      refine zw_getI X dX8_tunnel_53 fl_X8_7 ck_X8 sh_42 rfl ?_
      refine zw_ishl X dX8_tunnel_56 ?_
      refine zw_iconst (v := 1) X dX8_tunnel_57 ik_1 ?_
      refine zw_isub X dX8_tunnel_58 ?_
      refine zw_iand X dX8_tunnel_59 ?_
      refine zw_cS_ii X dX8_tunnel_60 lk_X8_70 ok_MX8_bits st_MX8_bits rm_X8_tunnel_X8_bits (Nat.le_of_ble_eq_true rfl) t_X8_bits ?_
      exact zw_iret X F dX8_tunnel_63 rfl (by first | (simp only [Y_tun2, Y_tun1, Y_tun, c_7, c_33, decide_true, decide_false, Bool.and_true, Bool.true_and, Bool.and_false, Bool.false_and, Bool.or_true, Bool.true_or, Bool.or_false, Bool.false_or, Bool.not_true, Bool.not_false, if_true, if_false, ite_true, ite_false, Bool.false_eq_true, not_true_eq_false, not_false_eq_true, bI_t, bI_f, decide_eq_true_eq, reduceCtorEq]; done) | (simp [Y_tun2, Y_tun1, Y_tun, c_7, c_33]; done) | simp_all) (by first | (simp only [Y_tun2, Y_tun1, Y_tun, c_7, c_33, decide_true, decide_false, Bool.and_true, Bool.true_and, Bool.and_false, Bool.false_and, Bool.or_true, Bool.true_or, Bool.or_false, Bool.false_or, Bool.not_true, Bool.not_false, if_true, if_false, ite_true, ite_false, Bool.false_eq_true, not_true_eq_false, not_false_eq_true, bI_t, bI_f, decide_eq_true_eq, reduceCtorEq]; done) | (simp [Y_tun2, Y_tun1, Y_tun, c_7, c_33]; done) | simp_all)
  · refine zw_bipush (v := -2) X dX8_tunnel_10 bk_m2 ?_
    exact zw_iret X F dX8_tunnel_12 rfl (by first | (simp only [Y_tun2, Y_tun1, Y_tun, c_7, decide_true, decide_false, Bool.and_true, Bool.true_and, Bool.and_false, Bool.false_and, Bool.or_true, Bool.true_or, Bool.or_false, Bool.false_or, Bool.not_true, Bool.not_false, if_true, if_false, ite_true, ite_false, Bool.false_eq_true, not_true_eq_false, not_false_eq_true, bI_t, bI_f, decide_eq_true_eq, reduceCtorEq]; done) | (simp [Y_tun2, Y_tun1, Y_tun, c_7]; done) | simp_all) (by first | (simp only [Y_tun2, Y_tun1, Y_tun, c_7, decide_true, decide_false, Bool.and_true, Bool.true_and, Bool.and_false, Bool.false_and, Bool.or_true, Bool.true_or, Bool.or_false, Bool.false_or, Bool.not_true, Bool.not_false, if_true, if_false, ite_true, ite_false, Bool.false_eq_true, not_true_eq_false, not_false_eq_true, bI_t, bI_f, decide_eq_true_eq, reduceCtorEq]; done) | (simp [Y_tun2, Y_tun1, Y_tun, c_7]; done) | simp_all)
set_option maxRecDepth 20000 in
set_option maxHeartbeats 1000000 in
theorem t_X8_ride {σ : St} {t a b : Int32} : Ct MX8_ride [.ref 42, .int t, .int a, .int b] σ (some (.int (Y_ride σ t a b).1)) ((Y_ride σ t a b).2) := by
  refine ct_of (ls0 := [some (.ref 42), some (.int t), some (.int a), some (.int b), none, none, none]) ok_MX8_ride rfl (Nat.le_of_ble_eq_true rfl) rfl ?_
  intro g X F
  refine zw_iload_1 X dX8_ride_0 ?_
  refine zw_cS_ii X dX8_ride_1 lk_X8_74 ok_MX8_isOne st_MX8_isOne rm_X8_ride_X8_isOne (Nat.le_of_ble_eq_true rfl) t_X8_isOne ?_
  refine zw_ifneB (tgt := 9) X dX8_ride_4 (by decide) (fun c_4 => ?_) (fun c_4 => ?_)
  · refine zw_iload_2 X dX8_ride_9 ?_
    refine zw_iconst (v := -1) X dX8_ride_10 ik_m1 ?_
    refine zw_icmpeq (tgt := 34) X dX8_ride_11 (by decide) (fun c_11 => ?_) (fun c_11 => ?_)
    · refine zw_iconst (v := 1) X dX8_ride_34 ik_1 ?_
      refine zw_goto (tgt := 39) X dX8_ride_35 (by decide) ?_
      refine zw_istore_4 X dX8_ride_39 ?_
      refine zw_iload_4 X dX8_ride_41 ?_
      refine zw_ifne_t (tgt := 49) X dX8_ride_43 (by decide) (by decide) ?_
      refine zw_aload_0 X dX8_ride_49 ?_
      refine zw_getR X dX8_ride_50 fl_X8_13 ck_X8 sh_42 rfl ?_
      refine zw_iload_1 X dX8_ride_53 ?_
      refine zw_iload_2 X dX8_ride_54 ?_
      refine zw_ifge (tgt := 63) X dX8_ride_55 (by decide) (fun c_55 => ?_) (fun c_55 => ?_)
      · refine zw_iload_2 X dX8_ride_63 ?_
        refine zw_iast X dX8_ride_64 sh_43 (in6_of c_4) ?_
        refine zw_aload_0 X dX8_ride_65 ?_
        refine zw_getR X dX8_ride_66 fl_X8_17 ck_X8 sh_42 rfl ?_
        refine zw_iload_1 X dX8_ride_69 ?_
        refine zw_iload_2 X dX8_ride_70 ?_
        refine zw_ifge (tgt := 79) X dX8_ride_71 (by decide) (fun c_71 => ?_) (fun c_71 => ?_)
        · refine zw_iload_3 X dX8_ride_79 ?_
          refine zw_iast X dX8_ride_80 sh_44 (in6_of c_4) ?_
          refine zw_wld (σ' := Y_rdS σ t a b) (by first | (simp only [Y_rdS, c_4, eq_true c_11, c_55, c_71, decide_true, decide_false, Bool.and_true, Bool.true_and, Bool.and_false, Bool.false_and, Bool.or_true, Bool.true_or, Bool.or_false, Bool.false_or, Bool.not_true, Bool.not_false, if_true, if_false, ite_true, ite_false, Bool.false_eq_true, not_true_eq_false, not_false_eq_true, bI_t, bI_f, decide_eq_true_eq, reduceCtorEq]; done) | (simp [Y_rdS, c_4, eq_true c_11, c_55, c_71]; done) | simp_all) ?_
          refine zw_iconst (v := 0) X dX8_ride_81 ik_0 ?_
          refine zw_istore_5 X dX8_ride_82 ?_
          refine zw_iconst (v := 0) X dX8_ride_84 ik_0 ?_
          refine zw_istore_6 X dX8_ride_85 ?_
          refine zloop (α := Int32) (S := fun zn za => ∀ (v87_5 : Int32) (v87_6 : Int32), v87_5 = za → v87_6 = nI zn → ZW g 87 [some (.ref 42), some (.int t), some (.int a), some (.int b), some (.int 1), some (.int v87_5), some (.int v87_6)] [] (Y_rdS σ t a b)) (N := (clN (Y_rdS σ t a b 42 0))) (f := (fun n c => c + (if mrd (Y_rdS σ t a b) t (nI n) then 1 else 0))) (a0 := (0 : Int32)) (fun n87 a87 hn87 ha87 ih87 v87_5 v87_6 hv87_5 hv87_6 => ?_) (fun a87 ha87 v87_5 v87_6 hv87_5 hv87_6 => ?_) _ _ rfl rfl
          · subst hv87_5 hv87_6
            refine zw_iload_6 X dX8_ride_87 ?_
            refine zw_aload_0 X dX8_ride_89 ?_
            refine zw_getI X dX8_ride_90 fl_X8_7 ck_X8 sh_42 rfl ?_
            refine zw_icmpge_f (tgt := 122) X dX8_ride_93 (by decide) ((clN_lt (Nat.le_of_lt hn87)).mpr hn87) ?_
            refine zw_iload_5 X dX8_ride_96 ?_
            refine zw_aload_0 X dX8_ride_98 ?_
            refine zw_iload_1 X dX8_ride_99 ?_
            refine zw_iload_6 X dX8_ride_100 ?_
            refine zw_cV_iii X dX8_ride_102 lk_X8_78 ok_MX8_rides vi_MX8_rides rm_X8_ride_X8_rides sh_42 rfl (Nat.le_of_ble_eq_true rfl) (t_X8_rides (in6_of c_4)) ?_
            refine zw_ifeqB (tgt := 112) X dX8_ride_105 (by decide) (fun c_105 => ?_) (fun c_105 => ?_)
            · refine zw_iconst (v := 0) X dX8_ride_112 ik_0 ?_
              refine zw_iadd X dX8_ride_113 ?_
              refine zw_istore_5 X dX8_ride_114 ?_
              refine zw_iinc_6_p1 X dX8_ride_116 ?_
              refine zw_goto (tgt := 87) X dX8_ride_119 (by decide) ?_
              exact ih87 _ _ (by first | (simp only [c_4, eq_true c_11, c_55, c_71, c_105, decide_true, decide_false, Bool.and_true, Bool.true_and, Bool.and_false, Bool.false_and, Bool.or_true, Bool.true_or, Bool.or_false, Bool.false_or, Bool.not_true, Bool.not_false, if_true, if_false, ite_true, ite_false, Bool.false_eq_true, not_true_eq_false, not_false_eq_true, bI_t, bI_f, decide_eq_true_eq, reduceCtorEq]; done) | (simp [c_4, eq_true c_11, c_55, c_71, c_105]; done) | simp_all) (nI_1 n87)
            · refine zw_iconst (v := 1) X dX8_ride_108 ik_1 ?_
              refine zw_goto (tgt := 113) X dX8_ride_109 (by decide) ?_
              refine zw_iadd X dX8_ride_113 ?_
              refine zw_istore_5 X dX8_ride_114 ?_
              refine zw_iinc_6_p1 X dX8_ride_116 ?_
              refine zw_goto (tgt := 87) X dX8_ride_119 (by decide) ?_
              exact ih87 _ _ (by first | (simp only [c_4, eq_true c_11, c_55, c_71, c_105, decide_true, decide_false, Bool.and_true, Bool.true_and, Bool.and_false, Bool.false_and, Bool.or_true, Bool.true_or, Bool.or_false, Bool.false_or, Bool.not_true, Bool.not_false, if_true, if_false, ite_true, ite_false, Bool.false_eq_true, not_true_eq_false, not_false_eq_true, bI_t, bI_f, decide_eq_true_eq, reduceCtorEq]; done) | (simp [c_4, eq_true c_11, c_55, c_71, c_105]; done) | simp_all) (nI_1 n87)
          · subst hv87_5 hv87_6
            refine zw_iload_6 X dX8_ride_87 ?_
            refine zw_aload_0 X dX8_ride_89 ?_
            refine zw_getI X dX8_ride_90 fl_X8_7 ck_X8 sh_42 rfl ?_
            refine zw_icmpge_t (tgt := 122) X dX8_ride_93 (by decide) (fun h => Nat.lt_irrefl _ ((clN_lt (Nat.le_refl _)).mp h)) ?_
            refine zw_iload_5 X dX8_ride_122 ?_
            exact zw_iret X F dX8_ride_124 rfl (by simp only [Y_ride, Y_rdN, ← ha87, c_4, eq_true c_11, c_55, c_71, decide_true, decide_false, Bool.and_true, Bool.true_and, Bool.and_false, Bool.false_and, Bool.or_true, Bool.true_or, Bool.or_false, Bool.false_or, Bool.not_true, Bool.not_false, if_true, if_false, ite_true, ite_false, Bool.false_eq_true, not_true_eq_false, not_false_eq_true, bI_t, bI_f, decide_eq_true_eq, reduceCtorEq]) (by first | (simp only [Y_ride, c_4, eq_true c_11, c_55, c_71, decide_true, decide_false, Bool.and_true, Bool.true_and, Bool.and_false, Bool.false_and, Bool.or_true, Bool.true_or, Bool.or_false, Bool.false_or, Bool.not_true, Bool.not_false, if_true, if_false, ite_true, ite_false, Bool.false_eq_true, not_true_eq_false, not_false_eq_true, bI_t, bI_f, decide_eq_true_eq, reduceCtorEq]; done) | (simp [Y_ride, c_4, eq_true c_11, c_55, c_71]; done) | simp_all)
        · refine zw_bipush (v := -6) X dX8_ride_74 bk_m6 ?_
          refine zw_goto (tgt := 80) X dX8_ride_76 (by decide) ?_
          refine zw_iast X dX8_ride_80 sh_44 (in6_of c_4) ?_
          refine zw_wld (σ' := Y_rdS σ t a b) (by first | (simp only [Y_rdS, c_4, eq_true c_11, c_55, c_71, decide_true, decide_false, Bool.and_true, Bool.true_and, Bool.and_false, Bool.false_and, Bool.or_true, Bool.true_or, Bool.or_false, Bool.false_or, Bool.not_true, Bool.not_false, if_true, if_false, ite_true, ite_false, Bool.false_eq_true, not_true_eq_false, not_false_eq_true, bI_t, bI_f, decide_eq_true_eq, reduceCtorEq]; done) | (simp [Y_rdS, c_4, eq_true c_11, c_55, c_71]; done) | simp_all) ?_
          refine zw_iconst (v := 0) X dX8_ride_81 ik_0 ?_
          refine zw_istore_5 X dX8_ride_82 ?_
          refine zw_iconst (v := 0) X dX8_ride_84 ik_0 ?_
          refine zw_istore_6 X dX8_ride_85 ?_
          refine zloop (α := Int32) (S := fun zn za => ∀ (v87_5 : Int32) (v87_6 : Int32), v87_5 = za → v87_6 = nI zn → ZW g 87 [some (.ref 42), some (.int t), some (.int a), some (.int b), some (.int 1), some (.int v87_5), some (.int v87_6)] [] (Y_rdS σ t a b)) (N := (clN (Y_rdS σ t a b 42 0))) (f := (fun n c => c + (if mrd (Y_rdS σ t a b) t (nI n) then 1 else 0))) (a0 := (0 : Int32)) (fun n87 a87 hn87 ha87 ih87 v87_5 v87_6 hv87_5 hv87_6 => ?_) (fun a87 ha87 v87_5 v87_6 hv87_5 hv87_6 => ?_) _ _ rfl rfl
          · subst hv87_5 hv87_6
            refine zw_iload_6 X dX8_ride_87 ?_
            refine zw_aload_0 X dX8_ride_89 ?_
            refine zw_getI X dX8_ride_90 fl_X8_7 ck_X8 sh_42 rfl ?_
            refine zw_icmpge_f (tgt := 122) X dX8_ride_93 (by decide) ((clN_lt (Nat.le_of_lt hn87)).mpr hn87) ?_
            refine zw_iload_5 X dX8_ride_96 ?_
            refine zw_aload_0 X dX8_ride_98 ?_
            refine zw_iload_1 X dX8_ride_99 ?_
            refine zw_iload_6 X dX8_ride_100 ?_
            refine zw_cV_iii X dX8_ride_102 lk_X8_78 ok_MX8_rides vi_MX8_rides rm_X8_ride_X8_rides sh_42 rfl (Nat.le_of_ble_eq_true rfl) (t_X8_rides (in6_of c_4)) ?_
            refine zw_ifeqB (tgt := 112) X dX8_ride_105 (by decide) (fun c_105 => ?_) (fun c_105 => ?_)
            · refine zw_iconst (v := 0) X dX8_ride_112 ik_0 ?_
              refine zw_iadd X dX8_ride_113 ?_
              refine zw_istore_5 X dX8_ride_114 ?_
              refine zw_iinc_6_p1 X dX8_ride_116 ?_
              refine zw_goto (tgt := 87) X dX8_ride_119 (by decide) ?_
              exact ih87 _ _ (by first | (simp only [c_4, eq_true c_11, c_55, c_71, c_105, decide_true, decide_false, Bool.and_true, Bool.true_and, Bool.and_false, Bool.false_and, Bool.or_true, Bool.true_or, Bool.or_false, Bool.false_or, Bool.not_true, Bool.not_false, if_true, if_false, ite_true, ite_false, Bool.false_eq_true, not_true_eq_false, not_false_eq_true, bI_t, bI_f, decide_eq_true_eq, reduceCtorEq]; done) | (simp [c_4, eq_true c_11, c_55, c_71, c_105]; done) | simp_all) (nI_1 n87)
            · refine zw_iconst (v := 1) X dX8_ride_108 ik_1 ?_
              refine zw_goto (tgt := 113) X dX8_ride_109 (by decide) ?_
              refine zw_iadd X dX8_ride_113 ?_
              refine zw_istore_5 X dX8_ride_114 ?_
              refine zw_iinc_6_p1 X dX8_ride_116 ?_
              refine zw_goto (tgt := 87) X dX8_ride_119 (by decide) ?_
              exact ih87 _ _ (by first | (simp only [c_4, eq_true c_11, c_55, c_71, c_105, decide_true, decide_false, Bool.and_true, Bool.true_and, Bool.and_false, Bool.false_and, Bool.or_true, Bool.true_or, Bool.or_false, Bool.false_or, Bool.not_true, Bool.not_false, if_true, if_false, ite_true, ite_false, Bool.false_eq_true, not_true_eq_false, not_false_eq_true, bI_t, bI_f, decide_eq_true_eq, reduceCtorEq]; done) | (simp [c_4, eq_true c_11, c_55, c_71, c_105]; done) | simp_all) (nI_1 n87)
          · subst hv87_5 hv87_6
            refine zw_iload_6 X dX8_ride_87 ?_
            refine zw_aload_0 X dX8_ride_89 ?_
            refine zw_getI X dX8_ride_90 fl_X8_7 ck_X8 sh_42 rfl ?_
            refine zw_icmpge_t (tgt := 122) X dX8_ride_93 (by decide) (fun h => Nat.lt_irrefl _ ((clN_lt (Nat.le_refl _)).mp h)) ?_
            refine zw_iload_5 X dX8_ride_122 ?_
            exact zw_iret X F dX8_ride_124 rfl (by simp only [Y_ride, Y_rdN, ← ha87, c_4, eq_true c_11, c_55, c_71, decide_true, decide_false, Bool.and_true, Bool.true_and, Bool.and_false, Bool.false_and, Bool.or_true, Bool.true_or, Bool.or_false, Bool.false_or, Bool.not_true, Bool.not_false, if_true, if_false, ite_true, ite_false, Bool.false_eq_true, not_true_eq_false, not_false_eq_true, bI_t, bI_f, decide_eq_true_eq, reduceCtorEq]) (by first | (simp only [Y_ride, c_4, eq_true c_11, c_55, c_71, decide_true, decide_false, Bool.and_true, Bool.true_and, Bool.and_false, Bool.false_and, Bool.or_true, Bool.true_or, Bool.or_false, Bool.false_or, Bool.not_true, Bool.not_false, if_true, if_false, ite_true, ite_false, Bool.false_eq_true, not_true_eq_false, not_false_eq_true, bI_t, bI_f, decide_eq_true_eq, reduceCtorEq]; done) | (simp [Y_ride, c_4, eq_true c_11, c_55, c_71]; done) | simp_all)
      · refine zw_bipush (v := -6) X dX8_ride_58 bk_m6 ?_
        refine zw_goto (tgt := 64) X dX8_ride_60 (by decide) ?_
        refine zw_iast X dX8_ride_64 sh_43 (in6_of c_4) ?_
        refine zw_aload_0 X dX8_ride_65 ?_
        refine zw_getR X dX8_ride_66 fl_X8_17 ck_X8 sh_42 rfl ?_
        refine zw_iload_1 X dX8_ride_69 ?_
        refine zw_iload_2 X dX8_ride_70 ?_
        refine zw_ifge (tgt := 79) X dX8_ride_71 (by decide) (fun c_71 => ?_) (fun c_71 => ?_)
        · refine zw_iload_3 X dX8_ride_79 ?_
          refine zw_iast X dX8_ride_80 sh_44 (in6_of c_4) ?_
          refine zw_wld (σ' := Y_rdS σ t a b) (by first | (simp only [Y_rdS, c_4, eq_true c_11, c_55, c_71, decide_true, decide_false, Bool.and_true, Bool.true_and, Bool.and_false, Bool.false_and, Bool.or_true, Bool.true_or, Bool.or_false, Bool.false_or, Bool.not_true, Bool.not_false, if_true, if_false, ite_true, ite_false, Bool.false_eq_true, not_true_eq_false, not_false_eq_true, bI_t, bI_f, decide_eq_true_eq, reduceCtorEq]; done) | (simp [Y_rdS, c_4, eq_true c_11, c_55, c_71]; done) | simp_all) ?_
          refine zw_iconst (v := 0) X dX8_ride_81 ik_0 ?_
          refine zw_istore_5 X dX8_ride_82 ?_
          refine zw_iconst (v := 0) X dX8_ride_84 ik_0 ?_
          refine zw_istore_6 X dX8_ride_85 ?_
          refine zloop (α := Int32) (S := fun zn za => ∀ (v87_5 : Int32) (v87_6 : Int32), v87_5 = za → v87_6 = nI zn → ZW g 87 [some (.ref 42), some (.int t), some (.int a), some (.int b), some (.int 1), some (.int v87_5), some (.int v87_6)] [] (Y_rdS σ t a b)) (N := (clN (Y_rdS σ t a b 42 0))) (f := (fun n c => c + (if mrd (Y_rdS σ t a b) t (nI n) then 1 else 0))) (a0 := (0 : Int32)) (fun n87 a87 hn87 ha87 ih87 v87_5 v87_6 hv87_5 hv87_6 => ?_) (fun a87 ha87 v87_5 v87_6 hv87_5 hv87_6 => ?_) _ _ rfl rfl
          · subst hv87_5 hv87_6
            refine zw_iload_6 X dX8_ride_87 ?_
            refine zw_aload_0 X dX8_ride_89 ?_
            refine zw_getI X dX8_ride_90 fl_X8_7 ck_X8 sh_42 rfl ?_
            refine zw_icmpge_f (tgt := 122) X dX8_ride_93 (by decide) ((clN_lt (Nat.le_of_lt hn87)).mpr hn87) ?_
            refine zw_iload_5 X dX8_ride_96 ?_
            refine zw_aload_0 X dX8_ride_98 ?_
            refine zw_iload_1 X dX8_ride_99 ?_
            refine zw_iload_6 X dX8_ride_100 ?_
            refine zw_cV_iii X dX8_ride_102 lk_X8_78 ok_MX8_rides vi_MX8_rides rm_X8_ride_X8_rides sh_42 rfl (Nat.le_of_ble_eq_true rfl) (t_X8_rides (in6_of c_4)) ?_
            refine zw_ifeqB (tgt := 112) X dX8_ride_105 (by decide) (fun c_105 => ?_) (fun c_105 => ?_)
            · refine zw_iconst (v := 0) X dX8_ride_112 ik_0 ?_
              refine zw_iadd X dX8_ride_113 ?_
              refine zw_istore_5 X dX8_ride_114 ?_
              refine zw_iinc_6_p1 X dX8_ride_116 ?_
              refine zw_goto (tgt := 87) X dX8_ride_119 (by decide) ?_
              exact ih87 _ _ (by first | (simp only [c_4, eq_true c_11, c_55, c_71, c_105, decide_true, decide_false, Bool.and_true, Bool.true_and, Bool.and_false, Bool.false_and, Bool.or_true, Bool.true_or, Bool.or_false, Bool.false_or, Bool.not_true, Bool.not_false, if_true, if_false, ite_true, ite_false, Bool.false_eq_true, not_true_eq_false, not_false_eq_true, bI_t, bI_f, decide_eq_true_eq, reduceCtorEq]; done) | (simp [c_4, eq_true c_11, c_55, c_71, c_105]; done) | simp_all) (nI_1 n87)
            · refine zw_iconst (v := 1) X dX8_ride_108 ik_1 ?_
              refine zw_goto (tgt := 113) X dX8_ride_109 (by decide) ?_
              refine zw_iadd X dX8_ride_113 ?_
              refine zw_istore_5 X dX8_ride_114 ?_
              refine zw_iinc_6_p1 X dX8_ride_116 ?_
              refine zw_goto (tgt := 87) X dX8_ride_119 (by decide) ?_
              exact ih87 _ _ (by first | (simp only [c_4, eq_true c_11, c_55, c_71, c_105, decide_true, decide_false, Bool.and_true, Bool.true_and, Bool.and_false, Bool.false_and, Bool.or_true, Bool.true_or, Bool.or_false, Bool.false_or, Bool.not_true, Bool.not_false, if_true, if_false, ite_true, ite_false, Bool.false_eq_true, not_true_eq_false, not_false_eq_true, bI_t, bI_f, decide_eq_true_eq, reduceCtorEq]; done) | (simp [c_4, eq_true c_11, c_55, c_71, c_105]; done) | simp_all) (nI_1 n87)
          · subst hv87_5 hv87_6
            refine zw_iload_6 X dX8_ride_87 ?_
            refine zw_aload_0 X dX8_ride_89 ?_
            refine zw_getI X dX8_ride_90 fl_X8_7 ck_X8 sh_42 rfl ?_
            refine zw_icmpge_t (tgt := 122) X dX8_ride_93 (by decide) (fun h => Nat.lt_irrefl _ ((clN_lt (Nat.le_refl _)).mp h)) ?_
            refine zw_iload_5 X dX8_ride_122 ?_
            exact zw_iret X F dX8_ride_124 rfl (by simp only [Y_ride, Y_rdN, ← ha87, c_4, eq_true c_11, c_55, c_71, decide_true, decide_false, Bool.and_true, Bool.true_and, Bool.and_false, Bool.false_and, Bool.or_true, Bool.true_or, Bool.or_false, Bool.false_or, Bool.not_true, Bool.not_false, if_true, if_false, ite_true, ite_false, Bool.false_eq_true, not_true_eq_false, not_false_eq_true, bI_t, bI_f, decide_eq_true_eq, reduceCtorEq]) (by first | (simp only [Y_ride, c_4, eq_true c_11, c_55, c_71, decide_true, decide_false, Bool.and_true, Bool.true_and, Bool.and_false, Bool.false_and, Bool.or_true, Bool.true_or, Bool.or_false, Bool.false_or, Bool.not_true, Bool.not_false, if_true, if_false, ite_true, ite_false, Bool.false_eq_true, not_true_eq_false, not_false_eq_true, bI_t, bI_f, decide_eq_true_eq, reduceCtorEq]; done) | (simp [Y_ride, c_4, eq_true c_11, c_55, c_71]; done) | simp_all)
        · refine zw_bipush (v := -6) X dX8_ride_74 bk_m6 ?_
          refine zw_goto (tgt := 80) X dX8_ride_76 (by decide) ?_
          refine zw_iast X dX8_ride_80 sh_44 (in6_of c_4) ?_
          refine zw_wld (σ' := Y_rdS σ t a b) (by first | (simp only [Y_rdS, c_4, eq_true c_11, c_55, c_71, decide_true, decide_false, Bool.and_true, Bool.true_and, Bool.and_false, Bool.false_and, Bool.or_true, Bool.true_or, Bool.or_false, Bool.false_or, Bool.not_true, Bool.not_false, if_true, if_false, ite_true, ite_false, Bool.false_eq_true, not_true_eq_false, not_false_eq_true, bI_t, bI_f, decide_eq_true_eq, reduceCtorEq]; done) | (simp [Y_rdS, c_4, eq_true c_11, c_55, c_71]; done) | simp_all) ?_
          refine zw_iconst (v := 0) X dX8_ride_81 ik_0 ?_
          refine zw_istore_5 X dX8_ride_82 ?_
          refine zw_iconst (v := 0) X dX8_ride_84 ik_0 ?_
          refine zw_istore_6 X dX8_ride_85 ?_
          refine zloop (α := Int32) (S := fun zn za => ∀ (v87_5 : Int32) (v87_6 : Int32), v87_5 = za → v87_6 = nI zn → ZW g 87 [some (.ref 42), some (.int t), some (.int a), some (.int b), some (.int 1), some (.int v87_5), some (.int v87_6)] [] (Y_rdS σ t a b)) (N := (clN (Y_rdS σ t a b 42 0))) (f := (fun n c => c + (if mrd (Y_rdS σ t a b) t (nI n) then 1 else 0))) (a0 := (0 : Int32)) (fun n87 a87 hn87 ha87 ih87 v87_5 v87_6 hv87_5 hv87_6 => ?_) (fun a87 ha87 v87_5 v87_6 hv87_5 hv87_6 => ?_) _ _ rfl rfl
          · subst hv87_5 hv87_6
            refine zw_iload_6 X dX8_ride_87 ?_
            refine zw_aload_0 X dX8_ride_89 ?_
            refine zw_getI X dX8_ride_90 fl_X8_7 ck_X8 sh_42 rfl ?_
            refine zw_icmpge_f (tgt := 122) X dX8_ride_93 (by decide) ((clN_lt (Nat.le_of_lt hn87)).mpr hn87) ?_
            refine zw_iload_5 X dX8_ride_96 ?_
            refine zw_aload_0 X dX8_ride_98 ?_
            refine zw_iload_1 X dX8_ride_99 ?_
            refine zw_iload_6 X dX8_ride_100 ?_
            refine zw_cV_iii X dX8_ride_102 lk_X8_78 ok_MX8_rides vi_MX8_rides rm_X8_ride_X8_rides sh_42 rfl (Nat.le_of_ble_eq_true rfl) (t_X8_rides (in6_of c_4)) ?_
            refine zw_ifeqB (tgt := 112) X dX8_ride_105 (by decide) (fun c_105 => ?_) (fun c_105 => ?_)
            · refine zw_iconst (v := 0) X dX8_ride_112 ik_0 ?_
              refine zw_iadd X dX8_ride_113 ?_
              refine zw_istore_5 X dX8_ride_114 ?_
              refine zw_iinc_6_p1 X dX8_ride_116 ?_
              refine zw_goto (tgt := 87) X dX8_ride_119 (by decide) ?_
              exact ih87 _ _ (by first | (simp only [c_4, eq_true c_11, c_55, c_71, c_105, decide_true, decide_false, Bool.and_true, Bool.true_and, Bool.and_false, Bool.false_and, Bool.or_true, Bool.true_or, Bool.or_false, Bool.false_or, Bool.not_true, Bool.not_false, if_true, if_false, ite_true, ite_false, Bool.false_eq_true, not_true_eq_false, not_false_eq_true, bI_t, bI_f, decide_eq_true_eq, reduceCtorEq]; done) | (simp [c_4, eq_true c_11, c_55, c_71, c_105]; done) | simp_all) (nI_1 n87)
            · refine zw_iconst (v := 1) X dX8_ride_108 ik_1 ?_
              refine zw_goto (tgt := 113) X dX8_ride_109 (by decide) ?_
              refine zw_iadd X dX8_ride_113 ?_
              refine zw_istore_5 X dX8_ride_114 ?_
              refine zw_iinc_6_p1 X dX8_ride_116 ?_
              refine zw_goto (tgt := 87) X dX8_ride_119 (by decide) ?_
              exact ih87 _ _ (by first | (simp only [c_4, eq_true c_11, c_55, c_71, c_105, decide_true, decide_false, Bool.and_true, Bool.true_and, Bool.and_false, Bool.false_and, Bool.or_true, Bool.true_or, Bool.or_false, Bool.false_or, Bool.not_true, Bool.not_false, if_true, if_false, ite_true, ite_false, Bool.false_eq_true, not_true_eq_false, not_false_eq_true, bI_t, bI_f, decide_eq_true_eq, reduceCtorEq]; done) | (simp [c_4, eq_true c_11, c_55, c_71, c_105]; done) | simp_all) (nI_1 n87)
          · subst hv87_5 hv87_6
            refine zw_iload_6 X dX8_ride_87 ?_
            refine zw_aload_0 X dX8_ride_89 ?_
            refine zw_getI X dX8_ride_90 fl_X8_7 ck_X8 sh_42 rfl ?_
            refine zw_icmpge_t (tgt := 122) X dX8_ride_93 (by decide) (fun h => Nat.lt_irrefl _ ((clN_lt (Nat.le_refl _)).mp h)) ?_
            refine zw_iload_5 X dX8_ride_122 ?_
            exact zw_iret X F dX8_ride_124 rfl (by simp only [Y_ride, Y_rdN, ← ha87, c_4, eq_true c_11, c_55, c_71, decide_true, decide_false, Bool.and_true, Bool.true_and, Bool.and_false, Bool.false_and, Bool.or_true, Bool.true_or, Bool.or_false, Bool.false_or, Bool.not_true, Bool.not_false, if_true, if_false, ite_true, ite_false, Bool.false_eq_true, not_true_eq_false, not_false_eq_true, bI_t, bI_f, decide_eq_true_eq, reduceCtorEq]) (by first | (simp only [Y_ride, c_4, eq_true c_11, c_55, c_71, decide_true, decide_false, Bool.and_true, Bool.true_and, Bool.and_false, Bool.false_and, Bool.or_true, Bool.true_or, Bool.or_false, Bool.false_or, Bool.not_true, Bool.not_false, if_true, if_false, ite_true, ite_false, Bool.false_eq_true, not_true_eq_false, not_false_eq_true, bI_t, bI_f, decide_eq_true_eq, reduceCtorEq]; done) | (simp [Y_ride, c_4, eq_true c_11, c_55, c_71]; done) | simp_all)
    · refine zw_iload_2 X dX8_ride_14 ?_
      refine zw_iconst (v := 0) X dX8_ride_15 ik_0 ?_
      refine zw_bipush (v := 29) X dX8_ride_16 bk_29 ?_
      refine zw_cS_iiii X dX8_ride_18 lk_X8_60 ok_MX8_in st_MX8_in rm_X8_ride_X8_in (Nat.le_of_ble_eq_true rfl) t_X8_in ?_
      refine zw_ifeqB (tgt := 38) X dX8_ride_21 (by decide) (fun c_21 => ?_) (fun c_21 => ?_)
      · refine zw_iconst (v := 0) X dX8_ride_38 ik_0 ?_
        refine zw_istore_4 X dX8_ride_39 ?_
        refine zw_iload_4 X dX8_ride_41 ?_
        refine zw_ifne_f (tgt := 49) X dX8_ride_43 (by decide) (by decide) ?_
        refine zw_bipush (v := -2) X dX8_ride_46 bk_m2 ?_
        exact zw_iret X F dX8_ride_48 rfl (by first | (simp only [Y_ride, c_4, c_11, c_21, decide_true, decide_false, Bool.and_true, Bool.true_and, Bool.and_false, Bool.false_and, Bool.or_true, Bool.true_or, Bool.or_false, Bool.false_or, Bool.not_true, Bool.not_false, if_true, if_false, ite_true, ite_false, Bool.false_eq_true, not_true_eq_false, not_false_eq_true, bI_t, bI_f, decide_eq_true_eq, reduceCtorEq]; done) | (simp [Y_ride, c_4, c_11, c_21]; done) | simp_all) (by first | (simp only [Y_ride, c_4, c_11, c_21, decide_true, decide_false, Bool.and_true, Bool.true_and, Bool.and_false, Bool.false_and, Bool.or_true, Bool.true_or, Bool.or_false, Bool.false_or, Bool.not_true, Bool.not_false, if_true, if_false, ite_true, ite_false, Bool.false_eq_true, not_true_eq_false, not_false_eq_true, bI_t, bI_f, decide_eq_true_eq, reduceCtorEq]; done) | (simp [Y_ride, c_4, c_11, c_21]; done) | simp_all)
      · refine zw_iload_3 X dX8_ride_24 ?_
        refine zw_iload_2 X dX8_ride_25 ?_
        refine zw_bipush (v := 29) X dX8_ride_26 bk_29 ?_
        refine zw_cS_iiii X dX8_ride_28 lk_X8_60 ok_MX8_in st_MX8_in rm_X8_ride_X8_in (Nat.le_of_ble_eq_true rfl) t_X8_in ?_
        refine zw_ifeqB (tgt := 38) X dX8_ride_31 (by decide) (fun c_31 => ?_) (fun c_31 => ?_)
        · refine zw_iconst (v := 0) X dX8_ride_38 ik_0 ?_
          refine zw_istore_4 X dX8_ride_39 ?_
          refine zw_iload_4 X dX8_ride_41 ?_
          refine zw_ifne_f (tgt := 49) X dX8_ride_43 (by decide) (by decide) ?_
          refine zw_bipush (v := -2) X dX8_ride_46 bk_m2 ?_
          exact zw_iret X F dX8_ride_48 rfl (by first | (simp only [Y_ride, c_4, c_11, c_21, c_31, decide_true, decide_false, Bool.and_true, Bool.true_and, Bool.and_false, Bool.false_and, Bool.or_true, Bool.true_or, Bool.or_false, Bool.false_or, Bool.not_true, Bool.not_false, if_true, if_false, ite_true, ite_false, Bool.false_eq_true, not_true_eq_false, not_false_eq_true, bI_t, bI_f, decide_eq_true_eq, reduceCtorEq]; done) | (simp [Y_ride, c_4, c_11, c_21, c_31]; done) | simp_all) (by first | (simp only [Y_ride, c_4, c_11, c_21, c_31, decide_true, decide_false, Bool.and_true, Bool.true_and, Bool.and_false, Bool.false_and, Bool.or_true, Bool.true_or, Bool.or_false, Bool.false_or, Bool.not_true, Bool.not_false, if_true, if_false, ite_true, ite_false, Bool.false_eq_true, not_true_eq_false, not_false_eq_true, bI_t, bI_f, decide_eq_true_eq, reduceCtorEq]; done) | (simp [Y_ride, c_4, c_11, c_21, c_31]; done) | simp_all)
        · refine zw_iconst (v := 1) X dX8_ride_34 ik_1 ?_
          refine zw_goto (tgt := 39) X dX8_ride_35 (by decide) ?_
          refine zw_istore_4 X dX8_ride_39 ?_
          refine zw_iload_4 X dX8_ride_41 ?_
          refine zw_ifne_t (tgt := 49) X dX8_ride_43 (by decide) (by decide) ?_
          refine zw_aload_0 X dX8_ride_49 ?_
          refine zw_getR X dX8_ride_50 fl_X8_13 ck_X8 sh_42 rfl ?_
          refine zw_iload_1 X dX8_ride_53 ?_
          refine zw_iload_2 X dX8_ride_54 ?_
          refine zw_ifge (tgt := 63) X dX8_ride_55 (by decide) (fun c_55 => ?_) (fun c_55 => ?_)
          · refine zw_iload_2 X dX8_ride_63 ?_
            refine zw_iast X dX8_ride_64 sh_43 (in6_of c_4) ?_
            refine zw_aload_0 X dX8_ride_65 ?_
            refine zw_getR X dX8_ride_66 fl_X8_17 ck_X8 sh_42 rfl ?_
            refine zw_iload_1 X dX8_ride_69 ?_
            refine zw_iload_2 X dX8_ride_70 ?_
            refine zw_ifge (tgt := 79) X dX8_ride_71 (by decide) (fun c_71 => ?_) (fun c_71 => ?_)
            · refine zw_iload_3 X dX8_ride_79 ?_
              refine zw_iast X dX8_ride_80 sh_44 (in6_of c_4) ?_
              refine zw_wld (σ' := Y_rdS σ t a b) (by first | (simp only [Y_rdS, c_4, c_11, c_21, c_31, c_55, c_71, decide_true, decide_false, Bool.and_true, Bool.true_and, Bool.and_false, Bool.false_and, Bool.or_true, Bool.true_or, Bool.or_false, Bool.false_or, Bool.not_true, Bool.not_false, if_true, if_false, ite_true, ite_false, Bool.false_eq_true, not_true_eq_false, not_false_eq_true, bI_t, bI_f, decide_eq_true_eq, reduceCtorEq]; done) | (simp [Y_rdS, c_4, c_11, c_21, c_31, c_55, c_71]; done) | simp_all) ?_
              refine zw_iconst (v := 0) X dX8_ride_81 ik_0 ?_
              refine zw_istore_5 X dX8_ride_82 ?_
              refine zw_iconst (v := 0) X dX8_ride_84 ik_0 ?_
              refine zw_istore_6 X dX8_ride_85 ?_
              refine zloop (α := Int32) (S := fun zn za => ∀ (v87_5 : Int32) (v87_6 : Int32), v87_5 = za → v87_6 = nI zn → ZW g 87 [some (.ref 42), some (.int t), some (.int a), some (.int b), some (.int 1), some (.int v87_5), some (.int v87_6)] [] (Y_rdS σ t a b)) (N := (clN (Y_rdS σ t a b 42 0))) (f := (fun n c => c + (if mrd (Y_rdS σ t a b) t (nI n) then 1 else 0))) (a0 := (0 : Int32)) (fun n87 a87 hn87 ha87 ih87 v87_5 v87_6 hv87_5 hv87_6 => ?_) (fun a87 ha87 v87_5 v87_6 hv87_5 hv87_6 => ?_) _ _ rfl rfl
              · subst hv87_5 hv87_6
                refine zw_iload_6 X dX8_ride_87 ?_
                refine zw_aload_0 X dX8_ride_89 ?_
                refine zw_getI X dX8_ride_90 fl_X8_7 ck_X8 sh_42 rfl ?_
                refine zw_icmpge_f (tgt := 122) X dX8_ride_93 (by decide) ((clN_lt (Nat.le_of_lt hn87)).mpr hn87) ?_
                refine zw_iload_5 X dX8_ride_96 ?_
                refine zw_aload_0 X dX8_ride_98 ?_
                refine zw_iload_1 X dX8_ride_99 ?_
                refine zw_iload_6 X dX8_ride_100 ?_
                refine zw_cV_iii X dX8_ride_102 lk_X8_78 ok_MX8_rides vi_MX8_rides rm_X8_ride_X8_rides sh_42 rfl (Nat.le_of_ble_eq_true rfl) (t_X8_rides (in6_of c_4)) ?_
                refine zw_ifeqB (tgt := 112) X dX8_ride_105 (by decide) (fun c_105 => ?_) (fun c_105 => ?_)
                · refine zw_iconst (v := 0) X dX8_ride_112 ik_0 ?_
                  refine zw_iadd X dX8_ride_113 ?_
                  refine zw_istore_5 X dX8_ride_114 ?_
                  refine zw_iinc_6_p1 X dX8_ride_116 ?_
                  refine zw_goto (tgt := 87) X dX8_ride_119 (by decide) ?_
                  exact ih87 _ _ (by first | (simp only [c_4, c_11, c_21, c_31, c_55, c_71, c_105, decide_true, decide_false, Bool.and_true, Bool.true_and, Bool.and_false, Bool.false_and, Bool.or_true, Bool.true_or, Bool.or_false, Bool.false_or, Bool.not_true, Bool.not_false, if_true, if_false, ite_true, ite_false, Bool.false_eq_true, not_true_eq_false, not_false_eq_true, bI_t, bI_f, decide_eq_true_eq, reduceCtorEq]; done) | (simp [c_4, c_11, c_21, c_31, c_55, c_71, c_105]; done) | simp_all) (nI_1 n87)
                · refine zw_iconst (v := 1) X dX8_ride_108 ik_1 ?_
                  refine zw_goto (tgt := 113) X dX8_ride_109 (by decide) ?_
                  refine zw_iadd X dX8_ride_113 ?_
                  refine zw_istore_5 X dX8_ride_114 ?_
                  refine zw_iinc_6_p1 X dX8_ride_116 ?_
                  refine zw_goto (tgt := 87) X dX8_ride_119 (by decide) ?_
                  exact ih87 _ _ (by first | (simp only [c_4, c_11, c_21, c_31, c_55, c_71, c_105, decide_true, decide_false, Bool.and_true, Bool.true_and, Bool.and_false, Bool.false_and, Bool.or_true, Bool.true_or, Bool.or_false, Bool.false_or, Bool.not_true, Bool.not_false, if_true, if_false, ite_true, ite_false, Bool.false_eq_true, not_true_eq_false, not_false_eq_true, bI_t, bI_f, decide_eq_true_eq, reduceCtorEq]; done) | (simp [c_4, c_11, c_21, c_31, c_55, c_71, c_105]; done) | simp_all) (nI_1 n87)
              · subst hv87_5 hv87_6
                refine zw_iload_6 X dX8_ride_87 ?_
                refine zw_aload_0 X dX8_ride_89 ?_
                refine zw_getI X dX8_ride_90 fl_X8_7 ck_X8 sh_42 rfl ?_
                refine zw_icmpge_t (tgt := 122) X dX8_ride_93 (by decide) (fun h => Nat.lt_irrefl _ ((clN_lt (Nat.le_refl _)).mp h)) ?_
                refine zw_iload_5 X dX8_ride_122 ?_
                exact zw_iret X F dX8_ride_124 rfl (by simp only [Y_ride, Y_rdN, ← ha87, c_4, c_11, c_21, c_31, c_55, c_71, decide_true, decide_false, Bool.and_true, Bool.true_and, Bool.and_false, Bool.false_and, Bool.or_true, Bool.true_or, Bool.or_false, Bool.false_or, Bool.not_true, Bool.not_false, if_true, if_false, ite_true, ite_false, Bool.false_eq_true, not_true_eq_false, not_false_eq_true, bI_t, bI_f, decide_eq_true_eq, reduceCtorEq]) (by first | (simp only [Y_ride, c_4, c_11, c_21, c_31, c_55, c_71, decide_true, decide_false, Bool.and_true, Bool.true_and, Bool.and_false, Bool.false_and, Bool.or_true, Bool.true_or, Bool.or_false, Bool.false_or, Bool.not_true, Bool.not_false, if_true, if_false, ite_true, ite_false, Bool.false_eq_true, not_true_eq_false, not_false_eq_true, bI_t, bI_f, decide_eq_true_eq, reduceCtorEq]; done) | (simp [Y_ride, c_4, c_11, c_21, c_31, c_55, c_71]; done) | simp_all)
            · refine zw_bipush (v := -6) X dX8_ride_74 bk_m6 ?_
              refine zw_goto (tgt := 80) X dX8_ride_76 (by decide) ?_
              refine zw_iast X dX8_ride_80 sh_44 (in6_of c_4) ?_
              refine zw_wld (σ' := Y_rdS σ t a b) (by first | (simp only [Y_rdS, c_4, c_11, c_21, c_31, c_55, c_71, decide_true, decide_false, Bool.and_true, Bool.true_and, Bool.and_false, Bool.false_and, Bool.or_true, Bool.true_or, Bool.or_false, Bool.false_or, Bool.not_true, Bool.not_false, if_true, if_false, ite_true, ite_false, Bool.false_eq_true, not_true_eq_false, not_false_eq_true, bI_t, bI_f, decide_eq_true_eq, reduceCtorEq]; done) | (simp [Y_rdS, c_4, c_11, c_21, c_31, c_55, c_71]; done) | simp_all) ?_
              refine zw_iconst (v := 0) X dX8_ride_81 ik_0 ?_
              refine zw_istore_5 X dX8_ride_82 ?_
              refine zw_iconst (v := 0) X dX8_ride_84 ik_0 ?_
              refine zw_istore_6 X dX8_ride_85 ?_
              refine zloop (α := Int32) (S := fun zn za => ∀ (v87_5 : Int32) (v87_6 : Int32), v87_5 = za → v87_6 = nI zn → ZW g 87 [some (.ref 42), some (.int t), some (.int a), some (.int b), some (.int 1), some (.int v87_5), some (.int v87_6)] [] (Y_rdS σ t a b)) (N := (clN (Y_rdS σ t a b 42 0))) (f := (fun n c => c + (if mrd (Y_rdS σ t a b) t (nI n) then 1 else 0))) (a0 := (0 : Int32)) (fun n87 a87 hn87 ha87 ih87 v87_5 v87_6 hv87_5 hv87_6 => ?_) (fun a87 ha87 v87_5 v87_6 hv87_5 hv87_6 => ?_) _ _ rfl rfl
              · subst hv87_5 hv87_6
                refine zw_iload_6 X dX8_ride_87 ?_
                refine zw_aload_0 X dX8_ride_89 ?_
                refine zw_getI X dX8_ride_90 fl_X8_7 ck_X8 sh_42 rfl ?_
                refine zw_icmpge_f (tgt := 122) X dX8_ride_93 (by decide) ((clN_lt (Nat.le_of_lt hn87)).mpr hn87) ?_
                refine zw_iload_5 X dX8_ride_96 ?_
                refine zw_aload_0 X dX8_ride_98 ?_
                refine zw_iload_1 X dX8_ride_99 ?_
                refine zw_iload_6 X dX8_ride_100 ?_
                refine zw_cV_iii X dX8_ride_102 lk_X8_78 ok_MX8_rides vi_MX8_rides rm_X8_ride_X8_rides sh_42 rfl (Nat.le_of_ble_eq_true rfl) (t_X8_rides (in6_of c_4)) ?_
                refine zw_ifeqB (tgt := 112) X dX8_ride_105 (by decide) (fun c_105 => ?_) (fun c_105 => ?_)
                · refine zw_iconst (v := 0) X dX8_ride_112 ik_0 ?_
                  refine zw_iadd X dX8_ride_113 ?_
                  refine zw_istore_5 X dX8_ride_114 ?_
                  refine zw_iinc_6_p1 X dX8_ride_116 ?_
                  refine zw_goto (tgt := 87) X dX8_ride_119 (by decide) ?_
                  exact ih87 _ _ (by first | (simp only [c_4, c_11, c_21, c_31, c_55, c_71, c_105, decide_true, decide_false, Bool.and_true, Bool.true_and, Bool.and_false, Bool.false_and, Bool.or_true, Bool.true_or, Bool.or_false, Bool.false_or, Bool.not_true, Bool.not_false, if_true, if_false, ite_true, ite_false, Bool.false_eq_true, not_true_eq_false, not_false_eq_true, bI_t, bI_f, decide_eq_true_eq, reduceCtorEq]; done) | (simp [c_4, c_11, c_21, c_31, c_55, c_71, c_105]; done) | simp_all) (nI_1 n87)
                · refine zw_iconst (v := 1) X dX8_ride_108 ik_1 ?_
                  refine zw_goto (tgt := 113) X dX8_ride_109 (by decide) ?_
                  refine zw_iadd X dX8_ride_113 ?_
                  refine zw_istore_5 X dX8_ride_114 ?_
                  refine zw_iinc_6_p1 X dX8_ride_116 ?_
                  refine zw_goto (tgt := 87) X dX8_ride_119 (by decide) ?_
                  exact ih87 _ _ (by first | (simp only [c_4, c_11, c_21, c_31, c_55, c_71, c_105, decide_true, decide_false, Bool.and_true, Bool.true_and, Bool.and_false, Bool.false_and, Bool.or_true, Bool.true_or, Bool.or_false, Bool.false_or, Bool.not_true, Bool.not_false, if_true, if_false, ite_true, ite_false, Bool.false_eq_true, not_true_eq_false, not_false_eq_true, bI_t, bI_f, decide_eq_true_eq, reduceCtorEq]; done) | (simp [c_4, c_11, c_21, c_31, c_55, c_71, c_105]; done) | simp_all) (nI_1 n87)
              · subst hv87_5 hv87_6
                refine zw_iload_6 X dX8_ride_87 ?_
                refine zw_aload_0 X dX8_ride_89 ?_
                refine zw_getI X dX8_ride_90 fl_X8_7 ck_X8 sh_42 rfl ?_
                refine zw_icmpge_t (tgt := 122) X dX8_ride_93 (by decide) (fun h => Nat.lt_irrefl _ ((clN_lt (Nat.le_refl _)).mp h)) ?_
                refine zw_iload_5 X dX8_ride_122 ?_
                exact zw_iret X F dX8_ride_124 rfl (by simp only [Y_ride, Y_rdN, ← ha87, c_4, c_11, c_21, c_31, c_55, c_71, decide_true, decide_false, Bool.and_true, Bool.true_and, Bool.and_false, Bool.false_and, Bool.or_true, Bool.true_or, Bool.or_false, Bool.false_or, Bool.not_true, Bool.not_false, if_true, if_false, ite_true, ite_false, Bool.false_eq_true, not_true_eq_false, not_false_eq_true, bI_t, bI_f, decide_eq_true_eq, reduceCtorEq]) (by first | (simp only [Y_ride, c_4, c_11, c_21, c_31, c_55, c_71, decide_true, decide_false, Bool.and_true, Bool.true_and, Bool.and_false, Bool.false_and, Bool.or_true, Bool.true_or, Bool.or_false, Bool.false_or, Bool.not_true, Bool.not_false, if_true, if_false, ite_true, ite_false, Bool.false_eq_true, not_true_eq_false, not_false_eq_true, bI_t, bI_f, decide_eq_true_eq, reduceCtorEq]; done) | (simp [Y_ride, c_4, c_11, c_21, c_31, c_55, c_71]; done) | simp_all)
          · refine zw_bipush (v := -6) X dX8_ride_58 bk_m6 ?_
            refine zw_goto (tgt := 64) X dX8_ride_60 (by decide) ?_
            refine zw_iast X dX8_ride_64 sh_43 (in6_of c_4) ?_
            refine zw_aload_0 X dX8_ride_65 ?_
            refine zw_getR X dX8_ride_66 fl_X8_17 ck_X8 sh_42 rfl ?_
            refine zw_iload_1 X dX8_ride_69 ?_
            refine zw_iload_2 X dX8_ride_70 ?_
            refine zw_ifge (tgt := 79) X dX8_ride_71 (by decide) (fun c_71 => ?_) (fun c_71 => ?_)
            · refine zw_iload_3 X dX8_ride_79 ?_
              refine zw_iast X dX8_ride_80 sh_44 (in6_of c_4) ?_
              refine zw_wld (σ' := Y_rdS σ t a b) (by first | (simp only [Y_rdS, c_4, c_11, c_21, c_31, c_55, c_71, decide_true, decide_false, Bool.and_true, Bool.true_and, Bool.and_false, Bool.false_and, Bool.or_true, Bool.true_or, Bool.or_false, Bool.false_or, Bool.not_true, Bool.not_false, if_true, if_false, ite_true, ite_false, Bool.false_eq_true, not_true_eq_false, not_false_eq_true, bI_t, bI_f, decide_eq_true_eq, reduceCtorEq]; done) | (simp [Y_rdS, c_4, c_11, c_21, c_31, c_55, c_71]; done) | simp_all) ?_
              refine zw_iconst (v := 0) X dX8_ride_81 ik_0 ?_
              refine zw_istore_5 X dX8_ride_82 ?_
              refine zw_iconst (v := 0) X dX8_ride_84 ik_0 ?_
              refine zw_istore_6 X dX8_ride_85 ?_
              refine zloop (α := Int32) (S := fun zn za => ∀ (v87_5 : Int32) (v87_6 : Int32), v87_5 = za → v87_6 = nI zn → ZW g 87 [some (.ref 42), some (.int t), some (.int a), some (.int b), some (.int 1), some (.int v87_5), some (.int v87_6)] [] (Y_rdS σ t a b)) (N := (clN (Y_rdS σ t a b 42 0))) (f := (fun n c => c + (if mrd (Y_rdS σ t a b) t (nI n) then 1 else 0))) (a0 := (0 : Int32)) (fun n87 a87 hn87 ha87 ih87 v87_5 v87_6 hv87_5 hv87_6 => ?_) (fun a87 ha87 v87_5 v87_6 hv87_5 hv87_6 => ?_) _ _ rfl rfl
              · subst hv87_5 hv87_6
                refine zw_iload_6 X dX8_ride_87 ?_
                refine zw_aload_0 X dX8_ride_89 ?_
                refine zw_getI X dX8_ride_90 fl_X8_7 ck_X8 sh_42 rfl ?_
                refine zw_icmpge_f (tgt := 122) X dX8_ride_93 (by decide) ((clN_lt (Nat.le_of_lt hn87)).mpr hn87) ?_
                refine zw_iload_5 X dX8_ride_96 ?_
                refine zw_aload_0 X dX8_ride_98 ?_
                refine zw_iload_1 X dX8_ride_99 ?_
                refine zw_iload_6 X dX8_ride_100 ?_
                refine zw_cV_iii X dX8_ride_102 lk_X8_78 ok_MX8_rides vi_MX8_rides rm_X8_ride_X8_rides sh_42 rfl (Nat.le_of_ble_eq_true rfl) (t_X8_rides (in6_of c_4)) ?_
                refine zw_ifeqB (tgt := 112) X dX8_ride_105 (by decide) (fun c_105 => ?_) (fun c_105 => ?_)
                · refine zw_iconst (v := 0) X dX8_ride_112 ik_0 ?_
                  refine zw_iadd X dX8_ride_113 ?_
                  refine zw_istore_5 X dX8_ride_114 ?_
                  refine zw_iinc_6_p1 X dX8_ride_116 ?_
                  refine zw_goto (tgt := 87) X dX8_ride_119 (by decide) ?_
                  exact ih87 _ _ (by first | (simp only [c_4, c_11, c_21, c_31, c_55, c_71, c_105, decide_true, decide_false, Bool.and_true, Bool.true_and, Bool.and_false, Bool.false_and, Bool.or_true, Bool.true_or, Bool.or_false, Bool.false_or, Bool.not_true, Bool.not_false, if_true, if_false, ite_true, ite_false, Bool.false_eq_true, not_true_eq_false, not_false_eq_true, bI_t, bI_f, decide_eq_true_eq, reduceCtorEq]; done) | (simp [c_4, c_11, c_21, c_31, c_55, c_71, c_105]; done) | simp_all) (nI_1 n87)
                · refine zw_iconst (v := 1) X dX8_ride_108 ik_1 ?_
                  refine zw_goto (tgt := 113) X dX8_ride_109 (by decide) ?_
                  refine zw_iadd X dX8_ride_113 ?_
                  refine zw_istore_5 X dX8_ride_114 ?_
                  refine zw_iinc_6_p1 X dX8_ride_116 ?_
                  refine zw_goto (tgt := 87) X dX8_ride_119 (by decide) ?_
                  exact ih87 _ _ (by first | (simp only [c_4, c_11, c_21, c_31, c_55, c_71, c_105, decide_true, decide_false, Bool.and_true, Bool.true_and, Bool.and_false, Bool.false_and, Bool.or_true, Bool.true_or, Bool.or_false, Bool.false_or, Bool.not_true, Bool.not_false, if_true, if_false, ite_true, ite_false, Bool.false_eq_true, not_true_eq_false, not_false_eq_true, bI_t, bI_f, decide_eq_true_eq, reduceCtorEq]; done) | (simp [c_4, c_11, c_21, c_31, c_55, c_71, c_105]; done) | simp_all) (nI_1 n87)
              · subst hv87_5 hv87_6
                refine zw_iload_6 X dX8_ride_87 ?_
                refine zw_aload_0 X dX8_ride_89 ?_
                refine zw_getI X dX8_ride_90 fl_X8_7 ck_X8 sh_42 rfl ?_
                refine zw_icmpge_t (tgt := 122) X dX8_ride_93 (by decide) (fun h => Nat.lt_irrefl _ ((clN_lt (Nat.le_refl _)).mp h)) ?_
                refine zw_iload_5 X dX8_ride_122 ?_
                exact zw_iret X F dX8_ride_124 rfl (by simp only [Y_ride, Y_rdN, ← ha87, c_4, c_11, c_21, c_31, c_55, c_71, decide_true, decide_false, Bool.and_true, Bool.true_and, Bool.and_false, Bool.false_and, Bool.or_true, Bool.true_or, Bool.or_false, Bool.false_or, Bool.not_true, Bool.not_false, if_true, if_false, ite_true, ite_false, Bool.false_eq_true, not_true_eq_false, not_false_eq_true, bI_t, bI_f, decide_eq_true_eq, reduceCtorEq]) (by first | (simp only [Y_ride, c_4, c_11, c_21, c_31, c_55, c_71, decide_true, decide_false, Bool.and_true, Bool.true_and, Bool.and_false, Bool.false_and, Bool.or_true, Bool.true_or, Bool.or_false, Bool.false_or, Bool.not_true, Bool.not_false, if_true, if_false, ite_true, ite_false, Bool.false_eq_true, not_true_eq_false, not_false_eq_true, bI_t, bI_f, decide_eq_true_eq, reduceCtorEq]; done) | (simp [Y_ride, c_4, c_11, c_21, c_31, c_55, c_71]; done) | simp_all)
            · refine zw_bipush (v := -6) X dX8_ride_74 bk_m6 ?_
              refine zw_goto (tgt := 80) X dX8_ride_76 (by decide) ?_
              refine zw_iast X dX8_ride_80 sh_44 (in6_of c_4) ?_
              refine zw_wld (σ' := Y_rdS σ t a b) (by first | (simp only [Y_rdS, c_4, c_11, c_21, c_31, c_55, c_71, decide_true, decide_false, Bool.and_true, Bool.true_and, Bool.and_false, Bool.false_and, Bool.or_true, Bool.true_or, Bool.or_false, Bool.false_or, Bool.not_true, Bool.not_false, if_true, if_false, ite_true, ite_false, Bool.false_eq_true, not_true_eq_false, not_false_eq_true, bI_t, bI_f, decide_eq_true_eq, reduceCtorEq]; done) | (simp [Y_rdS, c_4, c_11, c_21, c_31, c_55, c_71]; done) | simp_all) ?_
              refine zw_iconst (v := 0) X dX8_ride_81 ik_0 ?_
              refine zw_istore_5 X dX8_ride_82 ?_
              refine zw_iconst (v := 0) X dX8_ride_84 ik_0 ?_
              refine zw_istore_6 X dX8_ride_85 ?_
              refine zloop (α := Int32) (S := fun zn za => ∀ (v87_5 : Int32) (v87_6 : Int32), v87_5 = za → v87_6 = nI zn → ZW g 87 [some (.ref 42), some (.int t), some (.int a), some (.int b), some (.int 1), some (.int v87_5), some (.int v87_6)] [] (Y_rdS σ t a b)) (N := (clN (Y_rdS σ t a b 42 0))) (f := (fun n c => c + (if mrd (Y_rdS σ t a b) t (nI n) then 1 else 0))) (a0 := (0 : Int32)) (fun n87 a87 hn87 ha87 ih87 v87_5 v87_6 hv87_5 hv87_6 => ?_) (fun a87 ha87 v87_5 v87_6 hv87_5 hv87_6 => ?_) _ _ rfl rfl
              · subst hv87_5 hv87_6
                refine zw_iload_6 X dX8_ride_87 ?_
                refine zw_aload_0 X dX8_ride_89 ?_
                refine zw_getI X dX8_ride_90 fl_X8_7 ck_X8 sh_42 rfl ?_
                refine zw_icmpge_f (tgt := 122) X dX8_ride_93 (by decide) ((clN_lt (Nat.le_of_lt hn87)).mpr hn87) ?_
                refine zw_iload_5 X dX8_ride_96 ?_
                refine zw_aload_0 X dX8_ride_98 ?_
                refine zw_iload_1 X dX8_ride_99 ?_
                refine zw_iload_6 X dX8_ride_100 ?_
                refine zw_cV_iii X dX8_ride_102 lk_X8_78 ok_MX8_rides vi_MX8_rides rm_X8_ride_X8_rides sh_42 rfl (Nat.le_of_ble_eq_true rfl) (t_X8_rides (in6_of c_4)) ?_
                refine zw_ifeqB (tgt := 112) X dX8_ride_105 (by decide) (fun c_105 => ?_) (fun c_105 => ?_)
                · refine zw_iconst (v := 0) X dX8_ride_112 ik_0 ?_
                  refine zw_iadd X dX8_ride_113 ?_
                  refine zw_istore_5 X dX8_ride_114 ?_
                  refine zw_iinc_6_p1 X dX8_ride_116 ?_
                  refine zw_goto (tgt := 87) X dX8_ride_119 (by decide) ?_
                  exact ih87 _ _ (by first | (simp only [c_4, c_11, c_21, c_31, c_55, c_71, c_105, decide_true, decide_false, Bool.and_true, Bool.true_and, Bool.and_false, Bool.false_and, Bool.or_true, Bool.true_or, Bool.or_false, Bool.false_or, Bool.not_true, Bool.not_false, if_true, if_false, ite_true, ite_false, Bool.false_eq_true, not_true_eq_false, not_false_eq_true, bI_t, bI_f, decide_eq_true_eq, reduceCtorEq]; done) | (simp [c_4, c_11, c_21, c_31, c_55, c_71, c_105]; done) | simp_all) (nI_1 n87)
                · refine zw_iconst (v := 1) X dX8_ride_108 ik_1 ?_
                  refine zw_goto (tgt := 113) X dX8_ride_109 (by decide) ?_
                  refine zw_iadd X dX8_ride_113 ?_
                  refine zw_istore_5 X dX8_ride_114 ?_
                  refine zw_iinc_6_p1 X dX8_ride_116 ?_
                  refine zw_goto (tgt := 87) X dX8_ride_119 (by decide) ?_
                  exact ih87 _ _ (by first | (simp only [c_4, c_11, c_21, c_31, c_55, c_71, c_105, decide_true, decide_false, Bool.and_true, Bool.true_and, Bool.and_false, Bool.false_and, Bool.or_true, Bool.true_or, Bool.or_false, Bool.false_or, Bool.not_true, Bool.not_false, if_true, if_false, ite_true, ite_false, Bool.false_eq_true, not_true_eq_false, not_false_eq_true, bI_t, bI_f, decide_eq_true_eq, reduceCtorEq]; done) | (simp [c_4, c_11, c_21, c_31, c_55, c_71, c_105]; done) | simp_all) (nI_1 n87)
              · subst hv87_5 hv87_6
                refine zw_iload_6 X dX8_ride_87 ?_
                refine zw_aload_0 X dX8_ride_89 ?_
                refine zw_getI X dX8_ride_90 fl_X8_7 ck_X8 sh_42 rfl ?_
                refine zw_icmpge_t (tgt := 122) X dX8_ride_93 (by decide) (fun h => Nat.lt_irrefl _ ((clN_lt (Nat.le_refl _)).mp h)) ?_
                refine zw_iload_5 X dX8_ride_122 ?_
                exact zw_iret X F dX8_ride_124 rfl (by simp only [Y_ride, Y_rdN, ← ha87, c_4, c_11, c_21, c_31, c_55, c_71, decide_true, decide_false, Bool.and_true, Bool.true_and, Bool.and_false, Bool.false_and, Bool.or_true, Bool.true_or, Bool.or_false, Bool.false_or, Bool.not_true, Bool.not_false, if_true, if_false, ite_true, ite_false, Bool.false_eq_true, not_true_eq_false, not_false_eq_true, bI_t, bI_f, decide_eq_true_eq, reduceCtorEq]) (by first | (simp only [Y_ride, c_4, c_11, c_21, c_31, c_55, c_71, decide_true, decide_false, Bool.and_true, Bool.true_and, Bool.and_false, Bool.false_and, Bool.or_true, Bool.true_or, Bool.or_false, Bool.false_or, Bool.not_true, Bool.not_false, if_true, if_false, ite_true, ite_false, Bool.false_eq_true, not_true_eq_false, not_false_eq_true, bI_t, bI_f, decide_eq_true_eq, reduceCtorEq]; done) | (simp [Y_ride, c_4, c_11, c_21, c_31, c_55, c_71]; done) | simp_all)
  · refine zw_iconst (v := -1) X dX8_ride_7 ik_m1 ?_
    exact zw_iret X F dX8_ride_8 rfl (by first | (simp only [Y_ride, c_4, decide_true, decide_false, Bool.and_true, Bool.true_and, Bool.and_false, Bool.false_and, Bool.or_true, Bool.true_or, Bool.or_false, Bool.false_or, Bool.not_true, Bool.not_false, if_true, if_false, ite_true, ite_false, Bool.false_eq_true, not_true_eq_false, not_false_eq_true, bI_t, bI_f, decide_eq_true_eq, reduceCtorEq]; done) | (simp [Y_ride, c_4]; done) | simp_all) (by first | (simp only [Y_ride, c_4, decide_true, decide_false, Bool.and_true, Bool.true_and, Bool.and_false, Bool.false_and, Bool.or_true, Bool.true_or, Bool.or_false, Bool.false_or, Bool.not_true, Bool.not_false, if_true, if_false, ite_true, ite_false, Bool.false_eq_true, not_true_eq_false, not_false_eq_true, bI_t, bI_f, decide_eq_true_eq, reduceCtorEq]; done) | (simp [Y_ride, c_4]; done) | simp_all)
set_option maxRecDepth 20000 in
set_option maxHeartbeats 1000000 in
theorem t_X8_seat {σ : St} {t c : Int32} : Ct MX8_seat [.ref 42, .int t, .int c] σ (some (.int (Y_seat σ t c).1)) ((Y_seat σ t c).2) := by
  refine ct_of (ls0 := [some (.ref 42), some (.int t), some (.int c), none]) ok_MX8_seat rfl (Nat.le_of_ble_eq_true rfl) rfl ?_
  intro g X F
  refine zw_iload_1 X dX8_seat_0 ?_
  refine zw_cS_ii X dX8_seat_1 lk_X8_74 ok_MX8_isOne st_MX8_isOne rm_X8_seat_X8_isOne (Nat.le_of_ble_eq_true rfl) t_X8_isOne ?_
  refine zw_ifeqB (tgt := 14) X dX8_seat_4 (by decide) (fun c_4 => ?_) (fun c_4 => ?_)
  · refine zw_iconst (v := -1) X dX8_seat_14 ik_m1 ?_
    exact zw_iret X F dX8_seat_15 rfl (by first | (simp only [Y_seat, c_4, decide_true, decide_false, Bool.and_true, Bool.true_and, Bool.and_false, Bool.false_and, Bool.or_true, Bool.true_or, Bool.or_false, Bool.false_or, Bool.not_true, Bool.not_false, if_true, if_false, ite_true, ite_false, Bool.false_eq_true, not_true_eq_false, not_false_eq_true, bI_t, bI_f, decide_eq_true_eq, reduceCtorEq]; done) | (simp [Y_seat, c_4]; done) | simp_all) (by first | (simp only [Y_seat, c_4, decide_true, decide_false, Bool.and_true, Bool.true_and, Bool.and_false, Bool.false_and, Bool.or_true, Bool.true_or, Bool.or_false, Bool.false_or, Bool.not_true, Bool.not_false, if_true, if_false, ite_true, ite_false, Bool.false_eq_true, not_true_eq_false, not_false_eq_true, bI_t, bI_f, decide_eq_true_eq, reduceCtorEq]; done) | (simp [Y_seat, c_4]; done) | simp_all)
  · refine zw_iload_2 X dX8_seat_7 ?_
    refine zw_cS_ii X dX8_seat_8 lk_X8_82 ok_MX8_isRoom st_MX8_isRoom rm_X8_seat_X8_isRoom (Nat.le_of_ble_eq_true rfl) t_X8_isRoom ?_
    refine zw_ifneB (tgt := 16) X dX8_seat_11 (by decide) (fun c_11 => ?_) (fun c_11 => ?_)
    · refine zw_aload_0 X dX8_seat_16 ?_
      refine zw_getR X dX8_seat_17 fl_X8_20 ck_X8 sh_42 rfl ?_
      refine zw_iload_1 X dX8_seat_20 ?_
      refine zw_iald X dX8_seat_21 sh_45 (in6_of c_4) ?_
      refine zw_istore_3 X dX8_seat_22 ?_
      refine zw_aload_0 X dX8_seat_23 ?_
      refine zw_getR X dX8_seat_24 fl_X8_20 ck_X8 sh_42 rfl ?_
      refine zw_iload_1 X dX8_seat_27 ?_
      refine zw_iload_2 X dX8_seat_28 ?_
      refine zw_iast X dX8_seat_29 sh_45 (in6_of c_4) ?_
      refine zw_iload_3 X dX8_seat_30 ?_
      exact zw_iret X F dX8_seat_31 rfl (by first | (simp only [Y_seat, c_4, c_11, decide_true, decide_false, Bool.and_true, Bool.true_and, Bool.and_false, Bool.false_and, Bool.or_true, Bool.true_or, Bool.or_false, Bool.false_or, Bool.not_true, Bool.not_false, if_true, if_false, ite_true, ite_false, Bool.false_eq_true, not_true_eq_false, not_false_eq_true, bI_t, bI_f, decide_eq_true_eq, reduceCtorEq]; done) | (simp [Y_seat, c_4, c_11]; done) | simp_all) (by first | (simp only [Y_seat, c_4, c_11, decide_true, decide_false, Bool.and_true, Bool.true_and, Bool.and_false, Bool.false_and, Bool.or_true, Bool.true_or, Bool.or_false, Bool.false_or, Bool.not_true, Bool.not_false, if_true, if_false, ite_true, ite_false, Bool.false_eq_true, not_true_eq_false, not_false_eq_true, bI_t, bI_f, decide_eq_true_eq, reduceCtorEq]; done) | (simp [Y_seat, c_4, c_11]; done) | simp_all)
    · refine zw_iconst (v := -1) X dX8_seat_14 ik_m1 ?_
      exact zw_iret X F dX8_seat_15 rfl (by first | (simp only [Y_seat, c_4, c_11, decide_true, decide_false, Bool.and_true, Bool.true_and, Bool.and_false, Bool.false_and, Bool.or_true, Bool.true_or, Bool.or_false, Bool.false_or, Bool.not_true, Bool.not_false, if_true, if_false, ite_true, ite_false, Bool.false_eq_true, not_true_eq_false, not_false_eq_true, bI_t, bI_f, decide_eq_true_eq, reduceCtorEq]; done) | (simp [Y_seat, c_4, c_11]; done) | simp_all) (by first | (simp only [Y_seat, c_4, c_11, decide_true, decide_false, Bool.and_true, Bool.true_and, Bool.and_false, Bool.false_and, Bool.or_true, Bool.true_or, Bool.or_false, Bool.false_or, Bool.not_true, Bool.not_false, if_true, if_false, ite_true, ite_false, Bool.false_eq_true, not_true_eq_false, not_false_eq_true, bI_t, bI_f, decide_eq_true_eq, reduceCtorEq]; done) | (simp [Y_seat, c_4, c_11]; done) | simp_all)
set_option maxRecDepth 20000 in
set_option maxHeartbeats 1000000 in
theorem t_X8_purse {σ : St} {t v : Int32} : Ct MX8_purse [.ref 42, .int t, .int v] σ (some (.int (Y_purse σ t v).1)) ((Y_purse σ t v).2) := by
  refine ct_of (ls0 := [some (.ref 42), some (.int t), some (.int v), none]) ok_MX8_purse rfl (Nat.le_of_ble_eq_true rfl) rfl ?_
  intro g X F
  refine zw_iload_1 X dX8_purse_0 ?_
  refine zw_cS_ii X dX8_purse_1 lk_X8_74 ok_MX8_isOne st_MX8_isOne rm_X8_purse_X8_isOne (Nat.le_of_ble_eq_true rfl) t_X8_isOne ?_
  refine zw_ifneB (tgt := 9) X dX8_purse_4 (by decide) (fun c_4 => ?_) (fun c_4 => ?_)
  · refine zw_iload_2 X dX8_purse_9 ?_
    refine zw_iconst (v := 0) X dX8_purse_10 ik_0 ?_
    refine zw_sipush (v := 999) X dX8_purse_11 sk_999 ?_
    refine zw_cS_iiii X dX8_purse_14 lk_X8_60 ok_MX8_in st_MX8_in rm_X8_purse_X8_in (Nat.le_of_ble_eq_true rfl) t_X8_in ?_
    refine zw_ifneB (tgt := 23) X dX8_purse_17 (by decide) (fun c_17 => ?_) (fun c_17 => ?_)
    · refine zw_aload_0 X dX8_purse_23 ?_
      refine zw_getR X dX8_purse_24 fl_X8_23 ck_X8 sh_42 rfl ?_
      refine zw_iload_1 X dX8_purse_27 ?_
      refine zw_iald X dX8_purse_28 sh_46 (in6_of c_4) ?_
      refine zw_istore_3 X dX8_purse_29 ?_
      refine zw_aload_0 X dX8_purse_30 ?_
      refine zw_getR X dX8_purse_31 fl_X8_23 ck_X8 sh_42 rfl ?_
      refine zw_iload_1 X dX8_purse_34 ?_
      refine zw_iload_2 X dX8_purse_35 ?_
      refine zw_iast X dX8_purse_36 sh_46 (in6_of c_4) ?_
      refine zw_iload_3 X dX8_purse_37 ?_
      exact zw_iret X F dX8_purse_38 rfl (by first | (simp only [Y_purse, c_4, c_17, decide_true, decide_false, Bool.and_true, Bool.true_and, Bool.and_false, Bool.false_and, Bool.or_true, Bool.true_or, Bool.or_false, Bool.false_or, Bool.not_true, Bool.not_false, if_true, if_false, ite_true, ite_false, Bool.false_eq_true, not_true_eq_false, not_false_eq_true, bI_t, bI_f, decide_eq_true_eq, reduceCtorEq]; done) | (simp [Y_purse, c_4, c_17]; done) | simp_all) (by first | (simp only [Y_purse, c_4, c_17, decide_true, decide_false, Bool.and_true, Bool.true_and, Bool.and_false, Bool.false_and, Bool.or_true, Bool.true_or, Bool.or_false, Bool.false_or, Bool.not_true, Bool.not_false, if_true, if_false, ite_true, ite_false, Bool.false_eq_true, not_true_eq_false, not_false_eq_true, bI_t, bI_f, decide_eq_true_eq, reduceCtorEq]; done) | (simp [Y_purse, c_4, c_17]; done) | simp_all)
    · refine zw_bipush (v := -2) X dX8_purse_20 bk_m2 ?_
      exact zw_iret X F dX8_purse_22 rfl (by first | (simp only [Y_purse, c_4, c_17, decide_true, decide_false, Bool.and_true, Bool.true_and, Bool.and_false, Bool.false_and, Bool.or_true, Bool.true_or, Bool.or_false, Bool.false_or, Bool.not_true, Bool.not_false, if_true, if_false, ite_true, ite_false, Bool.false_eq_true, not_true_eq_false, not_false_eq_true, bI_t, bI_f, decide_eq_true_eq, reduceCtorEq]; done) | (simp [Y_purse, c_4, c_17]; done) | simp_all) (by first | (simp only [Y_purse, c_4, c_17, decide_true, decide_false, Bool.and_true, Bool.true_and, Bool.and_false, Bool.false_and, Bool.or_true, Bool.true_or, Bool.or_false, Bool.false_or, Bool.not_true, Bool.not_false, if_true, if_false, ite_true, ite_false, Bool.false_eq_true, not_true_eq_false, not_false_eq_true, bI_t, bI_f, decide_eq_true_eq, reduceCtorEq]; done) | (simp [Y_purse, c_4, c_17]; done) | simp_all)
  · refine zw_iconst (v := -1) X dX8_purse_7 ik_m1 ?_
    exact zw_iret X F dX8_purse_8 rfl (by first | (simp only [Y_purse, c_4, decide_true, decide_false, Bool.and_true, Bool.true_and, Bool.and_false, Bool.false_and, Bool.or_true, Bool.true_or, Bool.or_false, Bool.false_or, Bool.not_true, Bool.not_false, if_true, if_false, ite_true, ite_false, Bool.false_eq_true, not_true_eq_false, not_false_eq_true, bI_t, bI_f, decide_eq_true_eq, reduceCtorEq]; done) | (simp [Y_purse, c_4]; done) | simp_all) (by first | (simp only [Y_purse, c_4, decide_true, decide_false, Bool.and_true, Bool.true_and, Bool.and_false, Bool.false_and, Bool.or_true, Bool.true_or, Bool.or_false, Bool.false_or, Bool.not_true, Bool.not_false, if_true, if_false, ite_true, ite_false, Bool.false_eq_true, not_true_eq_false, not_false_eq_true, bI_t, bI_f, decide_eq_true_eq, reduceCtorEq]; done) | (simp [Y_purse, c_4]; done) | simp_all)
set_option maxRecDepth 20000 in
set_option maxHeartbeats 1000000 in
theorem t_X8_fine {σ : St} {v : Int32} : Ct MX8_fine [.ref 42, .int v] σ (some (.int (Y_fine σ v).1)) ((Y_fine σ v).2) := by
  refine ct_of (ls0 := [some (.ref 42), some (.int v), none]) ok_MX8_fine rfl (Nat.le_of_ble_eq_true rfl) rfl ?_
  intro g X F
  refine zw_iload_1 X dX8_fine_0 ?_
  refine zw_iconst (v := 0) X dX8_fine_1 ik_0 ?_
  refine zw_bipush (v := 99) X dX8_fine_2 bk_99 ?_
  refine zw_cS_iiii X dX8_fine_4 lk_X8_60 ok_MX8_in st_MX8_in rm_X8_fine_X8_in (Nat.le_of_ble_eq_true rfl) t_X8_in ?_
  refine zw_ifneB (tgt := 13) X dX8_fine_7 (by decide) (fun c_7 => ?_) (fun c_7 => ?_)
  · refine zw_aload_0 X dX8_fine_13 ?_
    refine zw_getI X dX8_fine_14 fl_X8_29 ck_X8 sh_42 rfl ?_
    refine zw_istore_2 X dX8_fine_17 ?_
    refine zw_aload_0 X dX8_fine_18 ?_
    refine zw_iload_1 X dX8_fine_19 ?_
    refine zw_put X dX8_fine_20 fl_X8_29 ck_X8 ft_8_7 sh_42 rfl ?_
    refine zw_iload_2 X dX8_fine_23 ?_
    exact zw_iret X F dX8_fine_24 rfl (by first | (simp only [Y_fine, c_7, decide_true, decide_false, Bool.and_true, Bool.true_and, Bool.and_false, Bool.false_and, Bool.or_true, Bool.true_or, Bool.or_false, Bool.false_or, Bool.not_true, Bool.not_false, if_true, if_false, ite_true, ite_false, Bool.false_eq_true, not_true_eq_false, not_false_eq_true, bI_t, bI_f, decide_eq_true_eq, reduceCtorEq]; done) | (simp [Y_fine, c_7]; done) | simp_all) (by first | (simp only [Y_fine, c_7, decide_true, decide_false, Bool.and_true, Bool.true_and, Bool.and_false, Bool.false_and, Bool.or_true, Bool.true_or, Bool.or_false, Bool.false_or, Bool.not_true, Bool.not_false, if_true, if_false, ite_true, ite_false, Bool.false_eq_true, not_true_eq_false, not_false_eq_true, bI_t, bI_f, decide_eq_true_eq, reduceCtorEq]; done) | (simp [Y_fine, c_7]; done) | simp_all)
  · refine zw_bipush (v := -2) X dX8_fine_10 bk_m2 ?_
    exact zw_iret X F dX8_fine_12 rfl (by first | (simp only [Y_fine, c_7, decide_true, decide_false, Bool.and_true, Bool.true_and, Bool.and_false, Bool.false_and, Bool.or_true, Bool.true_or, Bool.or_false, Bool.false_or, Bool.not_true, Bool.not_false, if_true, if_false, ite_true, ite_false, Bool.false_eq_true, not_true_eq_false, not_false_eq_true, bI_t, bI_f, decide_eq_true_eq, reduceCtorEq]; done) | (simp [Y_fine, c_7]; done) | simp_all) (by first | (simp only [Y_fine, c_7, decide_true, decide_false, Bool.and_true, Bool.true_and, Bool.and_false, Bool.false_and, Bool.or_true, Bool.true_or, Bool.or_false, Bool.false_or, Bool.not_true, Bool.not_false, if_true, if_false, ite_true, ite_false, Bool.false_eq_true, not_true_eq_false, not_false_eq_true, bI_t, bI_f, decide_eq_true_eq, reduceCtorEq]; done) | (simp [Y_fine, c_7]; done) | simp_all)
theorem say_in {x : Int32} {N : Nat} (h : x = nI N) (hN : N ≤ 60) (hx : ¬ x = 60) : vp_in x 60 := by
  have : N ≠ 60 := fun e => hx (by rw [h, e]; rfl)
  rw [h]; exact vp_in_nI (by omega) (by decide)
set_option maxRecDepth 20000 in
set_option maxHeartbeats 1000000 in
theorem t_X8_say {σ : St} {s : Int32} {N : Nat} (hN : σ 42 12 = nI N) (hN6 : N ≤ 60) : Ct MX8_say [.ref 42, .int s] σ (some (.int (Y_say σ s).1)) ((Y_say σ s).2) := by
  refine ct_of (ls0 := [some (.ref 42), some (.int s)]) ok_MX8_say rfl (Nat.le_of_ble_eq_true rfl) rfl ?_
  intro g X F
  refine zw_iload_1 X dX8_say_0 ?_
  refine zw_bipush (v := 33) X dX8_say_1 bk_33 ?_
  refine zw_bipush (v := 126) X dX8_say_3 bk_126 ?_
  refine zw_cS_iiii X dX8_say_5 lk_X8_60 ok_MX8_in st_MX8_in rm_X8_say_X8_in (Nat.le_of_ble_eq_true rfl) t_X8_in ?_
  refine zw_ifneB (tgt := 14) X dX8_say_8 (by decide) (fun c_8 => ?_) (fun c_8 => ?_)
  · refine zw_aload_0 X dX8_say_14 ?_
    refine zw_getI X dX8_say_15 fl_X8_85 ck_X8 sh_42 rfl ?_
    refine zw_bipush (v := 60) X dX8_say_18 bk_60 ?_
    refine zw_icmpne (tgt := 26) X dX8_say_20 (by decide) (fun c_20 => ?_) (fun c_20 => ?_)
    · refine zw_aload_0 X dX8_say_26 ?_
      refine zw_getR X dX8_say_27 fl_X8_35 ck_X8 sh_42 rfl ?_
      refine zw_aload_0 X dX8_say_30 ?_
      refine zw_getI X dX8_say_31 fl_X8_85 ck_X8 sh_42 rfl ?_
      refine zw_iload_1 X dX8_say_34 ?_
      refine zw_iast X dX8_say_35 sh_49 (say_in hN hN6 c_20) ?_
      refine zw_aload_0 X dX8_say_36 ?_
      refine zw_dup_r X dX8_say_37 ?_
      refine zw_getI X dX8_say_38 fl_X8_85 ck_X8 sh_42 rfl ?_
      refine zw_iconst (v := 1) X dX8_say_41 ik_1 ?_
      refine zw_iadd X dX8_say_42 ?_
      refine zw_put X dX8_say_43 fl_X8_85 ck_X8 ft_8_12 sh_42 rfl ?_
      refine zw_aload_0 X dX8_say_46 ?_
      refine zw_getI X dX8_say_47 fl_X8_85 ck_X8 sh_42 rfl ?_
      exact zw_iret X F dX8_say_50 rfl (by first | (simp only [Y_say1, Y_say2, Y_say, c_8, c_20, decide_true, decide_false, Bool.and_true, Bool.true_and, Bool.and_false, Bool.false_and, Bool.or_true, Bool.true_or, Bool.or_false, Bool.false_or, Bool.not_true, Bool.not_false, if_true, if_false, ite_true, ite_false, Bool.false_eq_true, not_true_eq_false, not_false_eq_true, bI_t, bI_f, decide_eq_true_eq, reduceCtorEq]; done) | (simp [Y_say1, Y_say2, Y_say, c_8, c_20]; done) | simp_all) (by first | (simp only [Y_say1, Y_say2, Y_say, c_8, c_20, decide_true, decide_false, Bool.and_true, Bool.true_and, Bool.and_false, Bool.false_and, Bool.or_true, Bool.true_or, Bool.or_false, Bool.false_or, Bool.not_true, Bool.not_false, if_true, if_false, ite_true, ite_false, Bool.false_eq_true, not_true_eq_false, not_false_eq_true, bI_t, bI_f, decide_eq_true_eq, reduceCtorEq]; done) | (simp [Y_say1, Y_say2, Y_say, c_8, c_20]; done) | simp_all)
    · refine zw_bipush (v := -4) X dX8_say_23 bk_m4 ?_
      exact zw_iret X F dX8_say_25 rfl (by first | (simp only [Y_say1, Y_say2, Y_say, c_8, eq_true c_20, decide_true, decide_false, Bool.and_true, Bool.true_and, Bool.and_false, Bool.false_and, Bool.or_true, Bool.true_or, Bool.or_false, Bool.false_or, Bool.not_true, Bool.not_false, if_true, if_false, ite_true, ite_false, Bool.false_eq_true, not_true_eq_false, not_false_eq_true, bI_t, bI_f, decide_eq_true_eq, reduceCtorEq]; done) | (simp [Y_say1, Y_say2, Y_say, c_8, eq_true c_20]; done) | simp_all) (by first | (simp only [Y_say1, Y_say2, Y_say, c_8, eq_true c_20, decide_true, decide_false, Bool.and_true, Bool.true_and, Bool.and_false, Bool.false_and, Bool.or_true, Bool.true_or, Bool.or_false, Bool.false_or, Bool.not_true, Bool.not_false, if_true, if_false, ite_true, ite_false, Bool.false_eq_true, not_true_eq_false, not_false_eq_true, bI_t, bI_f, decide_eq_true_eq, reduceCtorEq]; done) | (simp [Y_say1, Y_say2, Y_say, c_8, eq_true c_20]; done) | simp_all)
  · refine zw_bipush (v := -2) X dX8_say_11 bk_m2 ?_
    exact zw_iret X F dX8_say_13 rfl (by first | (simp only [Y_say1, Y_say2, Y_say, c_8, decide_true, decide_false, Bool.and_true, Bool.true_and, Bool.and_false, Bool.false_and, Bool.or_true, Bool.true_or, Bool.or_false, Bool.false_or, Bool.not_true, Bool.not_false, if_true, if_false, ite_true, ite_false, Bool.false_eq_true, not_true_eq_false, not_false_eq_true, bI_t, bI_f, decide_eq_true_eq, reduceCtorEq]; done) | (simp [Y_say1, Y_say2, Y_say, c_8]; done) | simp_all) (by first | (simp only [Y_say1, Y_say2, Y_say, c_8, decide_true, decide_false, Bool.and_true, Bool.true_and, Bool.and_false, Bool.false_and, Bool.or_true, Bool.true_or, Bool.or_false, Bool.false_or, Bool.not_true, Bool.not_false, if_true, if_false, ite_true, ite_false, Bool.false_eq_true, not_true_eq_false, not_false_eq_true, bI_t, bI_f, decide_eq_true_eq, reduceCtorEq]; done) | (simp [Y_say1, Y_say2, Y_say, c_8]; done) | simp_all)
set_option maxRecDepth 20000 in
set_option maxHeartbeats 1000000 in
theorem t_X8_wipe {σ : St}  : Ct MX8_wipe [.ref 42] σ (some (.int (Y_wipe σ).1)) ((Y_wipe σ).2) := by
  refine ct_of (ls0 := [some (.ref 42), none]) ok_MX8_wipe rfl (Nat.le_of_ble_eq_true rfl) rfl ?_
  intro g X F
  refine zw_aload_0 X dX8_wipe_0 ?_
  refine zw_getI X dX8_wipe_1 fl_X8_85 ck_X8 sh_42 rfl ?_
  refine zw_istore_1 X dX8_wipe_4 ?_
  refine zw_aload_0 X dX8_wipe_5 ?_
  refine zw_iconst (v := 0) X dX8_wipe_6 ik_0 ?_
  refine zw_put X dX8_wipe_7 fl_X8_85 ck_X8 ft_8_12 sh_42 rfl ?_
  refine zw_iload_1 X dX8_wipe_10 ?_
  exact zw_iret X F dX8_wipe_11 rfl (by first | (simp only [Y_wipe, decide_true, decide_false, Bool.and_true, Bool.true_and, Bool.and_false, Bool.false_and, Bool.or_true, Bool.true_or, Bool.or_false, Bool.false_or, Bool.not_true, Bool.not_false, if_true, if_false, ite_true, ite_false, Bool.false_eq_true, not_true_eq_false, not_false_eq_true, bI_t, bI_f, decide_eq_true_eq, reduceCtorEq]; done) | (simp [Y_wipe]; done) | simp_all) (by first | (simp only [Y_wipe, decide_true, decide_false, Bool.and_true, Bool.true_and, Bool.and_false, Bool.false_and, Bool.or_true, Bool.true_or, Bool.or_false, Bool.false_or, Bool.not_true, Bool.not_false, if_true, if_false, ite_true, ite_false, Bool.false_eq_true, not_true_eq_false, not_false_eq_true, bI_t, bI_f, decide_eq_true_eq, reduceCtorEq]; done) | (simp [Y_wipe]; done) | simp_all)
set_option maxRecDepth 20000 in
set_option maxHeartbeats 1000000 in
theorem t_X8_holds {σ : St} {c : Int32} : Ct MX8_holds [.ref 42, .int c] σ (some (.int (Y_holds σ c).1)) ((Y_holds σ c).2) := by
  refine ct_of (ls0 := [some (.ref 42), some (.int c)]) ok_MX8_holds rfl (Nat.le_of_ble_eq_true rfl) rfl ?_
  intro g X F
  refine zw_iload_1 X dX8_holds_0 ?_
  refine zw_cS_ii X dX8_holds_1 lk_X8_82 ok_MX8_isRoom st_MX8_isRoom rm_X8_holds_X8_isRoom (Nat.le_of_ble_eq_true rfl) t_X8_isRoom ?_
  refine zw_ifneB (tgt := 9) X dX8_holds_4 (by decide) (fun c_4 => ?_) (fun c_4 => ?_)
  · refine zw_aload_0 X dX8_holds_9 ?_
    refine zw_cV_nv X dX8_holds_10 lk_X8_125 ok_MX8_asNow vi_MX8_asNow rm_X8_holds_X8_asNow sh_42 rfl (Nat.le_of_ble_eq_true rfl) t_X8_asNow ?_
    refine zw_aload_0 X dX8_holds_13 ?_
    refine zw_iload_1 X dX8_holds_14 ?_
    refine zw_cV_ii X dX8_holds_15 lk_X8_116 ok_MX8_holder vi_MX8_holder rm_X8_holds_X8_holder sh_42 rfl (Nat.le_of_ble_eq_true rfl) t_X8_holder ?_
    exact zw_iret X F dX8_holds_18 rfl (by first | (simp only [Y_holds, c_4, decide_true, decide_false, Bool.and_true, Bool.true_and, Bool.and_false, Bool.false_and, Bool.or_true, Bool.true_or, Bool.or_false, Bool.false_or, Bool.not_true, Bool.not_false, if_true, if_false, ite_true, ite_false, Bool.false_eq_true, not_true_eq_false, not_false_eq_true, bI_t, bI_f, decide_eq_true_eq, reduceCtorEq]; done) | (simp [Y_holds, c_4]; done) | simp_all) (by first | (simp only [Y_holds, c_4, decide_true, decide_false, Bool.and_true, Bool.true_and, Bool.and_false, Bool.false_and, Bool.or_true, Bool.true_or, Bool.or_false, Bool.false_or, Bool.not_true, Bool.not_false, if_true, if_false, ite_true, ite_false, Bool.false_eq_true, not_true_eq_false, not_false_eq_true, bI_t, bI_f, decide_eq_true_eq, reduceCtorEq]; done) | (simp [Y_holds, c_4]; done) | simp_all)
  · refine zw_iconst (v := -1) X dX8_holds_7 ik_m1 ?_
    exact zw_iret X F dX8_holds_8 rfl (by first | (simp only [Y_holds, c_4, decide_true, decide_false, Bool.and_true, Bool.true_and, Bool.and_false, Bool.false_and, Bool.or_true, Bool.true_or, Bool.or_false, Bool.false_or, Bool.not_true, Bool.not_false, if_true, if_false, ite_true, ite_false, Bool.false_eq_true, not_true_eq_false, not_false_eq_true, bI_t, bI_f, decide_eq_true_eq, reduceCtorEq]; done) | (simp [Y_holds, c_4]; done) | simp_all) (by first | (simp only [Y_holds, c_4, decide_true, decide_false, Bool.and_true, Bool.true_and, Bool.and_false, Bool.false_and, Bool.or_true, Bool.true_or, Bool.or_false, Bool.false_or, Bool.not_true, Bool.not_false, if_true, if_false, ite_true, ite_false, Bool.false_eq_true, not_true_eq_false, not_false_eq_true, bI_t, bI_f, decide_eq_true_eq, reduceCtorEq]; done) | (simp [Y_holds, c_4]; done) | simp_all)
set_option maxRecDepth 20000 in
set_option maxHeartbeats 1000000 in
theorem t_X8_hears {σ : St} {t : Int32} : Ct MX8_hears [.ref 42, .int t] σ (some (.int (Y_hears σ t).1)) ((Y_hears σ t).2) := by
  refine ct_of (ls0 := [some (.ref 42), some (.int t), none, none]) ok_MX8_hears rfl (Nat.le_of_ble_eq_true rfl) rfl ?_
  intro g X F
  refine zw_iload_1 X dX8_hears_0 ?_
  refine zw_cS_ii X dX8_hears_1 lk_X8_74 ok_MX8_isOne st_MX8_isOne rm_X8_hears_X8_isOne (Nat.le_of_ble_eq_true rfl) t_X8_isOne ?_
  refine zw_ifneB (tgt := 9) X dX8_hears_4 (by decide) (fun c_4 => ?_) (fun c_4 => ?_)
  · refine zw_aload_0 X dX8_hears_9 ?_
    refine zw_cV_nv X dX8_hears_10 lk_X8_125 ok_MX8_asNow vi_MX8_asNow rm_X8_hears_X8_asNow sh_42 rfl (Nat.le_of_ble_eq_true rfl) t_X8_asNow ?_
    refine zw_aload_0 X dX8_hears_13 ?_
    refine zw_iload_1 X dX8_hears_14 ?_
    refine zw_cV_ii X dX8_hears_15 lk_X8_122 ok_MX8_maySpeak vi_MX8_maySpeak rm_X8_hears_X8_maySpeak sh_42 rfl (Nat.le_of_ble_eq_true rfl) (t_X8_maySpeak (in6_of c_4)) ?_
    refine zw_ifneB (tgt := 24) X dX8_hears_18 (by decide) (fun c_18 => ?_) (fun c_18 => ?_)
    · refine zw_iconst (v := 0) X dX8_hears_24 ik_0 ?_
      refine zw_istore_2 X dX8_hears_25 ?_
      refine zw_iconst (v := 0) X dX8_hears_26 ik_0 ?_
      refine zw_istore_3 X dX8_hears_27 ?_
      refine zloop (α := Int32) (S := fun zn za => ∀ (v28_2 : Int32) (v28_3 : Int32), v28_2 = za → v28_3 = nI zn → ZW g 28 [some (.ref 42), some (.int t), some (.int v28_2), some (.int v28_3)] [] (mNow σ)) (N := 6) (f := (Y_heF (mNow σ) t)) (a0 := (0 : Int32)) (fun n28 a28 hn28 ha28 ih28 v28_2 v28_3 hv28_2 hv28_3 => ?_) (fun a28 ha28 v28_2 v28_3 hv28_2 hv28_3 => ?_) _ _ rfl rfl
      · subst hv28_2 hv28_3
        refine zw_iload_3 X dX8_hears_28 ?_
        refine zw_bipush (v := 6) X dX8_hears_29 bk_6 ?_
        refine zw_icmpge_f (tgt := 78) X dX8_hears_31 (by decide) (nI_lt hn28 (by decide)) ?_
        refine zw_iload_2 X dX8_hears_34 ?_
        refine zw_iload_3 X dX8_hears_35 ?_
        refine zw_iload_1 X dX8_hears_36 ?_
        refine zw_icmpeq (tgt := 69) X dX8_hears_37 (by decide) (fun c_37 => ?_) (fun c_37 => ?_)
        · refine zw_iconst (v := 0) X dX8_hears_69 ik_0 ?_
          refine zw_ior X dX8_hears_70 ?_
          refine zw_istore_2 X dX8_hears_71 ?_
          refine zw_iinc_3_p1 X dX8_hears_72 ?_
          refine zw_goto (tgt := 28) X dX8_hears_75 (by decide) ?_
          exact ih28 _ _ (by first | (simp only [Y_heF, c_4, c_18, eq_true c_37, decide_true, decide_false, Bool.and_true, Bool.true_and, Bool.and_false, Bool.false_and, Bool.or_true, Bool.true_or, Bool.or_false, Bool.false_or, Bool.not_true, Bool.not_false, if_true, if_false, ite_true, ite_false, Bool.false_eq_true, not_true_eq_false, not_false_eq_true, bI_t, bI_f, decide_eq_true_eq, reduceCtorEq]; done) | (simp [Y_heF, c_4, c_18, eq_true c_37]; done) | simp_all) (nI_1 n28)
        · refine zw_aload_0 X dX8_hears_40 ?_
          refine zw_iload_3 X dX8_hears_41 ?_
          refine zw_cV_ii X dX8_hears_42 lk_X8_119 ok_MX8_ridesNow vi_MX8_ridesNow rm_X8_hears_X8_ridesNow sh_42 rfl (Nat.le_of_ble_eq_true rfl) (t_X8_ridesNow (vp_in_nI hn28 (by decide))) ?_
          refine zw_ifeqB (tgt := 69) X dX8_hears_45 (by decide) (fun c_45 => ?_) (fun c_45 => ?_)
          · refine zw_iconst (v := 0) X dX8_hears_69 ik_0 ?_
            refine zw_ior X dX8_hears_70 ?_
            refine zw_istore_2 X dX8_hears_71 ?_
            refine zw_iinc_3_p1 X dX8_hears_72 ?_
            refine zw_goto (tgt := 28) X dX8_hears_75 (by decide) ?_
            exact ih28 _ _ (by first | (simp only [Y_heF, c_4, c_18, c_37, c_45, decide_true, decide_false, Bool.and_true, Bool.true_and, Bool.and_false, Bool.false_and, Bool.or_true, Bool.true_or, Bool.or_false, Bool.false_or, Bool.not_true, Bool.not_false, if_true, if_false, ite_true, ite_false, Bool.false_eq_true, not_true_eq_false, not_false_eq_true, bI_t, bI_f, decide_eq_true_eq, reduceCtorEq]; done) | (simp [Y_heF, c_4, c_18, c_37, c_45]; done) | simp_all) (nI_1 n28)
          · refine zw_aload_0 X dX8_hears_48 ?_
            refine zw_getR X dX8_hears_49 fl_X8_20 ck_X8 sh_42 rfl ?_
            refine zw_iload_3 X dX8_hears_52 ?_
            refine zw_ialdN X dX8_hears_53 sh_45 hn28 (by decide) ?_
            refine zw_aload_0 X dX8_hears_54 ?_
            refine zw_getR X dX8_hears_55 fl_X8_20 ck_X8 sh_42 rfl ?_
            refine zw_iload_1 X dX8_hears_58 ?_
            refine zw_iald X dX8_hears_59 sh_45 (in6_of c_4) ?_
            refine zw_icmpne (tgt := 69) X dX8_hears_60 (by decide) (fun c_60 => ?_) (fun c_60 => ?_)
            · refine zw_iconst (v := 0) X dX8_hears_69 ik_0 ?_
              refine zw_ior X dX8_hears_70 ?_
              refine zw_istore_2 X dX8_hears_71 ?_
              refine zw_iinc_3_p1 X dX8_hears_72 ?_
              refine zw_goto (tgt := 28) X dX8_hears_75 (by decide) ?_
              exact ih28 _ _ (by first | (simp only [Y_heF, c_4, c_18, c_37, c_45, c_60, decide_true, decide_false, Bool.and_true, Bool.true_and, Bool.and_false, Bool.false_and, Bool.or_true, Bool.true_or, Bool.or_false, Bool.false_or, Bool.not_true, Bool.not_false, if_true, if_false, ite_true, ite_false, Bool.false_eq_true, not_true_eq_false, not_false_eq_true, bI_t, bI_f, decide_eq_true_eq, reduceCtorEq]; done) | (simp [Y_heF, c_4, c_18, c_37, c_45, c_60]; done) | simp_all) (nI_1 n28)
            · refine zw_iconst (v := 1) X dX8_hears_63 ik_1 ?_
              refine zw_iload_3 X dX8_hears_64 ?_
              refine zw_ishl X dX8_hears_65 ?_
              refine zw_goto (tgt := 70) X dX8_hears_66 (by decide) ?_
              refine zw_ior X dX8_hears_70 ?_
              refine zw_istore_2 X dX8_hears_71 ?_
              refine zw_iinc_3_p1 X dX8_hears_72 ?_
              refine zw_goto (tgt := 28) X dX8_hears_75 (by decide) ?_
              exact ih28 _ _ (by first | (simp only [Y_heF, c_4, c_18, c_37, c_45, eq_true c_60, decide_true, decide_false, Bool.and_true, Bool.true_and, Bool.and_false, Bool.false_and, Bool.or_true, Bool.true_or, Bool.or_false, Bool.false_or, Bool.not_true, Bool.not_false, if_true, if_false, ite_true, ite_false, Bool.false_eq_true, not_true_eq_false, not_false_eq_true, bI_t, bI_f, decide_eq_true_eq, reduceCtorEq]; done) | (simp [Y_heF, c_4, c_18, c_37, c_45, eq_true c_60]; done) | simp_all) (nI_1 n28)
      · subst hv28_2 hv28_3
        refine zw_iload_3 X dX8_hears_28 ?_
        refine zw_bipush (v := 6) X dX8_hears_29 bk_6 ?_
        refine zw_icmpge_t (tgt := 78) X dX8_hears_31 (by decide) (by decide) ?_
        refine zw_iload_2 X dX8_hears_78 ?_
        exact zw_iret X F dX8_hears_79 rfl (by simp only [Y_hears, ← ha28, c_4, c_18, decide_true, decide_false, Bool.and_true, Bool.true_and, Bool.and_false, Bool.false_and, Bool.or_true, Bool.true_or, Bool.or_false, Bool.false_or, Bool.not_true, Bool.not_false, if_true, if_false, ite_true, ite_false, Bool.false_eq_true, not_true_eq_false, not_false_eq_true, bI_t, bI_f, decide_eq_true_eq, reduceCtorEq]) (by first | (simp only [Y_hears, c_4, c_18, decide_true, decide_false, Bool.and_true, Bool.true_and, Bool.and_false, Bool.false_and, Bool.or_true, Bool.true_or, Bool.or_false, Bool.false_or, Bool.not_true, Bool.not_false, if_true, if_false, ite_true, ite_false, Bool.false_eq_true, not_true_eq_false, not_false_eq_true, bI_t, bI_f, decide_eq_true_eq, reduceCtorEq]; done) | (simp [Y_hears, c_4, c_18]; done) | simp_all)
    · refine zw_bipush (v := -6) X dX8_hears_21 bk_m6 ?_
      exact zw_iret X F dX8_hears_23 rfl (by first | (simp only [Y_hears, c_4, c_18, decide_true, decide_false, Bool.and_true, Bool.true_and, Bool.and_false, Bool.false_and, Bool.or_true, Bool.true_or, Bool.or_false, Bool.false_or, Bool.not_true, Bool.not_false, if_true, if_false, ite_true, ite_false, Bool.false_eq_true, not_true_eq_false, not_false_eq_true, bI_t, bI_f, decide_eq_true_eq, reduceCtorEq]; done) | (simp [Y_hears, c_4, c_18]; done) | simp_all) (by first | (simp only [Y_hears, c_4, c_18, decide_true, decide_false, Bool.and_true, Bool.true_and, Bool.and_false, Bool.false_and, Bool.or_true, Bool.true_or, Bool.or_false, Bool.false_or, Bool.not_true, Bool.not_false, if_true, if_false, ite_true, ite_false, Bool.false_eq_true, not_true_eq_false, not_false_eq_true, bI_t, bI_f, decide_eq_true_eq, reduceCtorEq]; done) | (simp [Y_hears, c_4, c_18]; done) | simp_all)
  · refine zw_iconst (v := -1) X dX8_hears_7 ik_m1 ?_
    exact zw_iret X F dX8_hears_8 rfl (by first | (simp only [Y_hears, c_4, decide_true, decide_false, Bool.and_true, Bool.true_and, Bool.and_false, Bool.false_and, Bool.or_true, Bool.true_or, Bool.or_false, Bool.false_or, Bool.not_true, Bool.not_false, if_true, if_false, ite_true, ite_false, Bool.false_eq_true, not_true_eq_false, not_false_eq_true, bI_t, bI_f, decide_eq_true_eq, reduceCtorEq]; done) | (simp [Y_hears, c_4]; done) | simp_all) (by first | (simp only [Y_hears, c_4, decide_true, decide_false, Bool.and_true, Bool.true_and, Bool.and_false, Bool.false_and, Bool.or_true, Bool.true_or, Bool.or_false, Bool.false_or, Bool.not_true, Bool.not_false, if_true, if_false, ite_true, ite_false, Bool.false_eq_true, not_true_eq_false, not_false_eq_true, bI_t, bI_f, decide_eq_true_eq, reduceCtorEq]; done) | (simp [Y_hears, c_4]; done) | simp_all)
theorem mfGo_end {n : Nat} {τ : St} (h : ¬ τ 42 16 < τ 42 0) : mfGo (n + 1) τ = τ := by rw [mfGo, if_neg h]
theorem mfGo_stepF {g : Gt} {M : Mt} {c : Int32} {n : Nat} {τ : St} (F : FnZ g M (some (.int (mhold (mfGo (n + 1) τ) c))) (mfGo (n + 1) τ)) (h : τ 42 16 < τ 42 0) : FnZ g M (some (.int (mhold (mfGo n (mpas τ)) c))) (mfGo n (mpas τ)) := by
  rw [mfGo, if_pos h] at F; exact F
set_option maxRecDepth 20000 in
set_option maxHeartbeats 4000000 in
theorem l_X8_forecast {g : Gt} (X : CX g MX8_forecast) {c d : Int32} : ∀ (n j : Nat) (τ : St), j + n = clN d → FnZ g MX8_forecast (some (.int (mhold (mfGo n τ) c))) (mfGo n τ) → ZW g 28 [some (.ref 42), some (.int c), some (.int d), some (.int (nI j))] [] τ := by
  intro n
  induction n with
  | zero =>
    intro j τ hjn F
    have hj : j = clN d := by omega
    subst hj
    refine zw_iload_3 X dX8_forecast_28 ?_
    refine zw_iload_2 X dX8_forecast_29 ?_
    refine zw_icmpge_t (tgt := 54) X dX8_forecast_30 (by decide) (fun h => Nat.lt_irrefl _ ((clN_lt (Nat.le_refl _)).mp h)) ?_
    refine zw_aload_0 X dX8_forecast_54 ?_
    refine zw_iload_1 X dX8_forecast_55 ?_
    refine zw_cV_ii X dX8_forecast_56 lk_X8_116 ok_MX8_holder vi_MX8_holder rm_X8_forecast_X8_holder sh_42 rfl (Nat.le_of_ble_eq_true rfl) t_X8_holder ?_
    exact zw_iret X F dX8_forecast_59 rfl rfl rfl
  | succ n ih =>
    intro j τ hjn F
    refine zw_iload_3 X dX8_forecast_28 ?_
    refine zw_iload_2 X dX8_forecast_29 ?_
    refine zw_icmpge_f (tgt := 54) X dX8_forecast_30 (by decide) ((clN_lt (L := d) (n := j) (by omega)).mpr (by omega)) ?_
    refine zw_aload_0 X dX8_forecast_33 ?_
    refine zw_getI X dX8_forecast_34 fl_X8_98 ck_X8 sh_42 rfl ?_
    refine zw_aload_0 X dX8_forecast_37 ?_
    refine zw_getI X dX8_forecast_38 fl_X8_7 ck_X8 sh_42 rfl ?_
    refine zw_icmpge (tgt := 54) X dX8_forecast_41 (by decide) (fun c_41 => ?_) (fun c_41 => ?_)
    · refine zw_aload_0 X dX8_forecast_54 ?_
      refine zw_iload_1 X dX8_forecast_55 ?_
      refine zw_cV_ii X dX8_forecast_56 lk_X8_116 ok_MX8_holder vi_MX8_holder rm_X8_forecast_X8_holder sh_42 rfl (Nat.le_of_ble_eq_true rfl) t_X8_holder ?_
      exact zw_iret X F dX8_forecast_59 rfl (by rw [mfGo_end c_41]) (by rw [mfGo_end c_41])
    · refine zw_aload_0 X dX8_forecast_44 ?_
      refine zw_cV_nv X dX8_forecast_45 lk_X8_134 ok_MX8_pass vi_MX8_pass rm_X8_forecast_X8_pass sh_42 rfl (Nat.le_of_ble_eq_true rfl) t_X8_pass ?_
      refine zw_iinc_3_p1 X dX8_forecast_48 ?_
      refine zw_goto (tgt := 28) X dX8_forecast_51 (by decide) ?_
      rw [nI_1]
      exact ih (j + 1) _ (by omega) (mfGo_stepF F c_41)
set_option maxRecDepth 20000 in
set_option maxHeartbeats 1000000 in
theorem t_X8_forecast {σ : St} {c d : Int32} : Ct MX8_forecast [.ref 42, .int c, .int d] σ (some (.int (Y_fore σ c d).1)) ((Y_fore σ c d).2) := by
  refine ct_of (ls0 := [some (.ref 42), some (.int c), some (.int d), none]) ok_MX8_forecast rfl (Nat.le_of_ble_eq_true rfl) rfl ?_
  intro g X F
  refine zw_iload_1 X dX8_forecast_0 ?_
  refine zw_cS_ii X dX8_forecast_1 lk_X8_82 ok_MX8_isRoom st_MX8_isRoom rm_X8_forecast_X8_isRoom (Nat.le_of_ble_eq_true rfl) t_X8_isRoom ?_
  refine zw_ifneB (tgt := 9) X dX8_forecast_4 (by decide) (fun c_4 => ?_) (fun c_4 => ?_)
  · refine zw_iload_2 X dX8_forecast_9 ?_
    refine zw_iconst (v := 0) X dX8_forecast_10 ik_0 ?_
    refine zw_bipush (v := 30) X dX8_forecast_11 bk_30 ?_
    refine zw_cS_iiii X dX8_forecast_13 lk_X8_60 ok_MX8_in st_MX8_in rm_X8_forecast_X8_in (Nat.le_of_ble_eq_true rfl) t_X8_in ?_
    refine zw_ifneB (tgt := 22) X dX8_forecast_16 (by decide) (fun c_16 => ?_) (fun c_16 => ?_)
    · refine zw_aload_0 X dX8_forecast_22 ?_
      refine zw_cV_nv X dX8_forecast_23 lk_X8_125 ok_MX8_asNow vi_MX8_asNow rm_X8_forecast_X8_asNow sh_42 rfl (Nat.le_of_ble_eq_true rfl) t_X8_asNow ?_
      refine zw_iconst (v := 0) X dX8_forecast_26 ik_0 ?_
      refine zw_istore_3 X dX8_forecast_27 ?_
      refine l_X8_forecast X (clN d) 0 _ (Nat.zero_add _) ?_
      simp only [Y_fore, c_4, c_16, if_true] at F
      exact F
    · refine zw_bipush (v := -2) X dX8_forecast_19 bk_m2 ?_
      exact zw_iret X F dX8_forecast_21 rfl (by first | (simp only [Y_fore, c_4, c_16, decide_true, decide_false, Bool.and_true, Bool.true_and, Bool.and_false, Bool.false_and, Bool.or_true, Bool.true_or, Bool.or_false, Bool.false_or, Bool.not_true, Bool.not_false, if_true, if_false, ite_true, ite_false, Bool.false_eq_true, not_true_eq_false, not_false_eq_true, bI_t, bI_f, decide_eq_true_eq, reduceCtorEq]; done) | (simp [Y_fore, c_4, c_16]; done) | simp_all) (by first | (simp only [Y_fore, c_4, c_16, decide_true, decide_false, Bool.and_true, Bool.true_and, Bool.and_false, Bool.false_and, Bool.or_true, Bool.true_or, Bool.or_false, Bool.false_or, Bool.not_true, Bool.not_false, if_true, if_false, ite_true, ite_false, Bool.false_eq_true, not_true_eq_false, not_false_eq_true, bI_t, bI_f, decide_eq_true_eq, reduceCtorEq]; done) | (simp [Y_fore, c_4, c_16]; done) | simp_all)
  · refine zw_iconst (v := -1) X dX8_forecast_7 ik_m1 ?_
    exact zw_iret X F dX8_forecast_8 rfl (by first | (simp only [Y_fore, c_4, decide_true, decide_false, Bool.and_true, Bool.true_and, Bool.and_false, Bool.false_and, Bool.or_true, Bool.true_or, Bool.or_false, Bool.false_or, Bool.not_true, Bool.not_false, if_true, if_false, ite_true, ite_false, Bool.false_eq_true, not_true_eq_false, not_false_eq_true, bI_t, bI_f, decide_eq_true_eq, reduceCtorEq]; done) | (simp [Y_fore, c_4]; done) | simp_all) (by first | (simp only [Y_fore, c_4, decide_true, decide_false, Bool.and_true, Bool.true_and, Bool.and_false, Bool.false_and, Bool.or_true, Bool.true_or, Bool.or_false, Bool.false_or, Bool.not_true, Bool.not_false, if_true, if_false, ite_true, ite_false, Bool.false_eq_true, not_true_eq_false, not_false_eq_true, bI_t, bI_f, decide_eq_true_eq, reduceCtorEq]; done) | (simp [Y_fore, c_4]; done) | simp_all)
set_option maxRecDepth 20000 in
set_option maxHeartbeats 1000000 in
theorem t_X8_toEnd {σ : St}  : Ct MX8_toEnd [.ref 42] σ (none) (mEnd σ) := by
  refine ct_of (ls0 := [some (.ref 42)]) ok_MX8_toEnd rfl (Nat.le_of_ble_eq_true rfl) rfl ?_
  intro g X F
  refine zloop (α := St) (S := fun zn za => ∀ (s0 : St), s0 = za → ZW g 0 [some (.ref 42)] [] s0) (N := (cnt (σ 42 16) (σ 42 0))) (f := (fun _ τ => mpas τ)) (a0 := σ) (fun n0 a0 hn0 ha0 ih0 s0 hs0 => ?_) (fun a0 ha0 s0 hs0 => ?_) _ rfl
  · subst hs0
    refine zw_aload_0 X dX8_toEnd_0 ?_
    refine zw_getI X dX8_toEnd_1 fl_X8_98 ck_X8 sh_42 rfl ?_
    refine zw_aload_0 X dX8_toEnd_4 ?_
    refine zw_getI X dX8_toEnd_5 fl_X8_7 ck_X8 sh_42 rfl ?_
    refine zw_icmpge_f (tgt := 18) X dX8_toEnd_8 (by decide) ((run_lt ha0 (Nat.le_of_lt hn0)).mpr hn0) ?_
    refine zw_aload_0 X dX8_toEnd_11 ?_
    refine zw_cV_nv X dX8_toEnd_12 lk_X8_134 ok_MX8_pass vi_MX8_pass rm_X8_toEnd_X8_pass sh_42 rfl (Nat.le_of_ble_eq_true rfl) t_X8_pass ?_
    refine zw_goto (tgt := 0) X dX8_toEnd_15 (by decide) ?_
    exact ih0 _ (by first | rfl | (simp only [decide_true, decide_false, Bool.and_true, Bool.true_and, Bool.and_false, Bool.false_and, Bool.or_true, Bool.true_or, Bool.or_false, Bool.false_or, Bool.not_true, Bool.not_false, if_true, if_false, ite_true, ite_false, Bool.false_eq_true, not_true_eq_false, not_false_eq_true, bI_t, bI_f, decide_eq_true_eq, reduceCtorEq]; done) | (simp; done) | simp_all)
  · subst hs0
    refine zw_aload_0 X dX8_toEnd_0 ?_
    refine zw_getI X dX8_toEnd_1 fl_X8_98 ck_X8 sh_42 rfl ?_
    refine zw_aload_0 X dX8_toEnd_4 ?_
    refine zw_getI X dX8_toEnd_5 fl_X8_7 ck_X8 sh_42 rfl ?_
    refine zw_icmpge_t (tgt := 18) X dX8_toEnd_8 (by decide) (fun h => Nat.lt_irrefl _ ((run_lt ha0 (Nat.le_refl _)).mp h)) ?_
    exact zw_vret X F dX8_toEnd_18 rfl (ha0)
set_option maxRecDepth 20000 in
set_option maxHeartbeats 1000000 in
theorem t_X8_rests {σ : St} {t : Int32} : Ct MX8_rests [.ref 42, .int t] σ (some (.int (Y_rests σ t).1)) ((Y_rests σ t).2) := by
  refine ct_of (ls0 := [some (.ref 42), some (.int t)]) ok_MX8_rests rfl (Nat.le_of_ble_eq_true rfl) rfl ?_
  intro g X F
  refine zw_iload_1 X dX8_rests_0 ?_
  refine zw_cS_ii X dX8_rests_1 lk_X8_74 ok_MX8_isOne st_MX8_isOne rm_X8_rests_X8_isOne (Nat.le_of_ble_eq_true rfl) t_X8_isOne ?_
  refine zw_ifneB (tgt := 9) X dX8_rests_4 (by decide) (fun c_4 => ?_) (fun c_4 => ?_)
  · refine zw_aload_0 X dX8_rests_9 ?_
    refine zw_cV_nv X dX8_rests_10 lk_X8_125 ok_MX8_asNow vi_MX8_asNow rm_X8_rests_X8_asNow sh_42 rfl (Nat.le_of_ble_eq_true rfl) t_X8_asNow ?_
    refine zw_aload_0 X dX8_rests_13 ?_
    refine zw_cV_nv X dX8_rests_14 lk_X8_151 ok_MX8_toEnd vi_MX8_toEnd rm_X8_rests_X8_toEnd sh_42 rfl (Nat.le_of_ble_eq_true rfl) t_X8_toEnd ?_
    refine zw_aload_0 X dX8_rests_17 ?_
    refine zw_getR X dX8_rests_18 fl_X8_38 ck_X8 sh_42 rfl ?_
    refine zw_iload_1 X dX8_rests_21 ?_
    refine zw_iald X dX8_rests_22 sh_50 (in6_of c_4) ?_
    exact zw_iret X F dX8_rests_23 rfl (by first | (simp only [Y_rests, c_4, decide_true, decide_false, Bool.and_true, Bool.true_and, Bool.and_false, Bool.false_and, Bool.or_true, Bool.true_or, Bool.or_false, Bool.false_or, Bool.not_true, Bool.not_false, if_true, if_false, ite_true, ite_false, Bool.false_eq_true, not_true_eq_false, not_false_eq_true, bI_t, bI_f, decide_eq_true_eq, reduceCtorEq]; done) | (simp [Y_rests, c_4]; done) | simp_all) (by first | (simp only [Y_rests, c_4, decide_true, decide_false, Bool.and_true, Bool.true_and, Bool.and_false, Bool.false_and, Bool.or_true, Bool.true_or, Bool.or_false, Bool.false_or, Bool.not_true, Bool.not_false, if_true, if_false, ite_true, ite_false, Bool.false_eq_true, not_true_eq_false, not_false_eq_true, bI_t, bI_f, decide_eq_true_eq, reduceCtorEq]; done) | (simp [Y_rests, c_4]; done) | simp_all)
  · refine zw_iconst (v := -1) X dX8_rests_7 ik_m1 ?_
    exact zw_iret X F dX8_rests_8 rfl (by first | (simp only [Y_rests, c_4, decide_true, decide_false, Bool.and_true, Bool.true_and, Bool.and_false, Bool.false_and, Bool.or_true, Bool.true_or, Bool.or_false, Bool.false_or, Bool.not_true, Bool.not_false, if_true, if_false, ite_true, ite_false, Bool.false_eq_true, not_true_eq_false, not_false_eq_true, bI_t, bI_f, decide_eq_true_eq, reduceCtorEq]; done) | (simp [Y_rests, c_4]; done) | simp_all) (by first | (simp only [Y_rests, c_4, decide_true, decide_false, Bool.and_true, Bool.true_and, Bool.and_false, Bool.false_and, Bool.or_true, Bool.true_or, Bool.or_false, Bool.false_or, Bool.not_true, Bool.not_false, if_true, if_false, ite_true, ite_false, Bool.false_eq_true, not_true_eq_false, not_false_eq_true, bI_t, bI_f, decide_eq_true_eq, reduceCtorEq]; done) | (simp [Y_rests, c_4]; done) | simp_all)
set_option maxRecDepth 20000 in
set_option maxHeartbeats 1000000 in
theorem t_X8_talks {σ : St} {t q : Int32} : Ct MX8_talks [.ref 42, .int t, .int q] σ (some (.int (Y_talks σ t q).1)) ((Y_talks σ t q).2) := by
  refine ct_of (ls0 := [some (.ref 42), some (.int t), some (.int q), none]) ok_MX8_talks rfl (Nat.le_of_ble_eq_true rfl) rfl ?_
  intro g X F
  refine zw_iload_1 X dX8_talks_0 ?_
  refine zw_cS_ii X dX8_talks_1 lk_X8_74 ok_MX8_isOne st_MX8_isOne rm_X8_talks_X8_isOne (Nat.le_of_ble_eq_true rfl) t_X8_isOne ?_
  refine zw_ifeqB (tgt := 19) X dX8_talks_4 (by decide) (fun c_4 => ?_) (fun c_4 => ?_)
  · refine zw_iconst (v := -1) X dX8_talks_19 ik_m1 ?_
    exact zw_iret X F dX8_talks_20 rfl (by first | (simp only [Y_talks, c_4, decide_true, decide_false, Bool.and_true, Bool.true_and, Bool.and_false, Bool.false_and, Bool.or_true, Bool.true_or, Bool.or_false, Bool.false_or, Bool.not_true, Bool.not_false, if_true, if_false, ite_true, ite_false, Bool.false_eq_true, not_true_eq_false, not_false_eq_true, bI_t, bI_f, decide_eq_true_eq, reduceCtorEq]; done) | (simp [Y_talks, c_4]; done) | simp_all) (by first | (simp only [Y_talks, c_4, decide_true, decide_false, Bool.and_true, Bool.true_and, Bool.and_false, Bool.false_and, Bool.or_true, Bool.true_or, Bool.or_false, Bool.false_or, Bool.not_true, Bool.not_false, if_true, if_false, ite_true, ite_false, Bool.false_eq_true, not_true_eq_false, not_false_eq_true, bI_t, bI_f, decide_eq_true_eq, reduceCtorEq]; done) | (simp [Y_talks, c_4]; done) | simp_all)
  · refine zw_iload_2 X dX8_talks_7 ?_
    refine zw_cS_ii X dX8_talks_8 lk_X8_74 ok_MX8_isOne st_MX8_isOne rm_X8_talks_X8_isOne (Nat.le_of_ble_eq_true rfl) t_X8_isOne ?_
    refine zw_ifeqB (tgt := 19) X dX8_talks_11 (by decide) (fun c_11 => ?_) (fun c_11 => ?_)
    · refine zw_iconst (v := -1) X dX8_talks_19 ik_m1 ?_
      exact zw_iret X F dX8_talks_20 rfl (by first | (simp only [Y_talks, c_4, c_11, decide_true, decide_false, Bool.and_true, Bool.true_and, Bool.and_false, Bool.false_and, Bool.or_true, Bool.true_or, Bool.or_false, Bool.false_or, Bool.not_true, Bool.not_false, if_true, if_false, ite_true, ite_false, Bool.false_eq_true, not_true_eq_false, not_false_eq_true, bI_t, bI_f, decide_eq_true_eq, reduceCtorEq]; done) | (simp [Y_talks, c_4, c_11]; done) | simp_all) (by first | (simp only [Y_talks, c_4, c_11, decide_true, decide_false, Bool.and_true, Bool.true_and, Bool.and_false, Bool.false_and, Bool.or_true, Bool.true_or, Bool.or_false, Bool.false_or, Bool.not_true, Bool.not_false, if_true, if_false, ite_true, ite_false, Bool.false_eq_true, not_true_eq_false, not_false_eq_true, bI_t, bI_f, decide_eq_true_eq, reduceCtorEq]; done) | (simp [Y_talks, c_4, c_11]; done) | simp_all)
    · refine zw_iload_1 X dX8_talks_14 ?_
      refine zw_iload_2 X dX8_talks_15 ?_
      refine zw_icmpne (tgt := 21) X dX8_talks_16 (by decide) (fun c_16 => ?_) (fun c_16 => ?_)
      · refine zw_aload_0 X dX8_talks_21 ?_
        refine zw_cV_nv X dX8_talks_22 lk_X8_125 ok_MX8_asNow vi_MX8_asNow rm_X8_talks_X8_asNow sh_42 rfl (Nat.le_of_ble_eq_true rfl) t_X8_asNow ?_
        refine zw_iconst (v := 0) X dX8_talks_25 ik_0 ?_
        refine zw_istore_3 X dX8_talks_26 ?_
        refine zloop (α := Int32 × St) (S := fun zn za => ∀ (v27_3 : Int32) (s27 : St), v27_3 = za.1 → s27 = za.2 → ZW g 27 [some (.ref 42), some (.int t), some (.int q), some (.int v27_3)] [] s27) (N := (cnt ((mNow σ) 42 16) ((mNow σ) 42 0))) (f := (Y_taF t q)) (a0 := ((0, mNow σ) : Int32 × St)) (fun n27 a27 hn27 ha27 ih27 v27_3 s27 hv27_3 hs27 => ?_) (fun a27 ha27 v27_3 s27 hv27_3 hs27 => ?_) _ _ rfl rfl
        · subst hv27_3 hs27
          refine zw_aload_0 X dX8_talks_27 ?_
          refine zw_getI X dX8_talks_28 fl_X8_98 ck_X8 sh_42 rfl ?_
          refine zw_aload_0 X dX8_talks_31 ?_
          refine zw_getI X dX8_talks_32 fl_X8_7 ck_X8 sh_42 rfl ?_
          refine zw_icmpge_f (tgt := 84) X dX8_talks_35 (by decide) ((run_lt (by rw [ha27]; exact itr2_run (fun _ _ => rfl) _ _) (Nat.le_of_lt hn27)).mpr hn27) ?_
          refine zw_iload_3 X dX8_talks_38 ?_
          refine zw_aload_0 X dX8_talks_39 ?_
          refine zw_iload_1 X dX8_talks_40 ?_
          refine zw_cV_ii X dX8_talks_41 lk_X8_122 ok_MX8_maySpeak vi_MX8_maySpeak rm_X8_talks_X8_maySpeak sh_42 rfl (Nat.le_of_ble_eq_true rfl) (t_X8_maySpeak (in6_of c_4)) ?_
          refine zw_ifeqB (tgt := 74) X dX8_talks_44 (by decide) (fun c_44 => ?_) (fun c_44 => ?_)
          · refine zw_iconst (v := 0) X dX8_talks_74 ik_0 ?_
            refine zw_iadd X dX8_talks_75 ?_
            refine zw_istore_3 X dX8_talks_76 ?_
            refine zw_aload_0 X dX8_talks_77 ?_
            refine zw_cV_nv X dX8_talks_78 lk_X8_134 ok_MX8_pass vi_MX8_pass rm_X8_talks_X8_pass sh_42 rfl (Nat.le_of_ble_eq_true rfl) t_X8_pass ?_
            refine zw_goto (tgt := 27) X dX8_talks_81 (by decide) ?_
            exact ih27 _ _ (by first | (simp only [Y_taF, c_4, c_11, c_16, c_44, decide_true, decide_false, Bool.and_true, Bool.true_and, Bool.and_false, Bool.false_and, Bool.or_true, Bool.true_or, Bool.or_false, Bool.false_or, Bool.not_true, Bool.not_false, if_true, if_false, ite_true, ite_false, Bool.false_eq_true, not_true_eq_false, not_false_eq_true, bI_t, bI_f, decide_eq_true_eq, reduceCtorEq]; done) | (simp [Y_taF, c_4, c_11, c_16, c_44]; done) | simp_all) (by first | (simp only [Y_taF, c_4, c_11, c_16, c_44, decide_true, decide_false, Bool.and_true, Bool.true_and, Bool.and_false, Bool.false_and, Bool.or_true, Bool.true_or, Bool.or_false, Bool.false_or, Bool.not_true, Bool.not_false, if_true, if_false, ite_true, ite_false, Bool.false_eq_true, not_true_eq_false, not_false_eq_true, bI_t, bI_f, decide_eq_true_eq, reduceCtorEq]; done) | (simp [Y_taF, c_4, c_11, c_16, c_44]; done) | simp_all)
          · refine zw_aload_0 X dX8_talks_47 ?_
            refine zw_iload_2 X dX8_talks_48 ?_
            refine zw_cV_ii X dX8_talks_49 lk_X8_119 ok_MX8_ridesNow vi_MX8_ridesNow rm_X8_talks_X8_ridesNow sh_42 rfl (Nat.le_of_ble_eq_true rfl) (t_X8_ridesNow (in6_of c_11)) ?_
            refine zw_ifeqB (tgt := 74) X dX8_talks_52 (by decide) (fun c_52 => ?_) (fun c_52 => ?_)
            · refine zw_iconst (v := 0) X dX8_talks_74 ik_0 ?_
              refine zw_iadd X dX8_talks_75 ?_
              refine zw_istore_3 X dX8_talks_76 ?_
              refine zw_aload_0 X dX8_talks_77 ?_
              refine zw_cV_nv X dX8_talks_78 lk_X8_134 ok_MX8_pass vi_MX8_pass rm_X8_talks_X8_pass sh_42 rfl (Nat.le_of_ble_eq_true rfl) t_X8_pass ?_
              refine zw_goto (tgt := 27) X dX8_talks_81 (by decide) ?_
              exact ih27 _ _ (by first | (simp only [Y_taF, c_4, c_11, c_16, c_44, c_52, decide_true, decide_false, Bool.and_true, Bool.true_and, Bool.and_false, Bool.false_and, Bool.or_true, Bool.true_or, Bool.or_false, Bool.false_or, Bool.not_true, Bool.not_false, if_true, if_false, ite_true, ite_false, Bool.false_eq_true, not_true_eq_false, not_false_eq_true, bI_t, bI_f, decide_eq_true_eq, reduceCtorEq]; done) | (simp [Y_taF, c_4, c_11, c_16, c_44, c_52]; done) | simp_all) (by first | (simp only [Y_taF, c_4, c_11, c_16, c_44, c_52, decide_true, decide_false, Bool.and_true, Bool.true_and, Bool.and_false, Bool.false_and, Bool.or_true, Bool.true_or, Bool.or_false, Bool.false_or, Bool.not_true, Bool.not_false, if_true, if_false, ite_true, ite_false, Bool.false_eq_true, not_true_eq_false, not_false_eq_true, bI_t, bI_f, decide_eq_true_eq, reduceCtorEq]; done) | (simp [Y_taF, c_4, c_11, c_16, c_44, c_52]; done) | simp_all)
            · refine zw_aload_0 X dX8_talks_55 ?_
              refine zw_getR X dX8_talks_56 fl_X8_20 ck_X8 sh_42 rfl ?_
              refine zw_iload_1 X dX8_talks_59 ?_
              refine zw_iald X dX8_talks_60 sh_45 (in6_of c_4) ?_
              refine zw_aload_0 X dX8_talks_61 ?_
              refine zw_getR X dX8_talks_62 fl_X8_20 ck_X8 sh_42 rfl ?_
              refine zw_iload_2 X dX8_talks_65 ?_
              refine zw_iald X dX8_talks_66 sh_45 (in6_of c_11) ?_
              refine zw_icmpne (tgt := 74) X dX8_talks_67 (by decide) (fun c_67 => ?_) (fun c_67 => ?_)
              · refine zw_iconst (v := 0) X dX8_talks_74 ik_0 ?_
                refine zw_iadd X dX8_talks_75 ?_
                refine zw_istore_3 X dX8_talks_76 ?_
                refine zw_aload_0 X dX8_talks_77 ?_
                refine zw_cV_nv X dX8_talks_78 lk_X8_134 ok_MX8_pass vi_MX8_pass rm_X8_talks_X8_pass sh_42 rfl (Nat.le_of_ble_eq_true rfl) t_X8_pass ?_
                refine zw_goto (tgt := 27) X dX8_talks_81 (by decide) ?_
                exact ih27 _ _ (by first | (simp only [Y_taF, c_4, c_11, c_16, c_44, c_52, c_67, decide_true, decide_false, Bool.and_true, Bool.true_and, Bool.and_false, Bool.false_and, Bool.or_true, Bool.true_or, Bool.or_false, Bool.false_or, Bool.not_true, Bool.not_false, if_true, if_false, ite_true, ite_false, Bool.false_eq_true, not_true_eq_false, not_false_eq_true, bI_t, bI_f, decide_eq_true_eq, reduceCtorEq]; done) | (simp [Y_taF, c_4, c_11, c_16, c_44, c_52, c_67]; done) | simp_all) (by first | (simp only [Y_taF, c_4, c_11, c_16, c_44, c_52, c_67, decide_true, decide_false, Bool.and_true, Bool.true_and, Bool.and_false, Bool.false_and, Bool.or_true, Bool.true_or, Bool.or_false, Bool.false_or, Bool.not_true, Bool.not_false, if_true, if_false, ite_true, ite_false, Bool.false_eq_true, not_true_eq_false, not_false_eq_true, bI_t, bI_f, decide_eq_true_eq, reduceCtorEq]; done) | (simp [Y_taF, c_4, c_11, c_16, c_44, c_52, c_67]; done) | simp_all)
              · refine zw_iconst (v := 1) X dX8_talks_70 ik_1 ?_
                refine zw_goto (tgt := 75) X dX8_talks_71 (by decide) ?_
                refine zw_iadd X dX8_talks_75 ?_
                refine zw_istore_3 X dX8_talks_76 ?_
                refine zw_aload_0 X dX8_talks_77 ?_
                refine zw_cV_nv X dX8_talks_78 lk_X8_134 ok_MX8_pass vi_MX8_pass rm_X8_talks_X8_pass sh_42 rfl (Nat.le_of_ble_eq_true rfl) t_X8_pass ?_
                refine zw_goto (tgt := 27) X dX8_talks_81 (by decide) ?_
                exact ih27 _ _ (by first | (simp only [Y_taF, c_4, c_11, c_16, c_44, c_52, eq_true c_67, decide_true, decide_false, Bool.and_true, Bool.true_and, Bool.and_false, Bool.false_and, Bool.or_true, Bool.true_or, Bool.or_false, Bool.false_or, Bool.not_true, Bool.not_false, if_true, if_false, ite_true, ite_false, Bool.false_eq_true, not_true_eq_false, not_false_eq_true, bI_t, bI_f, decide_eq_true_eq, reduceCtorEq]; done) | (simp [Y_taF, c_4, c_11, c_16, c_44, c_52, eq_true c_67]; done) | simp_all) (by first | (simp only [Y_taF, c_4, c_11, c_16, c_44, c_52, eq_true c_67, decide_true, decide_false, Bool.and_true, Bool.true_and, Bool.and_false, Bool.false_and, Bool.or_true, Bool.true_or, Bool.or_false, Bool.false_or, Bool.not_true, Bool.not_false, if_true, if_false, ite_true, ite_false, Bool.false_eq_true, not_true_eq_false, not_false_eq_true, bI_t, bI_f, decide_eq_true_eq, reduceCtorEq]; done) | (simp [Y_taF, c_4, c_11, c_16, c_44, c_52, eq_true c_67]; done) | simp_all)
        · subst hv27_3 hs27
          refine zw_aload_0 X dX8_talks_27 ?_
          refine zw_getI X dX8_talks_28 fl_X8_98 ck_X8 sh_42 rfl ?_
          refine zw_aload_0 X dX8_talks_31 ?_
          refine zw_getI X dX8_talks_32 fl_X8_7 ck_X8 sh_42 rfl ?_
          refine zw_icmpge_t (tgt := 84) X dX8_talks_35 (by decide) (fun h => Nat.lt_irrefl _ ((run_lt (by rw [ha27]; exact itr2_run (fun _ _ => rfl) _ _) (Nat.le_refl _)).mp h)) ?_
          refine zw_iload_3 X dX8_talks_84 ?_
          exact zw_iret X F dX8_talks_85 rfl (by simp only [Y_talks, Y_taA, ← ha27, c_4, c_11, c_16, decide_true, decide_false, Bool.and_true, Bool.true_and, Bool.and_false, Bool.false_and, Bool.or_true, Bool.true_or, Bool.or_false, Bool.false_or, Bool.not_true, Bool.not_false, if_true, if_false, ite_true, ite_false, Bool.false_eq_true, not_true_eq_false, not_false_eq_true, bI_t, bI_f, decide_eq_true_eq, reduceCtorEq]) (by simp only [Y_talks, Y_taA, ← ha27, c_4, c_11, c_16, decide_true, decide_false, Bool.and_true, Bool.true_and, Bool.and_false, Bool.false_and, Bool.or_true, Bool.true_or, Bool.or_false, Bool.false_or, Bool.not_true, Bool.not_false, if_true, if_false, ite_true, ite_false, Bool.false_eq_true, not_true_eq_false, not_false_eq_true, bI_t, bI_f, decide_eq_true_eq, reduceCtorEq])
      · refine zw_iconst (v := -1) X dX8_talks_19 ik_m1 ?_
        exact zw_iret X F dX8_talks_20 rfl (by first | (simp only [Y_talks, c_4, c_11, eq_true c_16, decide_true, decide_false, Bool.and_true, Bool.true_and, Bool.and_false, Bool.false_and, Bool.or_true, Bool.true_or, Bool.or_false, Bool.false_or, Bool.not_true, Bool.not_false, if_true, if_false, ite_true, ite_false, Bool.false_eq_true, not_true_eq_false, not_false_eq_true, bI_t, bI_f, decide_eq_true_eq, reduceCtorEq]; done) | (simp [Y_talks, c_4, c_11, eq_true c_16]; done) | simp_all) (by first | (simp only [Y_talks, c_4, c_11, eq_true c_16, decide_true, decide_false, Bool.and_true, Bool.true_and, Bool.and_false, Bool.false_and, Bool.or_true, Bool.true_or, Bool.or_false, Bool.false_or, Bool.not_true, Bool.not_false, if_true, if_false, ite_true, ite_false, Bool.false_eq_true, not_true_eq_false, not_false_eq_true, bI_t, bI_f, decide_eq_true_eq, reduceCtorEq]; done) | (simp [Y_talks, c_4, c_11, eq_true c_16]; done) | simp_all)
