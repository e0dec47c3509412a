/-! the reference's pad -/
theorem fb_first0 {p : Nat → Bool} : ∀ {n : Nat}, (∃ i, i < n ∧ p i = true) → ∃ i, i < n ∧ (p i = true ∧ ∀ j, j < i → p j = false)
  | 0, h => by obtain ⟨i, hi, -⟩ := h; exact absurd hi (Nat.not_lt_zero i)
  | n + 1, h => by
    by_cases hb : ∃ i, i < n ∧ p i = true
    · obtain ⟨i, h1, h2⟩ := fb_first0 hb
      exact ⟨i, by omega, h2⟩
    · have hno : ∀ j, j < n → p j = false := fun j hj => by
        cases hp : p j with
        | false => rfl
        | true => exact absurd ⟨j, hj, hp⟩ hb
      obtain ⟨i, hi, hp⟩ := h
      have e : i = n := by
        rcases Nat.lt_or_ge i n with q | q
        · rw [hno i q] at hp; cases hp
        · omega
      subst e
      exact ⟨i, by omega, hp, hno⟩
def mFits (w s : Int32) : Bool := if w = 0 then wth s 65 70 || decide (s = 46) else if w = 1 then (decide (s = 99) || (decide (s = 115) || decide (s = 104))) || wth s 48 57 else wth s 48 57
def mNext (w s : Int32) : Int32 := if decide (w = 0) && wth s 65 70 then 1 else if decide (w = 1) && wth s 48 57 then 2 else 0
def mW (P : Nat → Int32) (n : Nat) : Int32 := itr (fun n w => mNext w (P n)) n 0
def mBad (P : Nat → Int32) (n : Nat) : Bool := !mFits (mW P n) (P n)
def mFault (σ : St) : Int32 := if fstB (mBad (σ 49)) (clN (σ 42 12)) < clN (σ 42 12) then nI (fstB (mBad (σ 49)) (clN (σ 42 12))) else if mW (σ 49) (clN (σ 42 12)) = 0 then -6 else σ 42 12
/-- the pad is whole acts -/
def PO (P : Nat → Int32) (N : Nat) : Prop := (∀ i, i < N → mFits (mW P i) (P i) = true) ∧ mW P N = 0
theorem mW_succ (P : Nat → Int32) (n : Nat) : mW P (n + 1) = mNext (mW P n) (P n) := rfl
theorem PO_head {P : Nat → Int32} {N j : Nat} (h : PO P N) (hj : j < N) (hw : mW P j = 0) (hd : ¬ P j = 46) : wth (P j) 65 70 = true ∧ mW P (j + 1) = 1 ∧ j + 1 < N := by
  have h1 := h.1 j hj
  simp only [hw, mFits, if_true, Bool.or_eq_true, decide_eq_true_eq, hd, or_false] at h1
  have h2 : mW P (j + 1) = 1 := by rw [mW_succ, hw]; simp [mNext, h1]
  refine ⟨h1, h2, ?_⟩
  rcases Nat.lt_or_ge (j + 1) N with q | q
  · exact q
  · have e : j + 1 = N := by omega
    rw [← e] at h
    rw [h.2] at h2
    exact absurd h2 (by decide)
theorem PO_dot {P : Nat → Int32} {j : Nat} (hw : mW P j = 0) (hd : P j = 46) : mW P (j + 1) = 0 := by
  rw [mW_succ, hw, hd]; decide
theorem PO_dig {P : Nat → Int32} {N j : Nat} (h : PO P N) (hj : j + 1 < N) (hw : mW P (j + 1) = 1) (hd : wth (P (j + 1)) 48 57 = true) : j + 2 < N ∧ mW P (j + 3) = 0 := by
  have h2 : mW P (j + 1 + 1) = 2 := by rw [mW_succ, hw]; simp [mNext, hd]
  have hlt : j + 2 < N := by
    rcases Nat.lt_or_ge (j + 2) N with q | q
    · exact q
    · have e : j + 1 + 1 = N := by omega
      rw [← e] at h
      rw [h.2] at h2
      exact absurd h2 (by decide)
  refine ⟨hlt, ?_⟩
  rw [show j + 3 = j + 1 + 1 + 1 from rfl, mW_succ, h2]; simp [mNext]
theorem PO_act {P : Nat → Int32} {j : Nat} (hw : mW P (j + 1) = 1) (hd : wth (P (j + 1)) 48 57 = false) : mW P (j + 2) = 0 := by
  rw [show j + 2 = j + 1 + 1 from rfl, mW_succ, hw]; simp [mNext, hd]
theorem PO_of {σ : St} {N : Nat} (hN : σ 42 12 = nI N) (h6 : N ≤ 60) (h : mFault σ < 0) : PO (σ 49) N := by
  have hc : clN (σ 42 12) = N := by rw [hN]; exact nI_clamp (by omega)
  unfold mFault at h
  rw [hc] at h
  split at h
  next hl => exact absurd h (nI_pos (by omega))
  next hl =>
    split at h
    next hz =>
      refine ⟨fun i hi => ?_, hz⟩
      have hall : ∀ i, i < N → mBad (σ 49) i = false := by
        intro i hi
        cases hb : mBad (σ 49) i with
        | false => rfl
        | true =>
          exfalso
          obtain ⟨q, hq1, hq2⟩ := fb_first0 (p := mBad (σ 49)) ⟨i, hi, hb⟩
          exact hl (by rw [fstB_at hq2.1 hq2.2 hq1]; exact hq1)
      have := hall i hi
      simpa [mBad] using this
    next hz => exact absurd h (by rw [hN]; exact nI_pos (by omega))
theorem let_in {s : Int32} (h : wth s 65 70 = true) : vp_in (s - 65) 6 := by
  simp only [wth, Bool.and_eq_true, Bool.not_eq_true', decide_eq_false_iff_not] at h
  have h1 := Int32.not_lt.mp h.1
  have h2 := Int32.not_lt.mp h.2
  rw [Int32.le_iff_toInt_le] at h1 h2
  have e5 : (65 : Int32).toInt = 65 := rfl
  have e0 : (70 : Int32).toInt = 70 := rfl
  rw [vp_in_iff, Int32.toInt_sub, bmod32 (by omega) (by omega)]
  omega
/-! rides on the pad -/
def mg0 (τ : St) : St := ups τ 42 21 0
def mgD1 (τ : St) : St := ups (mg0 τ) 42 21 (if mg0 τ 42 16 = mg0 τ 42 0 then 3 else 0)
def mgD (τ : St) : St := if mgD1 τ 42 21 = 0 then mpas (mgD1 τ) else mgD1 τ
def mgW (τ : St) (j : Nat) : Int32 := τ 49 j - 65
def mgH (τ : St) (j : Nat) : Int32 := τ 49 (j + 1)
def mgB (τ : St) (j : Nat) : St := ups (mg0 τ) 51 (ix (mgW τ j)) (10 * (mgH τ j - 48) + τ 49 (j + 2) - 48)
def mgA1 (τ : St) (j : Nat) : St := ups (mg0 τ) 42 21 (mwhy (mg0 τ) (mgW τ j) (mgH τ j))
def mgA (τ : St) (j : Nat) : St := if decide (mgA1 τ j 42 21 = 0) && decide (mgH τ j = 99) then mcou (mgA1 τ j) (mgW τ j) else mgA1 τ j
def mgS (τ : St) (j : Nat) : St := if τ 49 j = 46 then mgD τ else if wth (mgH τ j) 48 57 then mgB τ j else mgA τ j
def mgL (τ : St) (j : Nat) : Nat := if τ 49 j = 46 then 1 else if wth (mgH τ j) 48 57 then 3 else 2
def mgN (τ : St) (j : Nat) : St := ups (mgS τ j) 42 22 (mgS τ j 42 22 + 1)
def mgGo : Nat → Nat → St → Int32 × St
  | 0, _, τ => (-6, τ)
  | n + 1, j, τ => if nI j < τ 42 12 then (if 0 < mgS τ j 42 21 then (mgS τ j 42 22, mgS τ j) else mgGo n (j + mgL τ j) (mgN τ j)) else (-6, τ)
def mgAll (σ : St) : Int32 × St := mgGo 61 0 (ups (mNow σ) 42 22 0)
theorem mgGo_end {n j : Nat} {τ : St} (h : ¬ nI j < τ 42 12) : mgGo (n + 1) j τ = (-6, τ) := by rw [mgGo, if_neg h]
theorem mgGo_hit {n j : Nat} {τ : St} (h1 : nI j < τ 42 12) (h2 : 0 < mgS τ j 42 21) : mgGo (n + 1) j τ = (mgS τ j 42 22, mgS τ j) := by rw [mgGo, if_pos h1, if_pos h2]
theorem mgGo_on {n j : Nat} {τ : St} (h1 : nI j < τ 42 12) (h2 : ¬ 0 < mgS τ j 42 21) : mgGo (n + 1) j τ = mgGo n (j + mgL τ j) (mgN τ j) := by rw [mgGo, if_pos h1, if_neg h2]
theorem mcou_ne (σ : St) (k : Int32) {q : Nat} (h1 : q ≠ 42) (h2 : q ≠ 50) : mcou σ k q = σ q := by
  unfold mcou; split
  · rfl
  · unfold mc3 mc2 mc1
    rw [ups_other h1, ups_other h1, ups_other h2]
theorem mcou_42 (σ : St) (k : Int32) {j : Nat} (h1 : j ≠ 17) (h2 : j ≠ 18) : mcou σ k 42 j = σ 42 j := by
  unfold mcou; split
  · rfl
  · unfold mc3 mc2 mc1
    rw [ups_j h2, ups_j h1, ups_other (by decide)]
theorem mgD1_ne (τ : St) {q : Nat} (h : q ≠ 42) : mgD1 τ q = τ q := by unfold mgD1 mg0; rw [ups_other h, ups_other h]
theorem mgD1_42 (τ : St) {j : Nat} (h : j ≠ 21) : mgD1 τ 42 j = τ 42 j := by unfold mgD1 mg0; rw [ups_j h, ups_j h]
theorem mgA1_ne (τ : St) (i : Nat) {q : Nat} (h : q ≠ 42) : mgA1 τ i q = τ q := by unfold mgA1 mg0; rw [ups_other h, ups_other h]
theorem mgA1_42 (τ : St) (i : Nat) {j : Nat} (h : j ≠ 21) : mgA1 τ i 42 j = τ 42 j := by unfold mgA1 mg0; rw [ups_j h, ups_j h]
theorem mgS_ne (τ : St) (j : Nat) {q : Nat} (h1 : q ≠ 42) (h2 : q ≠ 50) (h3 : q ≠ 51) (h4 : q ≠ 52) (h5 : q ≠ 53) : mgS τ j q = τ q := by
  unfold mgS
  split
  · unfold mgD; split
    · rw [mpas_ne _ h1 h2 h4 h5, mgD1_ne τ h1]
    · exact mgD1_ne τ h1
  · split
    · unfold mgB mg0; rw [ups_other h3, ups_other h1]
    · unfold mgA; split
      · rw [mcou_ne _ _ h1 h2, mgA1_ne τ j h1]
      · exact mgA1_ne τ j h1
theorem mgS_42 (τ : St) (j : Nat) {i : Nat} (h1 : i ≠ 16) (h2 : i ≠ 17) (h3 : i ≠ 18) (h4 : i ≠ 21) : mgS τ j 42 i = τ 42 i := by
  unfold mgS
  split
  · unfold mgD; split
    · rw [mpas_42 _ h1 h2, mgD1_42 τ h4]
    · exact mgD1_42 τ h4
  · split
    · unfold mgB mg0; rw [ups_other (by decide), ups_j h4]
    · unfold mgA; split
      · rw [mcou_42 _ _ h2 h3, mgA1_42 τ j h4]
      · exact mgA1_42 τ j h4
theorem mgS_49 (τ : St) (j : Nat) : mgS τ j 49 = τ 49 := mgS_ne τ j (by decide) (by decide) (by decide) (by decide) (by decide)
theorem mgS_12 (τ : St) (j : Nat) : mgS τ j 42 12 = τ 42 12 := mgS_42 τ j (by decide) (by decide) (by decide) (by decide)
def Y_fault (σ : St) : Int32 × St := (mFault σ, σ)
def Y_judge (σ : St) (w : Int32) : Int32 × St := if wth w 0 1 then (if mFault σ < 0 then (if decide ((mgAll σ).1 < 0) || decide (w = 0) then (mgAll σ).1 else (mgAll σ).2 42 21, (mgAll σ).2) else (-5, σ)) else (-2, σ)
def mBar (σ : St) : Int32 × St := if mFault σ < 0 then (if (mgAll σ).1 < 0 then 0 else -5, (mgAll σ).2) else (-5, σ)
def mdst (n : Nat) (τ : St) : St := cpA (cpA τ 46 50 n) 47 51 n
def md1 (τ : St) : St := itr mdst 6 τ
def md2 (τ : St) : St := ups (md1 τ) 42 8 (md1 τ 42 16)
def md3 (τ : St) : St := ups (md2 τ) 42 9 (md2 τ 42 17)
def md4 (τ : St) : St := ups (md3 τ) 42 12 0
def Y_done (σ : St) : Int32 × St := if (mBar σ).1 < 0 then (-5, (mBar σ).2) else (md4 (mBar σ).2 42 22, md4 (mBar σ).2)
def Y_beh (σ : St) (w : Int32) : Int32 × St := if wth w 0 8 then (if (mBar σ).1 < 0 then -5 else if w < 6 then (mBar σ).2 50 (ix w) else if w = 6 then (mBar σ).2 42 17 else if w = 7 then (mBar σ).2 42 16 else (mBar σ).2 42 18, (mBar σ).2) else (-2, σ)
theorem beh_in {w : Int32} (h : wth w 0 8 = true) (h2 : w < 6) : vp_in w 6 := by
  simp only [wth, Bool.and_eq_true, Bool.not_eq_true', decide_eq_false_iff_not] at h
  exact isTr_in (isTr_of h.1 h2)
/-! bids -/
def mbF (t : Int32) (_ : Nat) (a : Bool × Bool × St) : Bool × Bool × St := (a.1 && (!mrd a.2.2 t (a.2.2 42 16) || (hasB (a.2.2 42 1) (a.2.2 42 16) || decide (mhold a.2.2 (a.2.2 45 (ix t)) = t))), a.2.1 || mrd a.2.2 t (a.2.2 42 16), mpas a.2.2)
def mb0 (τ : St) (t b : Int32) : St := ups (mNow τ) 51 (ix t) b
def mbA (τ : St) (t b : Int32) : Bool × Bool × St := itr (mbF t) (cnt (mb0 τ t b 42 16) (mb0 τ t b 42 0)) (true, false, mb0 τ t b)
theorem itr3_run {β γ : Type} {f : Nat → β × γ × St → β × γ × St} (h : ∀ n a, (f n a).2.2 = mpas a.2.2) : ∀ (n : Nat) (a : β × γ × St), (itr f n a).2.2 = mrun n a.2.2
  | 0, _ => rfl
  | n + 1, a => by
    have e : itr f (n + 1) a = f n (itr f n a) := rfl
    rw [e, h, itr3_run h n a]; rfl
def mbGo (t : Int32) : Nat → Int32 → St → Option Int32 × St
  | 0, _, τ => (none, τ)
  | n + 1, b, τ => if (mbA τ t b).1 && (mbA τ t b).2.1 then (some b, (mbA τ t b).2.2) else mbGo t n (b + 1) (mbA τ t b).2.2
theorem mbGo_hit {t b : Int32} {n : Nat} {τ : St} (h : ((mbA τ t b).1 && (mbA τ t b).2.1) = true) : mbGo t (n + 1) b τ = (some b, (mbA τ t b).2.2) := by rw [mbGo, if_pos h]
def Y_byR (t w : Int32) (r : Option Int32 × St) : Int32 := match r.1 with
  | none => -6
  | some b => if w = 0 then b else r.2 52 (ix t)
theorem mbGo_stepF {g : Gt} {M : Mt} {t w : Int32} {n j : Nat} {τ : St} (F : FnZ g M (some (.int (Y_byR t w (mbGo t (n + 1) (nI j) τ)))) (mbGo t (n + 1) (nI j) τ).2) (h : ((mbA τ t (nI j)).1 && (mbA τ t (nI j)).2.1) = false) : FnZ g M (some (.int (Y_byR t w (mbGo t n (nI (j + 1)) (mbA τ t (nI j)).2.2)))) (mbGo t n (nI (j + 1)) (mbA τ t (nI j)).2.2).2 := by
  rw [mbGo, if_neg (by rw [h]; decide), nI_1] at F; exact F
def Y_buy (σ : St) (t w : Int32) : Int32 × St := if wth t 0 5 then (if wth w 0 1 then (Y_byR t w (mbGo t 99 (nI 1) σ), (mbGo t 99 (nI 1) σ).2) else (-2, σ)) else (-1, σ)
/-! seats -/
def mAt (σ : St) (k : Int32) : Bool := itr (fun n b => b || mrd σ k (nI n)) (clN (σ 42 0)) false
def mOnce (σ : St) (k q : Int32) : Bool := itr (fun n b => b || (mrd σ k (nI n) && mrd σ q (nI n))) (clN (σ 42 0)) false
def mDg (c k : Int32) : Int32 := (c >>> ((2 * (5 - k)) &&& 31)) &&& 3
def mA1 (σ : St) (c : Int32) (k : Nat) (a : Bool × Int32) : Bool × Int32 := (a.1 && decide (bI (mAt σ (nI k)) = bI (decide (mDg c (nI k) < 3))), 10 * a.2 + mDg c (nI k))
def mMeet (σ : St) (c : Int32) (i j : Nat) : Bool := decide (mDg c (nI i) = mDg c (nI j)) && mOnce σ (nI i) (nI j)
def mA2 (σ : St) (ap to c : Int32) (i : Nat) (j : Nat) (a : Bool × Int32) : Bool × Int32 := (a.1 && ((!hasB ap a.2 || !mMeet σ c i (i + 1 + j)) && (!hasB to a.2 || mMeet σ c i (i + 1 + j))), a.2 + 1)
def mA3 (σ : St) (ap to c : Int32) (i : Nat) (a : Bool × Int32) : Bool × Int32 := if a.1 then itr (mA2 σ ap to c i) (5 - i) a else a
def mC1 (σ : St) (c : Int32) : Bool × Int32 := itr (mA1 σ c) 6 (true, 0)
def mC2 (σ : St) (ap to c : Int32) : Bool × Int32 := itr (mA3 σ ap to c) 6 ((mC1 σ c).1, 0)
def mSt (σ : St) (ap to : Int32) (c : Nat) (a : Int32 × Int32) : Int32 × Int32 := (a.1 + (if (mC2 σ ap to (nI c)).1 then 1 else 0), if (mC2 σ ap to (nI c)).1 && decide (a.2 < 0) then (mC1 σ (nI c)).2 else a.2)
def mSts (σ : St) (ap to : Int32) : Int32 × Int32 := itr (mSt σ ap to) 4096 (0, -6)
def Y_seats (σ : St) (ap to w : Int32) : Int32 × St := if (wth ap 0 32767 && wth to 0 32767) && wth w 0 1 then (if w = 0 then (mSts σ ap to).1 else (mSts σ ap to).2, σ) else (-2, σ)
theorem mA3_stop {σ : St} {ap to c : Int32} {a0 a : Bool × Int32} {n : Nat} (ha : a = itr (mA3 σ ap to c) n a0) (h : a.1 = false) : ∀ d, itr (mA3 σ ap to c) (n + d) a0 = a
  | 0 => ha.symm
  | d + 1 => by
    have e : itr (mA3 σ ap to c) (n + (d + 1)) a0 = mA3 σ ap to c (n + d) (itr (mA3 σ ap to c) (n + d) a0) := rfl
    rw [e, mA3_stop ha h d, mA3, if_neg (by rw [h]; decide)]
/-! words -/
def mgw3 (σ : St) (i : Int32) (kn : Int32) (q x : Nat) (a : Int32) : Int32 := a ||| (if (mrd σ (nI q) i && (mrd σ (nI x) i && decide (σ 45 q = σ 45 x))) && hasB kn (nI x) then ((1 : Int32) <<< (nI q &&& 31)) else 0)
def mgw2 (σ : St) (i kn : Int32) (q : Nat) (a : Int32) : Int32 := itr (mgw3 σ i kn q) 6 a
def mgw1 (σ : St) (i kn : Int32) : Int32 := if hasB (σ 42 1) i then itr (mgw2 σ i kn) 6 kn else kn
def mgwF (m q : Int32) (n : Nat) (a : Int32 × St) : Int32 × St := (if decide (a.1 < 0) && hasB (mgw1 a.2 (m + nI n) (a.2 42 23)) q then m + nI n else a.1, ups a.2 42 23 (mgw1 a.2 (m + nI n) (a.2 42 23)))
def mgw0 (σ : St) (k : Int32) : St := ups σ 42 23 ((1 : Int32) <<< (k &&& 31))
def mgwA (σ : St) (k m q : Int32) : Int32 × St := itr (mgwF m q) (cnt m (σ 42 0)) (if q = k then m else -6, mgw0 σ k)
theorem mgw_len (σ : St) (k m q : Int32) (n : Nat) : (itr (mgwF m q) n (if q = k then m else -6, mgw0 σ k)).2 42 0 = σ 42 0 := by
  have : ∀ n (a : Int32 × St), (itr (mgwF m q) n a).2 42 0 = a.2 42 0 := by
    intro n a
    induction n with
    | zero => rfl
    | succ n ih =>
      have e : itr (mgwF m q) (n + 1) a = mgwF m q n (itr (mgwF m q) n a) := rfl
      rw [e, mgwF]; dsimp only; rw [ups_j (by decide), ih]
  rw [this]; show mgw0 σ k 42 0 = σ 42 0; unfold mgw0; rw [ups_j (by decide)]
def Y_word (σ : St) (k m : Int32) : Int32 × St := if wth k 0 5 then (if wth m 0 29 then ((mgwA σ k m k).2 42 23, (mgwA σ k m k).2) else (-2, σ)) else (-1, σ)
def Y_heard (σ : St) (k m q : Int32) : Int32 × St := if wth k 0 5 && wth q 0 5 then (if wth m 0 29 then mgwA σ k m q else (-2, σ)) else (-1, σ)
/-! who pays most -/
def mrF (τ : St) (n : Nat) (a : Int32) : Int32 := if τ 53 (ix a) < τ 53 (ix (nI (1 + n))) then nI (1 + n) else a
def mrC (τ : St) : Int32 := itr (mrF τ) 2 0
theorem mr_in {τ : St} {a : Int32} {n : Nat} (hn : n ≤ 2) (ha : a = itr (mrF τ) n 0) : vp_in a 3 := by
  have : ∀ n, n ≤ 2 → ∃ j, j < 3 ∧ itr (mrF τ) n 0 = nI j := by
    intro n
    induction n with
    | zero => intro _; exact ⟨0, by decide, rfl⟩
    | succ n ih =>
      intro h
      have e : itr (mrF τ) (n + 1) 0 = mrF τ n (itr (mrF τ) n 0) := rfl
      rw [e, mrF]; split
      · exact ⟨1 + n, by omega, rfl⟩
      · exact ih (by omega)
  obtain ⟨j, hj, e⟩ := this n hn
  rw [ha, e]; exact vp_in_nI hj (by decide)
def mtF (τ : St) (n : Nat) (a : Int32 × Int32) : Int32 × Int32 := (if a.2 < τ 52 n then nI n else a.1, if a.2 < τ 52 n then τ 52 n else a.2)
def mtP (τ : St) : Int32 × Int32 := itr (mtF τ) 6 (-6, 0)
def Y_rich (σ : St) (w : Int32) : Int32 × St := if wth w 0 2 then (if w = 0 then mrC (mEnd (mNow σ)) else if w = 1 then mEnd (mNow σ) 53 (ix (mrC (mEnd (mNow σ)))) else (mtP (mEnd (mNow σ))).1, mEnd (mNow σ)) else (-2, σ)
/-! sights -/
def ms1 (σ : St) (m : Int32) : St := ups σ 48 (ix (2 * σ 42 10)) m
def ms2 (σ : St) (m k : Int32) : St := ups (ms1 σ m) 48 (ix (2 * ms1 σ m 42 10 + 1)) k
def ms3 (σ : St) (m k : Int32) : St := ups (ms2 σ m k) 42 10 (ms2 σ m k 42 10 + 1)
def Y_seen (σ : St) (m k : Int32) : Int32 × St := if wth k 0 5 then (if wth m 0 29 then (if σ 42 10 = 8 then (-4, σ) else (ms3 σ m k 42 10, ms3 σ m k)) else (-2, σ)) else (-1, σ)
def Y_forg (σ : St) : Int32 × St := (σ 42 10, ups σ 42 10 0)
theorem two_nI (n : Nat) : (2 : Int32) * nI n = nI (2 * n) := pk_mul 2 n
theorem seen_in {x : Int32} {S : Nat} (h : x = nI S) (hS : S ≤ 8) (hx : ¬ x = 8) : vp_in (2 * x) 16 ∧ vp_in (2 * x + 1) 16 := by
  have : S ≠ 8 := fun e => hx (by rw [h, e]; rfl)
  rw [h, two_nI, nI_1]
  exact ⟨vp_in_nI (by omega) (by decide), vp_in_nI (by omega) (by decide)⟩
theorem seen_in2 {σ : St} {m : Int32} {S : Nat} (h : σ 42 10 = nI S) (hS : S ≤ 8) (hx : ¬ σ 42 10 = 8) : vp_in (2 * ms1 σ m 42 10 + 1) 16 := by
  have e : ms1 σ m 42 10 = σ 42 10 := by unfold ms1; rw [ups_other (by decide)]
  rw [e]; exact (seen_in h hS hx).2
theorem sg_in {n : Nat} (h : n < 8) : vp_in (2 * nI n) 16 ∧ vp_in (2 * nI n + 1) 16 := by
  rw [two_nI, nI_1]
  exact ⟨vp_in_nI (by omega) (by decide), vp_in_nI (by omega) (by decide)⟩
theorem sg_ix (n : Nat) (h : n < 8) : ix (2 * nI n) = 2 * n ∧ ix (2 * nI n + 1) = 2 * n + 1 := by
  rw [two_nI, nI_1]
  exact ⟨nI_clamp (by omega), nI_clamp (by omega)⟩
def muI (σ : St) (k : Nat) (i : Nat) (b : Bool) : Bool := b && (!decide (σ 48 (ix (2 * nI i + 1)) = nI k) && (mrd σ (nI k) (σ 48 (ix (2 * nI i))) && (mrd σ (σ 48 (ix (2 * nI i + 1))) (σ 48 (ix (2 * nI i))) && decide (σ 45 k = σ 45 (ix (σ 48 (ix (2 * nI i + 1))))))))
def muB (σ : St) (k : Nat) : Bool := itr (muI σ k) (clN (σ 42 10)) (mAt σ (nI k))
def muO (σ : St) (k : Nat) (a : Int32) : Int32 := a ||| (if muB σ k then ((1 : Int32) <<< (nI k &&& 31)) else 0)
def mHum (σ : St) : Int32 := itr (muO σ) 6 0
/-- the sights are as they must be -/
def SI (σ : St) : Prop := clN (σ 42 10) ≤ 8 ∧ ∀ i, i < clN (σ 42 10) → vp_in (σ 48 (2 * i + 1)) 6
theorem SI_at {σ : St} (h : SI σ) {i : Nat} (hi : i < clN (σ 42 10)) : vp_in (σ 48 (ix (2 * nI i + 1))) 6 := by
  rw [(sg_ix i (Nat.lt_of_lt_of_le hi h.1)).2]; exact h.2 i hi
def Y_hum (σ : St) : Int32 × St := (mHum σ, σ)
def mwK (σ : St) (s : Int32) (m c k : Nat) (a : Int32) : Int32 := a + (if hasB s (nI k) && (mrd σ (nI k) (nI m) && decide (σ 45 k = nI c)) then 1 else 0)
def mwH (σ : St) (s : Int32) (m c : Nat) : Int32 := itr (mwK σ s m c) 6 0
def mwW (σ : St) (s : Int32) (m c : Nat) : Int32 := if mBits s - mwH σ s m c < mwH σ s m c then mwH σ s m c else mBits s - mwH σ s m c
def mwI (σ : St) (s : Int32) (m c : Nat) (a : Int32 × Int32) : Int32 × Int32 := (if mwW σ s m c < a.2 then 10 * nI m + nI c else a.1, if mwW σ s m c < a.2 then mwW σ s m c else a.2)
def mwO (σ : St) (s : Int32) (m : Nat) (a : Int32 × Int32) : Int32 × Int32 := itr (mwI σ s m) 3 a
def mwA (σ : St) (s : Int32) : Int32 × Int32 := if s = 0 then (-6, 1000000) else itr (mwO σ s) (clN (σ 42 0)) (-6, 1000000)
def Y_watch (σ : St) (w : Int32) : Int32 × St := if wth w 0 1 then (if decide ((mwA σ (mHum σ)).1 < 0) || decide (w = 0) then (mwA σ (mHum σ)).1 else (mwA σ (mHum σ)).2, σ) else (-2, σ)
/-! the auction -/
def maE (τ : St) (n : Nat) : Int32 := τ 54 (ix (19 - nI n + 1))
def maG (f s : Int32) (τ : St) (n : Nat) : Int32 := if rem (maE τ n) 2 = rem (19 - nI n + 1) 2 then (if rem (19 - nI n) 2 = 0 then f else s) - maE τ n else 1 - maE τ n
def maL (n : Nat) : Int32 := if (19 : Int32) - nI n = 0 then 0 else 1 - (19 - nI n)
def maF (f s : Int32) (n : Nat) (τ : St) : St := ups τ 54 (ix (19 - nI n)) (if maL n < maG f s τ n then maE τ n else 19 - nI n)
def maA (σ : St) (f s : Int32) : St := itr (maF f s) 20 (ups σ 54 (ix 20) 20)
def Y_auc (σ : St) (f s w : Int32) : Int32 × St := if (wth f 0 20 && wth s 0 20) && wth w 0 1 then (if maA σ f s 54 (ix 0) = 0 then -6 else if w = 1 then maA σ f s 54 (ix 0) else if rem (maA σ f s 54 (ix 0)) 2 = 1 then 0 else 1, maA σ f s) else (-2, σ)
theorem au_in : ∀ n, n < 20 → vp_in (19 - nI n) 21 ∧ vp_in (19 - nI n + 1) 21 := by
  intro n hn
  have h : ∀ n, n < 20 → (19 : Int32) - nI n = nI (19 - n) := by decide
  rw [h n hn, nI_1]
  exact ⟨vp_in_nI (by omega) (by decide), vp_in_nI (by omega) (by decide)⟩
/-! coughs -/
def mkK (τ : St) (c t w : Int32) (k : Nat) (a : Int64) : Int64 := a + (if !decide (nI k = w) && (mrd τ (nI k) (τ 42 16) && decide (τ 45 k = c)) then (τ 42 7 * t).toInt64 else 0)
def mkI (τ : St) (c t : Int32) (a : Int64) : Int64 := if mhold τ c < 0 then a else itr (mkK τ c t (mhold τ c)) 6 a
def mkF (c t : Int32) (_ : Nat) (a : Int64 × St) : Int64 × St := (mkI a.2 c t a.1, mpas a.2)
def mkA (σ : St) (c t : Int32) : Int64 × St := itr (mkF c t) (cnt (mNow σ 42 16) (mNow σ 42 0)) (0, mNow σ)
def mkR (u : Nat) (p : Int32) : Int64 := if p = 0 then lN u / lN (Nat.gcd u 10) else 10 / lN (Nat.gcd u 10)
def Y_cou (σ : St) (u : Nat) (c t p : Int32) : Int64 × St := if wth c 0 2 then (if wth t 0 10 && wth p 0 1 then (mkR u p, (mkA σ c t).2) else (-1000000000000000002, σ)) else (-1000000000000000001, σ)
/-! years -/
def myX (x : Int32) : Int32 := rem (75 * x + 74) 65537
def myS (x : Int32) (τ : St) : St := if rem x 8 < 2 then (if τ 42 16 < τ 42 0 then mpas τ else τ) else if rem x 8 < 5 then ups τ 51 (ix (rem (x / 8) 6)) (rem (x / 64) 20) else if mrd τ (rem (x / 8) 6) (τ 42 16) then mcou τ (rem (x / 8) 6) else τ
def myF (_ : Nat) (a : Int32 × St) : Int32 × St := (myX a.1, myS (myX a.1) a.2)
def myA (σ : St) (s m : Int32) : Int32 × St := itr myF (clN m) (s, mNow σ)
def Y_year (σ : St) (s m w : Int32) : Int32 × St := if (wth s 0 9999 && wth m 1 99) && wth w 0 2 then (if w = 0 then (myA σ s m).2 42 17 - (myA σ s m).2 42 9 else if w = 1 then (myA σ s m).2 42 18 else (myA σ s m).2 42 16, (myA σ s m).2) else (-2, σ)
theorem wth_nI {v : Int32} {b : Int32} {B : Nat} (hb : b.toInt = B) (h : wth v 0 b = true) : ∃ j : Nat, j ≤ B ∧ v = nI j := by
  simp only [wth, Bool.and_eq_true, Bool.not_eq_true', decide_eq_false_iff_not] at h
  exact nI_of2 hb h.1 (Int32.not_lt.mp h.2)
theorem remN {a d : Nat} (ha : a < 2 ^ 31) (h0 : 0 < d) (hd : d < 2 ^ 31) : rem (nI a) (nI d) = nI (a % d) := pk_rem ha h0 hd
theorem myX_nI {j : Nat} (h : j < 65537) : ∃ i, i < 65537 ∧ myX (nI j) = nI i := by
  refine ⟨(75 * j + 74) % 65537, Nat.mod_lt _ (by decide), ?_⟩
  unfold myX
  rw [show (75 : Int32) * nI j + 74 = nI (75 * j + 74) by rw [← nI_add, ← pk_mul]; rfl]
  exact remN (by omega) (by decide) (by decide)
theorem my_rng {s : Int32} {τ : St} {j : Nat} (hs : s = nI j) (hj : j < 65537) : ∀ n, ∃ i, i < 65537 ∧ (itr myF n (s, τ)).1 = nI i
  | 0 => ⟨j, hj, hs⟩
  | n + 1 => by
    obtain ⟨i, hi, e⟩ := my_rng hs hj n (τ := τ)
    obtain ⟨k, hk, e2⟩ := myX_nI hi
    refine ⟨k, hk, ?_⟩
    have e3 : (itr myF (n + 1) (s, τ)).1 = myX (itr myF n (s, τ)).1 := rfl
    rw [e3, e, e2]
theorem my_in {s : Int32} {τ : St} {n : Nat} {a : Int32 × St} (hs : wth s 0 9999 = true) (ha : a = itr myF n (s, τ)) : vp_in (rem (myX a.1 / 8) 6) 6 := by
  obtain ⟨j, hj, e⟩ := wth_nI (B := 9999) rfl hs
  obtain ⟨i, hi, e2⟩ := my_rng (τ := τ) e (by omega) n
  obtain ⟨k, hk, e3⟩ := myX_nI hi
  rw [ha, e2, e3, show (8 : Int32) = nI 8 from rfl, pk_div (by omega) (by decide) (by decide), show (6 : Int32) = nI 6 from rfl, remN (by omega) (by decide) (by decide)]
  exact vp_in_nI (Nat.mod_lt _ (by decide)) (by decide)
/-! images -/
theorem im_in {n : Int32} (h : wth n 0 1 = true) {c : Nat} (hc : c < 70) : vp_in (70 * n + nI c) 140 := by
  obtain ⟨j, hj, e⟩ := wth_nI (B := 1) rfl h
  rw [e, show (70 : Int32) * nI j = nI (70 * j) from pk_mul 70 j, nI_add]
  exact vp_in_nI (by omega) (by decide)
theorem im_in2 {n : Int32} (h : wth n 0 1 = true) {b c : Nat} (hc : b + c < 70) : vp_in (70 * n + nI b + nI c) 140 := by
  rw [Int32.add_assoc, nI_add]; exact im_in h hc
theorem im_in3 {n : Int32} (h : wth n 0 1 = true) : vp_in n 2 := by
  obtain ⟨j, hj, e⟩ := wth_nI (B := 1) rfl h
  rw [e]; exact vp_in_nI (by omega) (by decide)
def imP (τ : St) (p : Int32) (q j : Nat) : St := ups τ 55 (ix p) (τ q j)
def im6 (n : Int32) (k : Nat) (τ : St) : St := imP (imP (imP (imP (imP τ (70 * n + nI k) 43 k) (70 * n + 6 + nI k) 44 k) (70 * n + 12 + nI k) 45 k) (70 * n + 18 + nI k) 46 k) (70 * n + 24 + nI k) 47 k
def im16 (n : Int32) (k : Nat) (τ : St) : St := imP τ (70 * n + 30 + nI k) 48 k
def imA (σ : St) (n : Int32) : St := imP (imP (imP (imP (imP (imP (itr (im16 n) 16 (itr (im6 n) 6 σ)) (70 * n + 50) 42 0) (70 * n + 51) 42 1) (70 * n + 52) 42 7) (70 * n + 53) 42 8) (70 * n + 54) 42 9) (70 * n + 55) 42 10
def Y_img (σ : St) (n : Int32) : Int32 × St := if wth n 0 1 then (1, ups (imA σ n) 56 (ix n) 1) else (-2, σ)
def irP (τ : St) (q j : Nat) (p : Int32) : St := ups τ q j (τ 55 (ix p))
def ir6 (n : Int32) (k : Nat) (τ : St) : St := irP (irP (irP (irP (irP τ 43 k (70 * n + nI k)) 44 k (70 * n + 6 + nI k)) 45 k (70 * n + 12 + nI k)) 46 k (70 * n + 18 + nI k)) 47 k (70 * n + 24 + nI k)
def ir16 (n : Int32) (k : Nat) (τ : St) : St := irP τ 48 k (70 * n + 30 + nI k)
def irA (σ : St) (n : Int32) : St := irP (irP (irP (irP (irP (irP (itr (ir16 n) 16 (itr (ir6 n) 6 σ)) 42 0 (70 * n + 50)) 42 1 (70 * n + 51)) 42 7 (70 * n + 52)) 42 8 (70 * n + 53)) 42 9 (70 * n + 54)) 42 10 (70 * n + 55)
def Y_rest (σ : St) (n : Int32) : Int32 × St := if wth n 0 1 then (if σ 56 (ix n) = 0 then (-3, σ) else (1, irA σ n)) else (-2, σ)
def Y_told (σ : St) (w : Int32) : Int32 × St := (if w < 10 then (if w = 0 then σ 42 12 else if w = 1 then σ 42 0 else if w = 2 then σ 42 8 else if w = 3 then σ 42 9 else if w = 4 then σ 42 7 else if w = 5 then σ 42 10 else if w = 6 then σ 42 1 else -2) else (if wth (w / 10 - 1) 0 5 then (if rem w 10 = 0 then σ 43 (ix (w / 10 - 1)) else if rem w 10 = 1 then σ 44 (ix (w / 10 - 1)) else if rem w 10 = 2 then σ 45 (ix (w / 10 - 1)) else if rem w 10 = 3 then σ 46 (ix (w / 10 - 1)) else if rem w 10 = 4 then σ 47 (ix (w / 10 - 1)) else -2) else -2), σ)

set_option maxRecDepth 20000 in
set_option maxHeartbeats 1000000 in
theorem t_X8_faultOf {σ : St} (hc : clN (σ 42 12) ≤ 60) : Ct MX8_faultOf [.ref 42] σ (some (.int (mFault σ))) σ := by
  refine ct_of (ls0 := [some (.ref 42), none, none, none, none, none]) ok_MX8_faultOf rfl (Nat.le_of_ble_eq_true rfl) rfl ?_
  intro g X F
  refine zw_iconst (v := 0) X dX8_faultOf_0 ik_0 ?_
  refine zw_istore_1 X dX8_faultOf_1 ?_
  refine zw_iconst (v := 0) X dX8_faultOf_2 ik_0 ?_
  refine zw_istore_2 X dX8_faultOf_3 ?_
  refine zfind (S := fun j => ∀ A T : Int32, A = mW (σ 49) j → T = nI j → ZW g 4 [some (.ref 42), some (.int A), some (.int T), none, none, none] [] σ) (P := mBad (σ 49)) (N := clN (σ 42 12)) (fun j hj ih hb A T hA hT0 => ?_) (fun hb A T hA hT0 => ?_) _ _ rfl rfl
  · subst hA hT0
    refine zw_iload_2 X dX8_faultOf_4 ?_
    refine zw_aload_0 X dX8_faultOf_5 ?_
    refine zw_getI X dX8_faultOf_6 fl_X8_85 ck_X8 sh_42 rfl ?_
    refine zw_icmpge_f (tgt := 146) X dX8_faultOf_9 (by decide) ((clN_lt (Nat.le_of_lt hj)).mpr hj) ?_
    refine zw_aload_0 X dX8_faultOf_12 ?_
    refine zw_getR X dX8_faultOf_13 fl_X8_35 ck_X8 sh_42 rfl ?_
    refine zw_iload_2 X dX8_faultOf_16 ?_
    refine zw_ialdN X dX8_faultOf_17 sh_49 (Nat.lt_of_lt_of_le hj hc) (by decide) ?_
    refine zw_istore_3 X dX8_faultOf_18 ?_
    refine zw_iload_3 X dX8_faultOf_19 ?_
    refine zw_bipush (v := 99) X dX8_faultOf_20 bk_99 ?_
    refine zw_icmpeq (tgt := 37) X dX8_faultOf_22 (by decide) (fun c_22 => ?_) (fun c_22 => ?_)
    · refine zw_iconst (v := 1) X dX8_faultOf_37 ik_1 ?_
      refine zw_goto (tgt := 42) X dX8_faultOf_38 (by decide) ?_
      refine zw_istore_4 X dX8_faultOf_42 ?_
      refine zw_iload_1 X dX8_faultOf_44 ?_
      refine zw_ifne (tgt := 69) X dX8_faultOf_45 (by decide) (fun c_45 => ?_) (fun c_45 => ?_)
      · refine zw_iload_1 X dX8_faultOf_69 ?_
        refine zw_iconst (v := 1) X dX8_faultOf_70 ik_1 ?_
        refine zw_icmpne (tgt := 94) X dX8_faultOf_71 (by decide) (fun c_71 => ?_) (fun c_71 => ?_)
        · refine zw_iload_3 X dX8_faultOf_94 ?_
          refine zw_cS_ii X dX8_faultOf_95 lk_X8_91 ok_MX8_isDigit st_MX8_isDigit rm_X8_faultOf_X8_isDigit (Nat.le_of_ble_eq_true rfl) t_X8_isDigit ?_
          refine zw_istore_5 X dX8_faultOf_98 ?_
          refine zw_iload_5 X dX8_faultOf_100 ?_
          refine zw_ifneB (tgt := 107) X dX8_faultOf_102 (by decide) (fun c_102 => ?_) (fun c_102 => ?_)
          · refine zw_iload_1 X dX8_faultOf_107 ?_
            refine zw_ifne (tgt := 122) X dX8_faultOf_108 (by decide) (fun c_108 => ?_) (fun c_108 => ?_)
            · refine zw_iload_1 X dX8_faultOf_122 ?_
              refine zw_iconst (v := 1) X dX8_faultOf_123 ik_1 ?_
              refine zw_icmpne (tgt := 138) X dX8_faultOf_124 (by decide) (fun c_124 => ?_) (fun c_124 => ?_)
              · refine zw_iconst (v := 0) X dX8_faultOf_138 ik_0 ?_
                refine zw_istore_1 X dX8_faultOf_139 ?_
                refine zw_iinc_2_p1 X dX8_faultOf_140 ?_
                refine zw_goto (tgt := 4) X dX8_faultOf_143 (by decide) ?_
                refine zw_fg_3 ?_
                refine zw_fg_4 ?_
                refine zw_fg_5 ?_
                exact ih (by first | (simp only [mBad, mFits, eq_true c_22, c_45, c_71, c_102, c_108, c_124, decide_true, decide_false, Bool.and_true, Bool.true_and, Bool.and_false, Bool.false_and, Bool.or_true, Bool.true_or, Bool.or_false, Bool.false_or, Bool.not_true, Bool.not_false, if_true, if_false, ite_true, ite_false, Bool.false_eq_true, not_true_eq_false, not_false_eq_true, bI_t, bI_f, decide_eq_true_eq, reduceCtorEq]; done) | (simp [mBad, mFits, eq_true c_22, c_45, c_71, c_102, c_108, c_124]; done) | simp_all) _ _ (by first | (simp only [mW_succ, mNext, eq_true c_22, c_45, c_71, c_102, c_108, c_124, decide_true, decide_false, Bool.and_true, Bool.true_and, Bool.and_false, Bool.false_and, Bool.or_true, Bool.true_or, Bool.or_false, Bool.false_or, Bool.not_true, Bool.not_false, if_true, if_false, ite_true, ite_false, Bool.false_eq_true, not_true_eq_false, not_false_eq_true, bI_t, bI_f, decide_eq_true_eq, reduceCtorEq]; done) | (simp [mW_succ, mNext, eq_true c_22, c_45, c_71, c_102, c_108, c_124]; done) | simp_all) (nI_1 j)
              · refine zw_iload_3 X dX8_faultOf_127 ?_
                refine zw_cS_ii X dX8_faultOf_128 lk_X8_91 ok_MX8_isDigit st_MX8_isDigit rm_X8_faultOf_X8_isDigit (Nat.le_of_ble_eq_true rfl) t_X8_isDigit ?_
                refine zw_ifeqB (tgt := 138) X dX8_faultOf_131 (by decide) (fun c_131 => ?_) (fun c_131 => ?_)
                · refine zw_iconst (v := 0) X dX8_faultOf_138 ik_0 ?_
                  refine zw_istore_1 X dX8_faultOf_139 ?_
                  refine zw_iinc_2_p1 X dX8_faultOf_140 ?_
                  refine zw_goto (tgt := 4) X dX8_faultOf_143 (by decide) ?_
                  refine zw_fg_3 ?_
                  refine zw_fg_4 ?_
                  refine zw_fg_5 ?_
                  exact ih (by first | (simp only [mBad, mFits, eq_true c_22, c_45, c_71, c_102, c_108, eq_true c_124, c_131, decide_true, decide_false, Bool.and_true, Bool.true_and, Bool.and_false, Bool.false_and, Bool.or_true, Bool.true_or, Bool.or_false, Bool.false_or, Bool.not_true, Bool.not_false, if_true, if_false, ite_true, ite_false, Bool.false_eq_true, not_true_eq_false, not_false_eq_true, bI_t, bI_f, decide_eq_true_eq, reduceCtorEq]; done) | (simp [mBad, mFits, eq_true c_22, c_45, c_71, c_102, c_108, eq_true c_124, c_131]; done) | simp_all) _ _ (by first | (simp only [mW_succ, mNext, eq_true c_22, c_45, c_71, c_102, c_108, eq_true c_124, c_131, decide_true, decide_false, Bool.and_true, Bool.true_and, Bool.and_false, Bool.false_and, Bool.or_true, Bool.true_or, Bool.or_false, Bool.false_or, Bool.not_true, Bool.not_false, if_true, if_false, ite_true, ite_false, Bool.false_eq_true, not_true_eq_false, not_false_eq_true, bI_t, bI_f, decide_eq_true_eq, reduceCtorEq]; done) | (simp [mW_succ, mNext, eq_true c_22, c_45, c_71, c_102, c_108, eq_true c_124, c_131]; done) | simp_all) (nI_1 j)
                · refine zw_iconst (v := 2) X dX8_faultOf_134 ik_2 ?_
                  refine zw_goto (tgt := 139) X dX8_faultOf_135 (by decide) ?_
                  refine zw_istore_1 X dX8_faultOf_139 ?_
                  refine zw_iinc_2_p1 X dX8_faultOf_140 ?_
                  refine zw_goto (tgt := 4) X dX8_faultOf_143 (by decide) ?_
                  refine zw_fg_3 ?_
                  refine zw_fg_4 ?_
                  refine zw_fg_5 ?_
                  exact ih (by first | (simp only [mBad, mFits, eq_true c_22, c_45, c_71, c_102, c_108, eq_true c_124, c_131, decide_true, decide_false, Bool.and_true, Bool.true_and, Bool.and_false, Bool.false_and, Bool.or_true, Bool.true_or, Bool.or_false, Bool.false_or, Bool.not_true, Bool.not_false, if_true, if_false, ite_true, ite_false, Bool.false_eq_true, not_true_eq_false, not_false_eq_true, bI_t, bI_f, decide_eq_true_eq, reduceCtorEq]; done) | (simp [mBad, mFits, eq_true c_22, c_45, c_71, c_102, c_108, eq_true c_124, c_131]; done) | simp_all) _ _ (by first | (simp only [mW_succ, mNext, eq_true c_22, c_45, c_71, c_102, c_108, eq_true c_124, c_131, decide_true, decide_false, Bool.and_true, Bool.true_and, Bool.and_false, Bool.false_and, Bool.or_true, Bool.true_or, Bool.or_false, Bool.false_or, Bool.not_true, Bool.not_false, if_true, if_false, ite_true, ite_false, Bool.false_eq_true, not_true_eq_false, not_false_eq_true, bI_t, bI_f, decide_eq_true_eq, reduceCtorEq]; done) | (simp [mW_succ, mNext, eq_true c_22, c_45, c_71, c_102, c_108, eq_true c_124, c_131]; done) | simp_all) (nI_1 j)
            · refine zw_iload_3 X dX8_faultOf_111 ?_
              refine zw_cS_ii X dX8_faultOf_112 lk_X8_88 ok_MX8_isLetter st_MX8_isLetter rm_X8_faultOf_X8_isLetter (Nat.le_of_ble_eq_true rfl) t_X8_isLetter ?_
              refine zw_ifeqB (tgt := 122) X dX8_faultOf_115 (by decide) (fun c_115 => ?_) (fun c_115 => ?_)
              · refine zw_iload_1 X dX8_faultOf_122 ?_
                refine zw_iconst (v := 1) X dX8_faultOf_123 ik_1 ?_
                refine zw_icmpne (tgt := 138) X dX8_faultOf_124 (by decide) (fun c_124 => ?_) (fun c_124 => ?_)
                · refine zw_iconst (v := 0) X dX8_faultOf_138 ik_0 ?_
                  refine zw_istore_1 X dX8_faultOf_139 ?_
                  refine zw_iinc_2_p1 X dX8_faultOf_140 ?_
                  refine zw_goto (tgt := 4) X dX8_faultOf_143 (by decide) ?_
                  refine zw_fg_3 ?_
                  refine zw_fg_4 ?_
                  refine zw_fg_5 ?_
                  exact ih (by first | (simp only [mBad, mFits, eq_true c_22, c_45, c_71, c_102, eq_true c_108, c_115, c_124, decide_true, decide_false, Bool.and_true, Bool.true_and, Bool.and_false, Bool.false_and, Bool.or_true, Bool.true_or, Bool.or_false, Bool.false_or, Bool.not_true, Bool.not_false, if_true, if_false, ite_true, ite_false, Bool.false_eq_true, not_true_eq_false, not_false_eq_true, bI_t, bI_f, decide_eq_true_eq, reduceCtorEq]; done) | (simp [mBad, mFits, eq_true c_22, c_45, c_71, c_102, eq_true c_108, c_115, c_124]; done) | simp_all) _ _ (by first | (simp only [mW_succ, mNext, eq_true c_22, c_45, c_71, c_102, eq_true c_108, c_115, c_124, decide_true, decide_false, Bool.and_true, Bool.true_and, Bool.and_false, Bool.false_and, Bool.or_true, Bool.true_or, Bool.or_false, Bool.false_or, Bool.not_true, Bool.not_false, if_true, if_false, ite_true, ite_false, Bool.false_eq_true, not_true_eq_false, not_false_eq_true, bI_t, bI_f, decide_eq_true_eq, reduceCtorEq]; done) | (simp [mW_succ, mNext, eq_true c_22, c_45, c_71, c_102, eq_true c_108, c_115, c_124]; done) | simp_all) (nI_1 j)
                · refine zw_iload_3 X dX8_faultOf_127 ?_
                  refine zw_cS_ii X dX8_faultOf_128 lk_X8_91 ok_MX8_isDigit st_MX8_isDigit rm_X8_faultOf_X8_isDigit (Nat.le_of_ble_eq_true rfl) t_X8_isDigit ?_
                  refine zw_ifeqB (tgt := 138) X dX8_faultOf_131 (by decide) (fun c_131 => ?_) (fun c_131 => ?_)
                  · refine zw_iconst (v := 0) X dX8_faultOf_138 ik_0 ?_
                    refine zw_istore_1 X dX8_faultOf_139 ?_
                    refine zw_iinc_2_p1 X dX8_faultOf_140 ?_
                    refine zw_goto (tgt := 4) X dX8_faultOf_143 (by decide) ?_
                    refine zw_fg_3 ?_
                    refine zw_fg_4 ?_
                    refine zw_fg_5 ?_
                    exact ih (by first | (simp only [mBad, mFits, eq_true c_22, c_45, c_71, c_102, eq_true c_108, c_115, eq_true c_124, c_131, decide_true, decide_false, Bool.and_true, Bool.true_and, Bool.and_false, Bool.false_and, Bool.or_true, Bool.true_or, Bool.or_false, Bool.false_or, Bool.not_true, Bool.not_false, if_true, if_false, ite_true, ite_false, Bool.false_eq_true, not_true_eq_false, not_false_eq_true, bI_t, bI_f, decide_eq_true_eq, reduceCtorEq]; done) | (simp [mBad, mFits, eq_true c_22, c_45, c_71, c_102, eq_true c_108, c_115, eq_true c_124, c_131]; done) | simp_all) _ _ (by first | (simp only [mW_succ, mNext, eq_true c_22, c_45, c_71, c_102, eq_true c_108, c_115, eq_true c_124, c_131, decide_true, decide_false, Bool.and_true, Bool.true_and, Bool.and_false, Bool.false_and, Bool.or_true, Bool.true_or, Bool.or_false, Bool.false_or, Bool.not_true, Bool.not_false, if_true, if_false, ite_true, ite_false, Bool.false_eq_true, not_true_eq_false, not_false_eq_true, bI_t, bI_f, decide_eq_true_eq, reduceCtorEq]; done) | (simp [mW_succ, mNext, eq_true c_22, c_45, c_71, c_102, eq_true c_108, c_115, eq_true c_124, c_131]; done) | simp_all) (nI_1 j)
                  · refine zw_iconst (v := 2) X dX8_faultOf_134 ik_2 ?_
                    refine zw_goto (tgt := 139) X dX8_faultOf_135 (by decide) ?_
                    refine zw_istore_1 X dX8_faultOf_139 ?_
                    refine zw_iinc_2_p1 X dX8_faultOf_140 ?_
                    refine zw_goto (tgt := 4) X dX8_faultOf_143 (by decide) ?_
                    refine zw_fg_3 ?_
                    refine zw_fg_4 ?_
                    refine zw_fg_5 ?_
                    exact ih (by first | (simp only [mBad, mFits, eq_true c_22, c_45, c_71, c_102, eq_true c_108, c_115, eq_true c_124, c_131, decide_true, decide_false, Bool.and_true, Bool.true_and, Bool.and_false, Bool.false_and, Bool.or_true, Bool.true_or, Bool.or_false, Bool.false_or, Bool.not_true, Bool.not_false, if_true, if_false, ite_true, ite_false, Bool.false_eq_true, not_true_eq_false, not_false_eq_true, bI_t, bI_f, decide_eq_true_eq, reduceCtorEq]; done) | (simp [mBad, mFits, eq_true c_22, c_45, c_71, c_102, eq_true c_108, c_115, eq_true c_124, c_131]; done) | simp_all) _ _ (by first | (simp only [mW_succ, mNext, eq_true c_22, c_45, c_71, c_102, eq_true c_108, c_115, eq_true c_124, c_131, decide_true, decide_false, Bool.and_true, Bool.true_and, Bool.and_false, Bool.false_and, Bool.or_true, Bool.true_or, Bool.or_false, Bool.false_or, Bool.not_true, Bool.not_false, if_true, if_false, ite_true, ite_false, Bool.false_eq_true, not_true_eq_false, not_false_eq_true, bI_t, bI_f, decide_eq_true_eq, reduceCtorEq]; done) | (simp [mW_succ, mNext, eq_true c_22, c_45, c_71, c_102, eq_true c_108, c_115, eq_true c_124, c_131]; done) | simp_all) (nI_1 j)
              · refine zw_iconst (v := 1) X dX8_faultOf_118 ik_1 ?_
                refine zw_goto (tgt := 139) X dX8_faultOf_119 (by decide) ?_
                refine zw_istore_1 X dX8_faultOf_139 ?_
                refine zw_iinc_2_p1 X dX8_faultOf_140 ?_
                refine zw_goto (tgt := 4) X dX8_faultOf_143 (by decide) ?_
                refine zw_fg_3 ?_
                refine zw_fg_4 ?_
                refine zw_fg_5 ?_
                exact ih (by first | (simp only [mBad, mFits, eq_true c_22, c_45, c_71, c_102, eq_true c_108, c_115, decide_true, decide_false, Bool.and_true, Bool.true_and, Bool.and_false, Bool.false_and, Bool.or_true, Bool.true_or, Bool.or_false, Bool.false_or, Bool.not_true, Bool.not_false, if_true, if_false, ite_true, ite_false, Bool.false_eq_true, not_true_eq_false, not_false_eq_true, bI_t, bI_f, decide_eq_true_eq, reduceCtorEq]; done) | (simp [mBad, mFits, eq_true c_22, c_45, c_71, c_102, eq_true c_108, c_115]; done) | simp_all) _ _ (by first | (simp only [mW_succ, mNext, eq_true c_22, c_45, c_71, c_102, eq_true c_108, c_115, decide_true, decide_false, Bool.and_true, Bool.true_and, Bool.and_false, Bool.false_and, Bool.or_true, Bool.true_or, Bool.or_false, Bool.false_or, Bool.not_true, Bool.not_false, if_true, if_false, ite_true, ite_false, Bool.false_eq_true, not_true_eq_false, not_false_eq_true, bI_t, bI_f, decide_eq_true_eq, reduceCtorEq]; done) | (simp [mW_succ, mNext, eq_true c_22, c_45, c_71, c_102, eq_true c_108, c_115]; done) | simp_all) (nI_1 j)
          · refine zw_iload_2 X dX8_faultOf_105 ?_
            exact zw_iret X F dX8_faultOf_106 rfl (by rw [mFault, fstB_at (P := mBad (σ 49)) (by first | (simp only [mBad, mFits, eq_true c_22, c_45, c_71, c_102, decide_true, decide_false, Bool.and_true, Bool.true_and, Bool.and_false, Bool.false_and, Bool.or_true, Bool.true_or, Bool.or_false, Bool.false_or, Bool.not_true, Bool.not_false, if_true, if_false, ite_true, ite_false, Bool.false_eq_true, not_true_eq_false, not_false_eq_true, bI_t, bI_f, decide_eq_true_eq, reduceCtorEq]; done) | (simp [mBad, mFits, eq_true c_22, c_45, c_71, c_102]; done) | simp_all) hb hj, if_pos hj]) (rfl)
        · refine zw_iload_4 X dX8_faultOf_74 ?_
          refine zw_ifne_t (tgt := 86) X dX8_faultOf_76 (by decide) (by decide) ?_
          refine zw_iconst (v := 1) X dX8_faultOf_86 ik_1 ?_
          refine zw_goto (tgt := 98) X dX8_faultOf_87 (by decide) ?_
          refine zw_istore_5 X dX8_faultOf_98 ?_
          refine zw_iload_5 X dX8_faultOf_100 ?_
          refine zw_ifne_t (tgt := 107) X dX8_faultOf_102 (by decide) (by decide) ?_
          refine zw_iload_1 X dX8_faultOf_107 ?_
          refine zw_ifne (tgt := 122) X dX8_faultOf_108 (by decide) (fun c_108 => ?_) (fun c_108 => ?_)
          · refine zw_iload_1 X dX8_faultOf_122 ?_
            refine zw_iconst (v := 1) X dX8_faultOf_123 ik_1 ?_
            refine zw_icmpne (tgt := 138) X dX8_faultOf_124 (by decide) (fun c_124 => ?_) (fun c_124 => ?_)
            · refine zw_iconst (v := 0) X dX8_faultOf_138 ik_0 ?_
              refine zw_istore_1 X dX8_faultOf_139 ?_
              refine zw_iinc_2_p1 X dX8_faultOf_140 ?_
              refine zw_goto (tgt := 4) X dX8_faultOf_143 (by decide) ?_
              refine zw_fg_3 ?_
              refine zw_fg_4 ?_
              refine zw_fg_5 ?_
              exact ih (by first | (simp only [mBad, mFits, eq_true c_22, c_45, eq_true c_71, c_108, c_124, decide_true, decide_false, Bool.and_true, Bool.true_and, Bool.and_false, Bool.false_and, Bool.or_true, Bool.true_or, Bool.or_false, Bool.false_or, Bool.not_true, Bool.not_false, if_true, if_false, ite_true, ite_false, Bool.false_eq_true, not_true_eq_false, not_false_eq_true, bI_t, bI_f, decide_eq_true_eq, reduceCtorEq]; done) | (simp [mBad, mFits, eq_true c_22, c_45, eq_true c_71, c_108, c_124]; done) | simp_all) _ _ (by first | (simp only [mW_succ, mNext, eq_true c_22, c_45, eq_true c_71, c_108, c_124, decide_true, decide_false, Bool.and_true, Bool.true_and, Bool.and_false, Bool.false_and, Bool.or_true, Bool.true_or, Bool.or_false, Bool.false_or, Bool.not_true, Bool.not_false, if_true, if_false, ite_true, ite_false, Bool.false_eq_true, not_true_eq_false, not_false_eq_true, bI_t, bI_f, decide_eq_true_eq, reduceCtorEq]; done) | (simp [mW_succ, mNext, eq_true c_22, c_45, eq_true c_71, c_108, c_124]; done) | simp_all) (nI_1 j)
            · refine zw_iload_3 X dX8_faultOf_127 ?_
              refine zw_cS_ii X dX8_faultOf_128 lk_X8_91 ok_MX8_isDigit st_MX8_isDigit rm_X8_faultOf_X8_isDigit (Nat.le_of_ble_eq_true rfl) t_X8_isDigit ?_
              refine zw_ifeqB (tgt := 138) X dX8_faultOf_131 (by decide) (fun c_131 => ?_) (fun c_131 => ?_)
              · refine zw_iconst (v := 0) X dX8_faultOf_138 ik_0 ?_
                refine zw_istore_1 X dX8_faultOf_139 ?_
                refine zw_iinc_2_p1 X dX8_faultOf_140 ?_
                refine zw_goto (tgt := 4) X dX8_faultOf_143 (by decide) ?_
                refine zw_fg_3 ?_
                refine zw_fg_4 ?_
                refine zw_fg_5 ?_
                exact ih (by first | (simp only [mBad, mFits, eq_true c_22, c_45, eq_true c_71, c_108, eq_true c_124, c_131, decide_true, decide_false, Bool.and_true, Bool.true_and, Bool.and_false, Bool.false_and, Bool.or_true, Bool.true_or, Bool.or_false, Bool.false_or, Bool.not_true, Bool.not_false, if_true, if_false, ite_true, ite_false, Bool.false_eq_true, not_true_eq_false, not_false_eq_true, bI_t, bI_f, decide_eq_true_eq, reduceCtorEq]; done) | (simp [mBad, mFits, eq_true c_22, c_45, eq_true c_71, c_108, eq_true c_124, c_131]; done) | simp_all) _ _ (by first | (simp only [mW_succ, mNext, eq_true c_22, c_45, eq_true c_71, c_108, eq_true c_124, c_131, decide_true, decide_false, Bool.and_true, Bool.true_and, Bool.and_false, Bool.false_and, Bool.or_true, Bool.true_or, Bool.or_false, Bool.false_or, Bool.not_true, Bool.not_false, if_true, if_false, ite_true, ite_false, Bool.false_eq_true, not_true_eq_false, not_false_eq_true, bI_t, bI_f, decide_eq_true_eq, reduceCtorEq]; done) | (simp [mW_succ, mNext, eq_true c_22, c_45, eq_true c_71, c_108, eq_true c_124, c_131]; done) | simp_all) (nI_1 j)
              · refine zw_iconst (v := 2) X dX8_faultOf_134 ik_2 ?_
                refine zw_goto (tgt := 139) X dX8_faultOf_135 (by decide) ?_
                refine zw_istore_1 X dX8_faultOf_139 ?_
                refine zw_iinc_2_p1 X dX8_faultOf_140 ?_
                refine zw_goto (tgt := 4) X dX8_faultOf_143 (by decide) ?_
                refine zw_fg_3 ?_
                refine zw_fg_4 ?_
                refine zw_fg_5 ?_
                exact ih (by first | (simp only [mBad, mFits, eq_true c_22, c_45, eq_true c_71, c_108, eq_true c_124, c_131, decide_true, decide_false, Bool.and_true, Bool.true_and, Bool.and_false, Bool.false_and, Bool.or_true, Bool.true_or, Bool.or_false, Bool.false_or, Bool.not_true, Bool.not_false, if_true, if_false, ite_true, ite_false, Bool.false_eq_true, not_true_eq_false, not_false_eq_true, bI_t, bI_f, decide_eq_true_eq, reduceCtorEq]; done) | (simp [mBad, mFits, eq_true c_22, c_45, eq_true c_71, c_108, eq_true c_124, c_131]; done) | simp_all) _ _ (by first | (simp only [mW_succ, mNext, eq_true c_22, c_45, eq_true c_71, c_108, eq_true c_124, c_131, decide_true, decide_false, Bool.and_true, Bool.true_and, Bool.and_false, Bool.false_and, Bool.or_true, Bool.true_or, Bool.or_false, Bool.false_or, Bool.not_true, Bool.not_false, if_true, if_false, ite_true, ite_false, Bool.false_eq_true, not_true_eq_false, not_false_eq_true, bI_t, bI_f, decide_eq_true_eq, reduceCtorEq]; done) | (simp [mW_succ, mNext, eq_true c_22, c_45, eq_true c_71, c_108, eq_true c_124, c_131]; done) | simp_all) (nI_1 j)
          · refine zw_iload_3 X dX8_faultOf_111 ?_
            refine zw_cS_ii X dX8_faultOf_112 lk_X8_88 ok_MX8_isLetter st_MX8_isLetter rm_X8_faultOf_X8_isLetter (Nat.le_of_ble_eq_true rfl) t_X8_isLetter ?_
            refine zw_ifeqB (tgt := 122) X dX8_faultOf_115 (by decide) (fun c_115 => ?_) (fun c_115 => ?_)
            · refine zw_iload_1 X dX8_faultOf_122 ?_
              refine zw_iconst (v := 1) X dX8_faultOf_123 ik_1 ?_
              refine zw_icmpne (tgt := 138) X dX8_faultOf_124 (by decide) (fun c_124 => ?_) (fun c_124 => ?_)
              · refine zw_iconst (v := 0) X dX8_faultOf_138 ik_0 ?_
                refine zw_istore_1 X dX8_faultOf_139 ?_
                refine zw_iinc_2_p1 X dX8_faultOf_140 ?_
                refine zw_goto (tgt := 4) X dX8_faultOf_143 (by decide) ?_
                refine zw_fg_3 ?_
                refine zw_fg_4 ?_
                refine zw_fg_5 ?_
                exact ih (by first | (simp only [mBad, mFits, eq_true c_22, c_45, eq_true c_71, eq_true c_108, c_115, c_124, decide_true, decide_false, Bool.and_true, Bool.true_and, Bool.and_false, Bool.false_and, Bool.or_true, Bool.true_or, Bool.or_false, Bool.false_or, Bool.not_true, Bool.not_false, if_true, if_false, ite_true, ite_false, Bool.false_eq_true, not_true_eq_false, not_false_eq_true, bI_t, bI_f, decide_eq_true_eq, reduceCtorEq]; done) | (simp [mBad, mFits, eq_true c_22, c_45, eq_true c_71, eq_true c_108, c_115, c_124]; done) | simp_all) _ _ (by first | (simp only [mW_succ, mNext, eq_true c_22, c_45, eq_true c_71, eq_true c_108, c_115, c_124, decide_true, decide_false, Bool.and_true, Bool.true_and, Bool.and_false, Bool.false_and, Bool.or_true, Bool.true_or, Bool.or_false, Bool.false_or, Bool.not_true, Bool.not_false, if_true, if_false, ite_true, ite_false, Bool.false_eq_true, not_true_eq_false, not_false_eq_true, bI_t, bI_f, decide_eq_true_eq, reduceCtorEq]; done) | (simp [mW_succ, mNext, eq_true c_22, c_45, eq_true c_71, eq_true c_108, c_115, c_124]; done) | simp_all) (nI_1 j)
              · refine zw_iload_3 X dX8_faultOf_127 ?_
                refine zw_cS_ii X dX8_faultOf_128 lk_X8_91 ok_MX8_isDigit st_MX8_isDigit rm_X8_faultOf_X8_isDigit (Nat.le_of_ble_eq_true rfl) t_X8_isDigit ?_
                refine zw_ifeqB (tgt := 138) X dX8_faultOf_131 (by decide) (fun c_131 => ?_) (fun c_131 => ?_)
                · refine zw_iconst (v := 0) X dX8_faultOf_138 ik_0 ?_
                  refine zw_istore_1 X dX8_faultOf_139 ?_
                  refine zw_iinc_2_p1 X dX8_faultOf_140 ?_
                  refine zw_goto (tgt := 4) X dX8_faultOf_143 (by decide) ?_
                  refine zw_fg_3 ?_
                  refine zw_fg_4 ?_
                  refine zw_fg_5 ?_
                  exact ih (by first | (simp only [mBad, mFits, eq_true c_22, c_45, eq_true c_71, eq_true c_108, c_115, eq_true c_124, c_131, decide_true, decide_false, Bool.and_true, Bool.true_and, Bool.and_false, Bool.false_and, Bool.or_true, Bool.true_or, Bool.or_false, Bool.false_or, Bool.not_true, Bool.not_false, if_true, if_false, ite_true, ite_false, Bool.false_eq_true, not_true_eq_false, not_false_eq_true, bI_t, bI_f, decide_eq_true_eq, reduceCtorEq]; done) | (simp [mBad, mFits, eq_true c_22, c_45, eq_true c_71, eq_true c_108, c_115, eq_true c_124, c_131]; done) | simp_all) _ _ (by first | (simp only [mW_succ, mNext, eq_true c_22, c_45, eq_true c_71, eq_true c_108, c_115, eq_true c_124, c_131, decide_true, decide_false, Bool.and_true, Bool.true_and, Bool.and_false, Bool.false_and, Bool.or_true, Bool.true_or, Bool.or_false, Bool.false_or, Bool.not_true, Bool.not_false, if_true, if_false, ite_true, ite_false, Bool.false_eq_true, not_true_eq_false, not_false_eq_true, bI_t, bI_f, decide_eq_true_eq, reduceCtorEq]; done) | (simp [mW_succ, mNext, eq_true c_22, c_45, eq_true c_71, eq_true c_108, c_115, eq_true c_124, c_131]; done) | simp_all) (nI_1 j)
                · refine zw_iconst (v := 2) X dX8_faultOf_134 ik_2 ?_
                  refine zw_goto (tgt := 139) X dX8_faultOf_135 (by decide) ?_
                  refine zw_istore_1 X dX8_faultOf_139 ?_
                  refine zw_iinc_2_p1 X dX8_faultOf_140 ?_
                  refine zw_goto (tgt := 4) X dX8_faultOf_143 (by decide) ?_
                  refine zw_fg_3 ?_
                  refine zw_fg_4 ?_
                  refine zw_fg_5 ?_
                  exact ih (by first | (simp only [mBad, mFits, eq_true c_22, c_45, eq_true c_71, eq_true c_108, c_115, eq_true c_124, c_131, decide_true, decide_false, Bool.and_true, Bool.true_and, Bool.and_false, Bool.false_and, Bool.or_true, Bool.true_or, Bool.or_false, Bool.false_or, Bool.not_true, Bool.not_false, if_true, if_false, ite_true, ite_false, Bool.false_eq_true, not_true_eq_false, not_false_eq_true, bI_t, bI_f, decide_eq_true_eq, reduceCtorEq]; done) | (simp [mBad, mFits, eq_true c_22, c_45, eq_true c_71, eq_true c_108, c_115, eq_true c_124, c_131]; done) | simp_all) _ _ (by first | (simp only [mW_succ, mNext, eq_true c_22, c_45, eq_true c_71, eq_true c_108, c_115, eq_true c_124, c_131, decide_true, decide_false, Bool.and_true, Bool.true_and, Bool.and_false, Bool.false_and, Bool.or_true, Bool.true_or, Bool.or_false, Bool.false_or, Bool.not_true, Bool.not_false, if_true, if_false, ite_true, ite_false, Bool.false_eq_true, not_true_eq_false, not_false_eq_true, bI_t, bI_f, decide_eq_true_eq, reduceCtorEq]; done) | (simp [mW_succ, mNext, eq_true c_22, c_45, eq_true c_71, eq_true c_108, c_115, eq_true c_124, c_131]; done) | simp_all) (nI_1 j)
            · refine zw_iconst (v := 1) X dX8_faultOf_118 ik_1 ?_
              refine zw_goto (tgt := 139) X dX8_faultOf_119 (by decide) ?_
              refine zw_istore_1 X dX8_faultOf_139 ?_
              refine zw_iinc_2_p1 X dX8_faultOf_140 ?_
              refine zw_goto (tgt := 4) X dX8_faultOf_143 (by decide) ?_
              refine zw_fg_3 ?_
              refine zw_fg_4 ?_
              refine zw_fg_5 ?_
              exact ih (by first | (simp only [mBad, mFits, eq_true c_22, c_45, eq_true c_71, eq_true c_108, c_115, decide_true, decide_false, Bool.and_true, Bool.true_and, Bool.and_false, Bool.false_and, Bool.or_true, Bool.true_or, Bool.or_false, Bool.false_or, Bool.not_true, Bool.not_false, if_true, if_false, ite_true, ite_false, Bool.false_eq_true, not_true_eq_false, not_false_eq_true, bI_t, bI_f, decide_eq_true_eq, reduceCtorEq]; done) | (simp [mBad, mFits, eq_true c_22, c_45, eq_true c_71, eq_true c_108, c_115]; done) | simp_all) _ _ (by first | (simp only [mW_succ, mNext, eq_true c_22, c_45, eq_true c_71, eq_true c_108, c_115, decide_true, decide_false, Bool.and_true, Bool.true_and, Bool.and_false, Bool.false_and, Bool.or_true, Bool.true_or, Bool.or_false, Bool.false_or, Bool.not_true, Bool.not_false, if_true, if_false, ite_true, ite_false, Bool.false_eq_true, not_true_eq_false, not_false_eq_true, bI_t, bI_f, decide_eq_true_eq, reduceCtorEq]; done) | (simp [mW_succ, mNext, eq_true c_22, c_45, eq_true c_71, eq_true c_108, c_115]; done) | simp_all) (nI_1 j)
      · refine zw_iload_3 X dX8_faultOf_48 ?_
        refine zw_cS_ii X dX8_faultOf_49 lk_X8_88 ok_MX8_isLetter st_MX8_isLetter rm_X8_faultOf_X8_isLetter (Nat.le_of_ble_eq_true rfl) t_X8_isLetter ?_
        refine zw_ifneB (tgt := 61) X dX8_faultOf_52 (by decide) (fun c_52 => ?_) (fun c_52 => ?_)
        · refine zw_iconst (v := 1) X dX8_faultOf_61 ik_1 ?_
          refine zw_goto (tgt := 98) X dX8_faultOf_62 (by decide) ?_
          refine zw_istore_5 X dX8_faultOf_98 ?_
          refine zw_iload_5 X dX8_faultOf_100 ?_
          refine zw_ifne_t (tgt := 107) X dX8_faultOf_102 (by decide) (by decide) ?_
          refine zw_iload_1 X dX8_faultOf_107 ?_
          refine zw_ifne (tgt := 122) X dX8_faultOf_108 (by decide) (fun c_108 => ?_) (fun c_108 => ?_)
          · refine zw_iload_1 X dX8_faultOf_122 ?_
            refine zw_iconst (v := 1) X dX8_faultOf_123 ik_1 ?_
            refine zw_icmpne (tgt := 138) X dX8_faultOf_124 (by decide) (fun c_124 => ?_) (fun c_124 => ?_)
            · refine zw_iconst (v := 0) X dX8_faultOf_138 ik_0 ?_
              refine zw_istore_1 X dX8_faultOf_139 ?_
              refine zw_iinc_2_p1 X dX8_faultOf_140 ?_
              refine zw_goto (tgt := 4) X dX8_faultOf_143 (by decide) ?_
              refine zw_fg_3 ?_
              refine zw_fg_4 ?_
              refine zw_fg_5 ?_
              exact ih (by first | (simp only [mBad, mFits, eq_true c_22, eq_true c_45, c_52, c_108, c_124, decide_true, decide_false, Bool.and_true, Bool.true_and, Bool.and_false, Bool.false_and, Bool.or_true, Bool.true_or, Bool.or_false, Bool.false_or, Bool.not_true, Bool.not_false, if_true, if_false, ite_true, ite_false, Bool.false_eq_true, not_true_eq_false, not_false_eq_true, bI_t, bI_f, decide_eq_true_eq, reduceCtorEq]; done) | (simp [mBad, mFits, eq_true c_22, eq_true c_45, c_52, c_108, c_124]; done) | simp_all) _ _ (by first | (simp only [mW_succ, mNext, eq_true c_22, eq_true c_45, c_52, c_108, c_124, decide_true, decide_false, Bool.and_true, Bool.true_and, Bool.and_false, Bool.false_and, Bool.or_true, Bool.true_or, Bool.or_false, Bool.false_or, Bool.not_true, Bool.not_false, if_true, if_false, ite_true, ite_false, Bool.false_eq_true, not_true_eq_false, not_false_eq_true, bI_t, bI_f, decide_eq_true_eq, reduceCtorEq]; done) | (simp [mW_succ, mNext, eq_true c_22, eq_true c_45, c_52, c_108, c_124]; done) | simp_all) (nI_1 j)
            · refine zw_iload_3 X dX8_faultOf_127 ?_
              refine zw_cS_ii X dX8_faultOf_128 lk_X8_91 ok_MX8_isDigit st_MX8_isDigit rm_X8_faultOf_X8_isDigit (Nat.le_of_ble_eq_true rfl) t_X8_isDigit ?_
              refine zw_ifeqB (tgt := 138) X dX8_faultOf_131 (by decide) (fun c_131 => ?_) (fun c_131 => ?_)
              · refine zw_iconst (v := 0) X dX8_faultOf_138 ik_0 ?_
                refine zw_istore_1 X dX8_faultOf_139 ?_
                refine zw_iinc_2_p1 X dX8_faultOf_140 ?_
                refine zw_goto (tgt := 4) X dX8_faultOf_143 (by decide) ?_
                refine zw_fg_3 ?_
                refine zw_fg_4 ?_
                refine zw_fg_5 ?_
                exact ih (by first | (simp only [mBad, mFits, eq_true c_22, eq_true c_45, c_52, c_108, eq_true c_124, c_131, decide_true, decide_false, Bool.and_true, Bool.true_and, Bool.and_false, Bool.false_and, Bool.or_true, Bool.true_or, Bool.or_false, Bool.false_or, Bool.not_true, Bool.not_false, if_true, if_false, ite_true, ite_false, Bool.false_eq_true, not_true_eq_false, not_false_eq_true, bI_t, bI_f, decide_eq_true_eq, reduceCtorEq]; done) | (simp [mBad, mFits, eq_true c_22, eq_true c_45, c_52, c_108, eq_true c_124, c_131]; done) | simp_all) _ _ (by first | (simp only [mW_succ, mNext, eq_true c_22, eq_true c_45, c_52, c_108, eq_true c_124, c_131, decide_true, decide_false, Bool.and_true, Bool.true_and, Bool.and_false, Bool.false_and, Bool.or_true, Bool.true_or, Bool.or_false, Bool.false_or, Bool.not_true, Bool.not_false, if_true, if_false, ite_true, ite_false, Bool.false_eq_true, not_true_eq_false, not_false_eq_true, bI_t, bI_f, decide_eq_true_eq, reduceCtorEq]; done) | (simp [mW_succ, mNext, eq_true c_22, eq_true c_45, c_52, c_108, eq_true c_124, c_131]; done) | simp_all) (nI_1 j)
              · refine zw_iconst (v := 2) X dX8_faultOf_134 ik_2 ?_
                refine zw_goto (tgt := 139) X dX8_faultOf_135 (by decide) ?_
                refine zw_istore_1 X dX8_faultOf_139 ?_
                refine zw_iinc_2_p1 X dX8_faultOf_140 ?_
                refine zw_goto (tgt := 4) X dX8_faultOf_143 (by decide) ?_
                refine zw_fg_3 ?_
                refine zw_fg_4 ?_
                refine zw_fg_5 ?_
                exact ih (by first | (simp only [mBad, mFits, eq_true c_22, eq_true c_45, c_52, c_108, eq_true c_124, c_131, decide_true, decide_false, Bool.and_true, Bool.true_and, Bool.and_false, Bool.false_and, Bool.or_true, Bool.true_or, Bool.or_false, Bool.false_or, Bool.not_true, Bool.not_false, if_true, if_false, ite_true, ite_false, Bool.false_eq_true, not_true_eq_false, not_false_eq_true, bI_t, bI_f, decide_eq_true_eq, reduceCtorEq]; done) | (simp [mBad, mFits, eq_true c_22, eq_true c_45, c_52, c_108, eq_true c_124, c_131]; done) | simp_all) _ _ (by first | (simp only [mW_succ, mNext, eq_true c_22, eq_true c_45, c_52, c_108, eq_true c_124, c_131, decide_true, decide_false, Bool.and_true, Bool.true_and, Bool.and_false, Bool.false_and, Bool.or_true, Bool.true_or, Bool.or_false, Bool.false_or, Bool.not_true, Bool.not_false, if_true, if_false, ite_true, ite_false, Bool.false_eq_true, not_true_eq_false, not_false_eq_true, bI_t, bI_f, decide_eq_true_eq, reduceCtorEq]; done) | (simp [mW_succ, mNext, eq_true c_22, eq_true c_45, c_52, c_108, eq_true c_124, c_131]; done) | simp_all) (nI_1 j)
          · refine zw_iload_3 X dX8_faultOf_111 ?_
            refine zw_cS_ii X dX8_faultOf_112 lk_X8_88 ok_MX8_isLetter st_MX8_isLetter rm_X8_faultOf_X8_isLetter (Nat.le_of_ble_eq_true rfl) t_X8_isLetter ?_
            refine zw_ifeqB (tgt := 122) X dX8_faultOf_115 (by decide) (fun c_115 => ?_) (fun c_115 => ?_)
            · refine zw_iload_1 X dX8_faultOf_122 ?_
              refine zw_iconst (v := 1) X dX8_faultOf_123 ik_1 ?_
              refine zw_icmpne (tgt := 138) X dX8_faultOf_124 (by decide) (fun c_124 => ?_) (fun c_124 => ?_)
              · refine zw_iconst (v := 0) X dX8_faultOf_138 ik_0 ?_
                refine zw_istore_1 X dX8_faultOf_139 ?_
                refine zw_iinc_2_p1 X dX8_faultOf_140 ?_
                refine zw_goto (tgt := 4) X dX8_faultOf_143 (by decide) ?_
                refine zw_fg_3 ?_
                refine zw_fg_4 ?_
                refine zw_fg_5 ?_
                exact ih (by first | (simp only [mBad, mFits, eq_true c_22, eq_true c_45, c_52, eq_true c_108, c_115, c_124, decide_true, decide_false, Bool.and_true, Bool.true_and, Bool.and_false, Bool.false_and, Bool.or_true, Bool.true_or, Bool.or_false, Bool.false_or, Bool.not_true, Bool.not_false, if_true, if_false, ite_true, ite_false, Bool.false_eq_true, not_true_eq_false, not_false_eq_true, bI_t, bI_f, decide_eq_true_eq, reduceCtorEq]; done) | (simp [mBad, mFits, eq_true c_22, eq_true c_45, c_52, eq_true c_108, c_115, c_124]; done) | simp_all) _ _ (by first | (simp only [mW_succ, mNext, eq_true c_22, eq_true c_45, c_52, eq_true c_108, c_115, c_124, decide_true, decide_false, Bool.and_true, Bool.true_and, Bool.and_false, Bool.false_and, Bool.or_true, Bool.true_or, Bool.or_false, Bool.false_or, Bool.not_true, Bool.not_false, if_true, if_false, ite_true, ite_false, Bool.false_eq_true, not_true_eq_false, not_false_eq_true, bI_t, bI_f, decide_eq_true_eq, reduceCtorEq]; done) | (simp [mW_succ, mNext, eq_true c_22, eq_true c_45, c_52, eq_true c_108, c_115, c_124]; done) | simp_all) (nI_1 j)
              · refine zw_iload_3 X dX8_faultOf_127 ?_
                refine zw_cS_ii X dX8_faultOf_128 lk_X8_91 ok_MX8_isDigit st_MX8_isDigit rm_X8_faultOf_X8_isDigit (Nat.le_of_ble_eq_true rfl) t_X8_isDigit ?_
                refine zw_ifeqB (tgt := 138) X dX8_faultOf_131 (by decide) (fun c_131 => ?_) (fun c_131 => ?_)
                · refine zw_iconst (v := 0) X dX8_faultOf_138 ik_0 ?_
                  refine zw_istore_1 X dX8_faultOf_139 ?_
                  refine zw_iinc_2_p1 X dX8_faultOf_140 ?_
                  refine zw_goto (tgt := 4) X dX8_faultOf_143 (by decide) ?_
                  refine zw_fg_3 ?_
                  refine zw_fg_4 ?_
                  refine zw_fg_5 ?_
                  exact ih (by first | (simp only [mBad, mFits, eq_true c_22, eq_true c_45, c_52, eq_true c_108, c_115, eq_true c_124, c_131, decide_true, decide_false, Bool.and_true, Bool.true_and, Bool.and_false, Bool.false_and, Bool.or_true, Bool.true_or, Bool.or_false, Bool.false_or, Bool.not_true, Bool.not_false, if_true, if_false, ite_true, ite_false, Bool.false_eq_true, not_true_eq_false, not_false_eq_true, bI_t, bI_f, decide_eq_true_eq, reduceCtorEq]; done) | (simp [mBad, mFits, eq_true c_22, eq_true c_45, c_52, eq_true c_108, c_115, eq_true c_124, c_131]; done) | simp_all) _ _ (by first | (simp only [mW_succ, mNext, eq_true c_22, eq_true c_45, c_52, eq_true c_108, c_115, eq_true c_124, c_131, decide_true, decide_false, Bool.and_true, Bool.true_and, Bool.and_false, Bool.false_and, Bool.or_true, Bool.true_or, Bool.or_false, Bool.false_or, Bool.not_true, Bool.not_false, if_true, if_false, ite_true, ite_false, Bool.false_eq_true, not_true_eq_false, not_false_eq_true, bI_t, bI_f, decide_eq_true_eq, reduceCtorEq]; done) | (simp [mW_succ, mNext, eq_true c_22, eq_true c_45, c_52, eq_true c_108, c_115, eq_true c_124, c_131]; done) | simp_all) (nI_1 j)
                · refine zw_iconst (v := 2) X dX8_faultOf_134 ik_2 ?_
                  refine zw_goto (tgt := 139) X dX8_faultOf_135 (by decide) ?_
                  refine zw_istore_1 X dX8_faultOf_139 ?_
                  refine zw_iinc_2_p1 X dX8_faultOf_140 ?_
                  refine zw_goto (tgt := 4) X dX8_faultOf_143 (by decide) ?_
                  refine zw_fg_3 ?_
                  refine zw_fg_4 ?_
                  refine zw_fg_5 ?_
                  exact ih (by first | (simp only [mBad, mFits, eq_true c_22, eq_true c_45, c_52, eq_true c_108, c_115, eq_true c_124, c_131, decide_true, decide_false, Bool.and_true, Bool.true_and, Bool.and_false, Bool.false_and, Bool.or_true, Bool.true_or, Bool.or_false, Bool.false_or, Bool.not_true, Bool.not_false, if_true, if_false, ite_true, ite_false, Bool.false_eq_true, not_true_eq_false, not_false_eq_true, bI_t, bI_f, decide_eq_true_eq, reduceCtorEq]; done) | (simp [mBad, mFits, eq_true c_22, eq_true c_45, c_52, eq_true c_108, c_115, eq_true c_124, c_131]; done) | simp_all) _ _ (by first | (simp only [mW_succ, mNext, eq_true c_22, eq_true c_45, c_52, eq_true c_108, c_115, eq_true c_124, c_131, decide_true, decide_false, Bool.and_true, Bool.true_and, Bool.and_false, Bool.false_and, Bool.or_true, Bool.true_or, Bool.or_false, Bool.false_or, Bool.not_true, Bool.not_false, if_true, if_false, ite_true, ite_false, Bool.false_eq_true, not_true_eq_false, not_false_eq_true, bI_t, bI_f, decide_eq_true_eq, reduceCtorEq]; done) | (simp [mW_succ, mNext, eq_true c_22, eq_true c_45, c_52, eq_true c_108, c_115, eq_true c_124, c_131]; done) | simp_all) (nI_1 j)
            · refine zw_iconst (v := 1) X dX8_faultOf_118 ik_1 ?_
              refine zw_goto (tgt := 139) X dX8_faultOf_119 (by decide) ?_
              refine zw_istore_1 X dX8_faultOf_139 ?_
              refine zw_iinc_2_p1 X dX8_faultOf_140 ?_
              refine zw_goto (tgt := 4) X dX8_faultOf_143 (by decide) ?_
              refine zw_fg_3 ?_
              refine zw_fg_4 ?_
              refine zw_fg_5 ?_
              exact ih (by first | (simp only [mBad, mFits, eq_true c_22, eq_true c_45, c_52, eq_true c_108, c_115, decide_true, decide_false, Bool.and_true, Bool.true_and, Bool.and_false, Bool.false_and, Bool.or_true, Bool.true_or, Bool.or_false, Bool.false_or, Bool.not_true, Bool.not_false, if_true, if_false, ite_true, ite_false, Bool.false_eq_true, not_true_eq_false, not_false_eq_true, bI_t, bI_f, decide_eq_true_eq, reduceCtorEq]; done) | (simp [mBad, mFits, eq_true c_22, eq_true c_45, c_52, eq_true c_108, c_115]; done) | simp_all) _ _ (by first | (simp only [mW_succ, mNext, eq_true c_22, eq_true c_45, c_52, eq_true c_108, c_115, decide_true, decide_false, Bool.and_true, Bool.true_and, Bool.and_false, Bool.false_and, Bool.or_true, Bool.true_or, Bool.or_false, Bool.false_or, Bool.not_true, Bool.not_false, if_true, if_false, ite_true, ite_false, Bool.false_eq_true, not_true_eq_false, not_false_eq_true, bI_t, bI_f, decide_eq_true_eq, reduceCtorEq]; done) | (simp [mW_succ, mNext, eq_true c_22, eq_true c_45, c_52, eq_true c_108, c_115]; done) | simp_all) (nI_1 j)
        · refine zw_iload_3 X dX8_faultOf_55 ?_
          refine zw_bipush (v := 46) X dX8_faultOf_56 bk_46 ?_
          refine zw_icmpne (tgt := 65) X dX8_faultOf_58 (by decide) (fun c_58 => ?_) (fun c_58 => ?_)
          · refine zw_iconst (v := 0) X dX8_faultOf_65 ik_0 ?_
            refine zw_goto (tgt := 98) X dX8_faultOf_66 (by decide) ?_
            refine zw_istore_5 X dX8_faultOf_98 ?_
            refine zw_iload_5 X dX8_faultOf_100 ?_
            refine zw_ifne_f (tgt := 107) X dX8_faultOf_102 (by decide) (by decide) ?_
            refine zw_iload_2 X dX8_faultOf_105 ?_
            exact zw_iret X F dX8_faultOf_106 rfl (by rw [mFault, fstB_at (P := mBad (σ 49)) (by first | (simp only [mBad, mFits, eq_true c_22, eq_true c_45, c_52, c_58, decide_true, decide_false, Bool.and_true, Bool.true_and, Bool.and_false, Bool.false_and, Bool.or_true, Bool.true_or, Bool.or_false, Bool.false_or, Bool.not_true, Bool.not_false, if_true, if_false, ite_true, ite_false, Bool.false_eq_true, not_true_eq_false, not_false_eq_true, bI_t, bI_f, decide_eq_true_eq, reduceCtorEq]; done) | (simp [mBad, mFits, eq_true c_22, eq_true c_45, c_52, c_58]; done) | simp_all) hb hj, if_pos hj]) (rfl)
          · refine zw_iconst (v := 1) X dX8_faultOf_61 ik_1 ?_
            refine zw_goto (tgt := 98) X dX8_faultOf_62 (by decide) ?_
            refine zw_istore_5 X dX8_faultOf_98 ?_
            refine zw_iload_5 X dX8_faultOf_100 ?_
            refine zw_ifne_t (tgt := 107) X dX8_faultOf_102 (by decide) (by decide) ?_
            refine zw_iload_1 X dX8_faultOf_107 ?_
            refine zw_ifne (tgt := 122) X dX8_faultOf_108 (by decide) (fun c_108 => ?_) (fun c_108 => ?_)
            · refine zw_iload_1 X dX8_faultOf_122 ?_
              refine zw_iconst (v := 1) X dX8_faultOf_123 ik_1 ?_
              refine zw_icmpne (tgt := 138) X dX8_faultOf_124 (by decide) (fun c_124 => ?_) (fun c_124 => ?_)
              · refine zw_iconst (v := 0) X dX8_faultOf_138 ik_0 ?_
                refine zw_istore_1 X dX8_faultOf_139 ?_
                refine zw_iinc_2_p1 X dX8_faultOf_140 ?_
                refine zw_goto (tgt := 4) X dX8_faultOf_143 (by decide) ?_
                refine zw_fg_3 ?_
                refine zw_fg_4 ?_
                refine zw_fg_5 ?_
                exact ih (by first | (simp only [mBad, mFits, eq_true c_22, eq_true c_45, c_52, eq_true c_58, c_108, c_124, decide_true, decide_false, Bool.and_true, Bool.true_and, Bool.and_false, Bool.false_and, Bool.or_true, Bool.true_or, Bool.or_false, Bool.false_or, Bool.not_true, Bool.not_false, if_true, if_false, ite_true, ite_false, Bool.false_eq_true, not_true_eq_false, not_false_eq_true, bI_t, bI_f, decide_eq_true_eq, reduceCtorEq]; done) | (simp [mBad, mFits, eq_true c_22, eq_true c_45, c_52, eq_true c_58, c_108, c_124]; done) | simp_all) _ _ (by first | (simp only [mW_succ, mNext, eq_true c_22, eq_true c_45, c_52, eq_true c_58, c_108, c_124, decide_true, decide_false, Bool.and_true, Bool.true_and, Bool.and_false, Bool.false_and, Bool.or_true, Bool.true_or, Bool.or_false, Bool.false_or, Bool.not_true, Bool.not_false, if_true, if_false, ite_true, ite_false, Bool.false_eq_true, not_true_eq_false, not_false_eq_true, bI_t, bI_f, decide_eq_true_eq, reduceCtorEq]; done) | (simp [mW_succ, mNext, eq_true c_22, eq_true c_45, c_52, eq_true c_58, c_108, c_124]; done) | simp_all) (nI_1 j)
              · refine zw_iload_3 X dX8_faultOf_127 ?_
                refine zw_cS_ii X dX8_faultOf_128 lk_X8_91 ok_MX8_isDigit st_MX8_isDigit rm_X8_faultOf_X8_isDigit (Nat.le_of_ble_eq_true rfl) t_X8_isDigit ?_
                refine zw_ifeqB (tgt := 138) X dX8_faultOf_131 (by decide) (fun c_131 => ?_) (fun c_131 => ?_)
                · refine zw_iconst (v := 0) X dX8_faultOf_138 ik_0 ?_
                  refine zw_istore_1 X dX8_faultOf_139 ?_
                  refine zw_iinc_2_p1 X dX8_faultOf_140 ?_
                  refine zw_goto (tgt := 4) X dX8_faultOf_143 (by decide) ?_
                  refine zw_fg_3 ?_
                  refine zw_fg_4 ?_
                  refine zw_fg_5 ?_
                  exact ih (by first | (simp only [mBad, mFits, eq_true c_22, eq_true c_45, c_52, eq_true c_58, c_108, eq_true c_124, c_131, decide_true, decide_false, Bool.and_true, Bool.true_and, Bool.and_false, Bool.false_and, Bool.or_true, Bool.true_or, Bool.or_false, Bool.false_or, Bool.not_true, Bool.not_false, if_true, if_false, ite_true, ite_false, Bool.false_eq_true, not_true_eq_false, not_false_eq_true, bI_t, bI_f, decide_eq_true_eq, reduceCtorEq]; done) | (simp [mBad, mFits, eq_true c_22, eq_true c_45, c_52, eq_true c_58, c_108, eq_true c_124, c_131]; done) | simp_all) _ _ (by first | (simp only [mW_succ, mNext, eq_true c_22, eq_true c_45, c_52, eq_true c_58, c_108, eq_true c_124, c_131, decide_true, decide_false, Bool.and_true, Bool.true_and, Bool.and_false, Bool.false_and, Bool.or_true, Bool.true_or, Bool.or_false, Bool.false_or, Bool.not_true, Bool.not_false, if_true, if_false, ite_true, ite_false, Bool.false_eq_true, not_true_eq_false, not_false_eq_true, bI_t, bI_f, decide_eq_true_eq, reduceCtorEq]; done) | (simp [mW_succ, mNext, eq_true c_22, eq_true c_45, c_52, eq_true c_58, c_108, eq_true c_124, c_131]; done) | simp_all) (nI_1 j)
                · refine zw_iconst (v := 2) X dX8_faultOf_134 ik_2 ?_
                  refine zw_goto (tgt := 139) X dX8_faultOf_135 (by decide) ?_
                  refine zw_istore_1 X dX8_faultOf_139 ?_
                  refine zw_iinc_2_p1 X dX8_faultOf_140 ?_
                  refine zw_goto (tgt := 4) X dX8_faultOf_143 (by decide) ?_
                  refine zw_fg_3 ?_
                  refine zw_fg_4 ?_
                  refine zw_fg_5 ?_
                  exact ih (by first | (simp only [mBad, mFits, eq_true c_22, eq_true c_45, c_52, eq_true c_58, c_108, eq_true c_124, c_131, decide_true, decide_false, Bool.and_true, Bool.true_and, Bool.and_false, Bool.false_and, Bool.or_true, Bool.true_or, Bool.or_false, Bool.false_or, Bool.not_true, Bool.not_false, if_true, if_false, ite_true, ite_false, Bool.false_eq_true, not_true_eq_false, not_false_eq_true, bI_t, bI_f, decide_eq_true_eq, reduceCtorEq]; done) | (simp [mBad, mFits, eq_true c_22, eq_true c_45, c_52, eq_true c_58, c_108, eq_true c_124, c_131]; done) | simp_all) _ _ (by first | (simp only [mW_succ, mNext, eq_true c_22, eq_true c_45, c_52, eq_true c_58, c_108, eq_true c_124, c_131, decide_true, decide_false, Bool.and_true, Bool.true_and, Bool.and_false, Bool.false_and, Bool.or_true, Bool.true_or, Bool.or_false, Bool.false_or, Bool.not_true, Bool.not_false, if_true, if_false, ite_true, ite_false, Bool.false_eq_true, not_true_eq_false, not_false_eq_true, bI_t, bI_f, decide_eq_true_eq, reduceCtorEq]; done) | (simp [mW_succ, mNext, eq_true c_22, eq_true c_45, c_52, eq_true c_58, c_108, eq_true c_124, c_131]; done) | simp_all) (nI_1 j)
            · refine zw_iload_3 X dX8_faultOf_111 ?_
              refine zw_cS_ii X dX8_faultOf_112 lk_X8_88 ok_MX8_isLetter st_MX8_isLetter rm_X8_faultOf_X8_isLetter (Nat.le_of_ble_eq_true rfl) t_X8_isLetter ?_
              refine zw_ifeqB (tgt := 122) X dX8_faultOf_115 (by decide) (fun c_115 => ?_) (fun c_115 => ?_)
              · refine zw_iload_1 X dX8_faultOf_122 ?_
                refine zw_iconst (v := 1) X dX8_faultOf_123 ik_1 ?_
                refine zw_icmpne (tgt := 138) X dX8_faultOf_124 (by decide) (fun c_124 => ?_) (fun c_124 => ?_)
                · refine zw_iconst (v := 0) X dX8_faultOf_138 ik_0 ?_
                  refine zw_istore_1 X dX8_faultOf_139 ?_
                  refine zw_iinc_2_p1 X dX8_faultOf_140 ?_
                  refine zw_goto (tgt := 4) X dX8_faultOf_143 (by decide) ?_
                  refine zw_fg_3 ?_
                  refine zw_fg_4 ?_
                  refine zw_fg_5 ?_
                  exact ih (by first | (simp only [mBad, mFits, eq_true c_22, eq_true c_45, c_52, eq_true c_58, eq_true c_108, c_115, c_124, decide_true, decide_false, Bool.and_true, Bool.true_and, Bool.and_false, Bool.false_and, Bool.or_true, Bool.true_or, Bool.or_false, Bool.false_or, Bool.not_true, Bool.not_false, if_true, if_false, ite_true, ite_false, Bool.false_eq_true, not_true_eq_false, not_false_eq_true, bI_t, bI_f, decide_eq_true_eq, reduceCtorEq]; done) | (simp [mBad, mFits, eq_true c_22, eq_true c_45, c_52, eq_true c_58, eq_true c_108, c_115, c_124]; done) | simp_all) _ _ (by first | (simp only [mW_succ, mNext, eq_true c_22, eq_true c_45, c_52, eq_true c_58, eq_true c_108, c_115, c_124, decide_true, decide_false, Bool.and_true, Bool.true_and, Bool.and_false, Bool.false_and, Bool.or_true, Bool.true_or, Bool.or_false, Bool.false_or, Bool.not_true, Bool.not_false, if_true, if_false, ite_true, ite_false, Bool.false_eq_true, not_true_eq_false, not_false_eq_true, bI_t, bI_f, decide_eq_true_eq, reduceCtorEq]; done) | (simp [mW_succ, mNext, eq_true c_22, eq_true c_45, c_52, eq_true c_58, eq_true c_108, c_115, c_124]; done) | simp_all) (nI_1 j)
                · refine zw_iload_3 X dX8_faultOf_127 ?_
                  refine zw_cS_ii X dX8_faultOf_128 lk_X8_91 ok_MX8_isDigit st_MX8_isDigit rm_X8_faultOf_X8_isDigit (Nat.le_of_ble_eq_true rfl) t_X8_isDigit ?_
                  refine zw_ifeqB (tgt := 138) X dX8_faultOf_131 (by decide) (fun c_131 => ?_) (fun c_131 => ?_)
                  · refine zw_iconst (v := 0) X dX8_faultOf_138 ik_0 ?_
                    refine zw_istore_1 X dX8_faultOf_139 ?_
                    refine zw_iinc_2_p1 X dX8_faultOf_140 ?_
                    refine zw_goto (tgt := 4) X dX8_faultOf_143 (by decide) ?_
                    refine zw_fg_3 ?_
                    refine zw_fg_4 ?_
                    refine zw_fg_5 ?_
                    exact ih (by first | (simp only [mBad, mFits, eq_true c_22, eq_true c_45, c_52, eq_true c_58, eq_true c_108, c_115, eq_true c_124, c_131, decide_true, decide_false, Bool.and_true, Bool.true_and, Bool.and_false, Bool.false_and, Bool.or_true, Bool.true_or, Bool.or_false, Bool.false_or, Bool.not_true, Bool.not_false, if_true, if_false, ite_true, ite_false, Bool.false_eq_true, not_true_eq_false, not_false_eq_true, bI_t, bI_f, decide_eq_true_eq, reduceCtorEq]; done) | (simp [mBad, mFits, eq_true c_22, eq_true c_45, c_52, eq_true c_58, eq_true c_108, c_115, eq_true c_124, c_131]; done) | simp_all) _ _ (by first | (simp only [mW_succ, mNext, eq_true c_22, eq_true c_45, c_52, eq_true c_58, eq_true c_108, c_115, eq_true c_124, c_131, decide_true, decide_false, Bool.and_true, Bool.true_and, Bool.and_false, Bool.false_and, Bool.or_true, Bool.true_or, Bool.or_false, Bool.false_or, Bool.not_true, Bool.not_false, if_true, if_false, ite_true, ite_false, Bool.false_eq_true, not_true_eq_false, not_false_eq_true, bI_t, bI_f, decide_eq_true_eq, reduceCtorEq]; done) | (simp [mW_succ, mNext, eq_true c_22, eq_true c_45, c_52, eq_true c_58, eq_true c_108, c_115, eq_true c_124, c_131]; done) | simp_all) (nI_1 j)
                  · refine zw_iconst (v := 2) X dX8_faultOf_134 ik_2 ?_
                    refine zw_goto (tgt := 139) X dX8_faultOf_135 (by decide) ?_
                    refine zw_istore_1 X dX8_faultOf_139 ?_
                    refine zw_iinc_2_p1 X dX8_faultOf_140 ?_
                    refine zw_goto (tgt := 4) X dX8_faultOf_143 (by decide) ?_
                    refine zw_fg_3 ?_
                    refine zw_fg_4 ?_
                    refine zw_fg_5 ?_
                    exact ih (by first | (simp only [mBad, mFits, eq_true c_22, eq_true c_45, c_52, eq_true c_58, eq_true c_108, c_115, eq_true c_124, c_131, decide_true, decide_false, Bool.and_true, Bool.true_and, Bool.and_false, Bool.false_and, Bool.or_true, Bool.true_or, Bool.or_false, Bool.false_or, Bool.not_true, Bool.not_false, if_true, if_false, ite_true, ite_false, Bool.false_eq_true, not_true_eq_false, not_false_eq_true, bI_t, bI_f, decide_eq_true_eq, reduceCtorEq]; done) | (simp [mBad, mFits, eq_true c_22, eq_true c_45, c_52, eq_true c_58, eq_true c_108, c_115, eq_true c_124, c_131]; done) | simp_all) _ _ (by first | (simp only [mW_succ, mNext, eq_true c_22, eq_true c_45, c_52, eq_true c_58, eq_true c_108, c_115, eq_true c_124, c_131, decide_true, decide_false, Bool.and_true, Bool.true_and, Bool.and_false, Bool.false_and, Bool.or_true, Bool.true_or, Bool.or_false, Bool.false_or, Bool.not_true, Bool.not_false, if_true, if_false, ite_true, ite_false, Bool.false_eq_true, not_true_eq_false, not_false_eq_true, bI_t, bI_f, decide_eq_true_eq, reduceCtorEq]; done) | (simp [mW_succ, mNext, eq_true c_22, eq_true c_45, c_52, eq_true c_58, eq_true c_108, c_115, eq_true c_124, c_131]; done) | simp_all) (nI_1 j)
              · refine zw_iconst (v := 1) X dX8_faultOf_118 ik_1 ?_
                refine zw_goto (tgt := 139) X dX8_faultOf_119 (by decide) ?_
                refine zw_istore_1 X dX8_faultOf_139 ?_
                refine zw_iinc_2_p1 X dX8_faultOf_140 ?_
                refine zw_goto (tgt := 4) X dX8_faultOf_143 (by decide) ?_
                refine zw_fg_3 ?_
                refine zw_fg_4 ?_
                refine zw_fg_5 ?_
                exact ih (by first | (simp only [mBad, mFits, eq_true c_22, eq_true c_45, c_52, eq_true c_58, eq_true c_108, c_115, decide_true, decide_false, Bool.and_true, Bool.true_and, Bool.and_false, Bool.false_and, Bool.or_true, Bool.true_or, Bool.or_false, Bool.false_or, Bool.not_true, Bool.not_false, if_true, if_false, ite_true, ite_false, Bool.false_eq_true, not_true_eq_false, not_false_eq_true, bI_t, bI_f, decide_eq_true_eq, reduceCtorEq]; done) | (simp [mBad, mFits, eq_true c_22, eq_true c_45, c_52, eq_true c_58, eq_true c_108, c_115]; done) | simp_all) _ _ (by first | (simp only [mW_succ, mNext, eq_true c_22, eq_true c_45, c_52, eq_true c_58, eq_true c_108, c_115, decide_true, decide_false, Bool.and_true, Bool.true_and, Bool.and_false, Bool.false_and, Bool.or_true, Bool.true_or, Bool.or_false, Bool.false_or, Bool.not_true, Bool.not_false, if_true, if_false, ite_true, ite_false, Bool.false_eq_true, not_true_eq_false, not_false_eq_true, bI_t, bI_f, decide_eq_true_eq, reduceCtorEq]; done) | (simp [mW_succ, mNext, eq_true c_22, eq_true c_45, c_52, eq_true c_58, eq_true c_108, c_115]; done) | simp_all) (nI_1 j)
    · refine zw_iload_3 X dX8_faultOf_25 ?_
      refine zw_bipush (v := 115) X dX8_faultOf_26 bk_115 ?_
      refine zw_icmpeq (tgt := 37) X dX8_faultOf_28 (by decide) (fun c_28 => ?_) (fun c_28 => ?_)
      · refine zw_iconst (v := 1) X dX8_faultOf_37 ik_1 ?_
        refine zw_goto (tgt := 42) X dX8_faultOf_38 (by decide) ?_
        refine zw_istore_4 X dX8_faultOf_42 ?_
        refine zw_iload_1 X dX8_faultOf_44 ?_
        refine zw_ifne (tgt := 69) X dX8_faultOf_45 (by decide) (fun c_45 => ?_) (fun c_45 => ?_)
        · refine zw_iload_1 X dX8_faultOf_69 ?_
          refine zw_iconst (v := 1) X dX8_faultOf_70 ik_1 ?_
          refine zw_icmpne (tgt := 94) X dX8_faultOf_71 (by decide) (fun c_71 => ?_) (fun c_71 => ?_)
          · refine zw_iload_3 X dX8_faultOf_94 ?_
            refine zw_cS_ii X dX8_faultOf_95 lk_X8_91 ok_MX8_isDigit st_MX8_isDigit rm_X8_faultOf_X8_isDigit (Nat.le_of_ble_eq_true rfl) t_X8_isDigit ?_
            refine zw_istore_5 X dX8_faultOf_98 ?_
            refine zw_iload_5 X dX8_faultOf_100 ?_
            refine zw_ifneB (tgt := 107) X dX8_faultOf_102 (by decide) (fun c_102 => ?_) (fun c_102 => ?_)
            · refine zw_iload_1 X dX8_faultOf_107 ?_
              refine zw_ifne (tgt := 122) X dX8_faultOf_108 (by decide) (fun c_108 => ?_) (fun c_108 => ?_)
              · refine zw_iload_1 X dX8_faultOf_122 ?_
                refine zw_iconst (v := 1) X dX8_faultOf_123 ik_1 ?_
                refine zw_icmpne (tgt := 138) X dX8_faultOf_124 (by decide) (fun c_124 => ?_) (fun c_124 => ?_)
                · refine zw_iconst (v := 0) X dX8_faultOf_138 ik_0 ?_
                  refine zw_istore_1 X dX8_faultOf_139 ?_
                  refine zw_iinc_2_p1 X dX8_faultOf_140 ?_
                  refine zw_goto (tgt := 4) X dX8_faultOf_143 (by decide) ?_
                  refine zw_fg_3 ?_
                  refine zw_fg_4 ?_
                  refine zw_fg_5 ?_
                  exact ih (by first | (simp only [mBad, mFits, c_22, eq_true c_28, c_45, c_71, c_102, c_108, c_124, decide_true, decide_false, Bool.and_true, Bool.true_and, Bool.and_false, Bool.false_and, Bool.or_true, Bool.true_or, Bool.or_false, Bool.false_or, Bool.not_true, Bool.not_false, if_true, if_false, ite_true, ite_false, Bool.false_eq_true, not_true_eq_false, not_false_eq_true, bI_t, bI_f, decide_eq_true_eq, reduceCtorEq]; done) | (simp [mBad, mFits, c_22, eq_true c_28, c_45, c_71, c_102, c_108, c_124]; done) | simp_all) _ _ (by first | (simp only [mW_succ, mNext, c_22, eq_true c_28, c_45, c_71, c_102, c_108, c_124, decide_true, decide_false, Bool.and_true, Bool.true_and, Bool.and_false, Bool.false_and, Bool.or_true, Bool.true_or, Bool.or_false, Bool.false_or, Bool.not_true, Bool.not_false, if_true, if_false, ite_true, ite_false, Bool.false_eq_true, not_true_eq_false, not_false_eq_true, bI_t, bI_f, decide_eq_true_eq, reduceCtorEq]; done) | (simp [mW_succ, mNext, c_22, eq_true c_28, c_45, c_71, c_102, c_108, c_124]; done) | simp_all) (nI_1 j)
                · refine zw_iload_3 X dX8_faultOf_127 ?_
                  refine zw_cS_ii X dX8_faultOf_128 lk_X8_91 ok_MX8_isDigit st_MX8_isDigit rm_X8_faultOf_X8_isDigit (Nat.le_of_ble_eq_true rfl) t_X8_isDigit ?_
                  refine zw_ifeqB (tgt := 138) X dX8_faultOf_131 (by decide) (fun c_131 => ?_) (fun c_131 => ?_)
                  · refine zw_iconst (v := 0) X dX8_faultOf_138 ik_0 ?_
                    refine zw_istore_1 X dX8_faultOf_139 ?_
                    refine zw_iinc_2_p1 X dX8_faultOf_140 ?_
                    refine zw_goto (tgt := 4) X dX8_faultOf_143 (by decide) ?_
                    refine zw_fg_3 ?_
                    refine zw_fg_4 ?_
                    refine zw_fg_5 ?_
                    exact ih (by first | (simp only [mBad, mFits, c_22, eq_true c_28, c_45, c_71, c_102, c_108, eq_true c_124, c_131, decide_true, decide_false, Bool.and_true, Bool.true_and, Bool.and_false, Bool.false_and, Bool.or_true, Bool.true_or, Bool.or_false, Bool.false_or, Bool.not_true, Bool.not_false, if_true, if_false, ite_true, ite_false, Bool.false_eq_true, not_true_eq_false, not_false_eq_true, bI_t, bI_f, decide_eq_true_eq, reduceCtorEq]; done) | (simp [mBad, mFits, c_22, eq_true c_28, c_45, c_71, c_102, c_108, eq_true c_124, c_131]; done) | simp_all) _ _ (by first | (simp only [mW_succ, mNext, c_22, eq_true c_28, c_45, c_71, c_102, c_108, eq_true c_124, c_131, decide_true, decide_false, Bool.and_true, Bool.true_and, Bool.and_false, Bool.false_and, Bool.or_true, Bool.true_or, Bool.or_false, Bool.false_or, Bool.not_true, Bool.not_false, if_true, if_false, ite_true, ite_false, Bool.false_eq_true, not_true_eq_false, not_false_eq_true, bI_t, bI_f, decide_eq_true_eq, reduceCtorEq]; done) | (simp [mW_succ, mNext, c_22, eq_true c_28, c_45, c_71, c_102, c_108, eq_true c_124, c_131]; done) | simp_all) (nI_1 j)
                  · refine zw_iconst (v := 2) X dX8_faultOf_134 ik_2 ?_
                    refine zw_goto (tgt := 139) X dX8_faultOf_135 (by decide) ?_
                    refine zw_istore_1 X dX8_faultOf_139 ?_
                    refine zw_iinc_2_p1 X dX8_faultOf_140 ?_
                    refine zw_goto (tgt := 4) X dX8_faultOf_143 (by decide) ?_
                    refine zw_fg_3 ?_
                    refine zw_fg_4 ?_
                    refine zw_fg_5 ?_
                    exact ih (by first | (simp only [mBad, mFits, c_22, eq_true c_28, c_45, c_71, c_102, c_108, eq_true c_124, c_131, decide_true, decide_false, Bool.and_true, Bool.true_and, Bool.and_false, Bool.false_and, Bool.or_true, Bool.true_or, Bool.or_false, Bool.false_or, Bool.not_true, Bool.not_false, if_true, if_false, ite_true, ite_false, Bool.false_eq_true, not_true_eq_false, not_false_eq_true, bI_t, bI_f, decide_eq_true_eq, reduceCtorEq]; done) | (simp [mBad, mFits, c_22, eq_true c_28, c_45, c_71, c_102, c_108, eq_true c_124, c_131]; done) | simp_all) _ _ (by first | (simp only [mW_succ, mNext, c_22, eq_true c_28, c_45, c_71, c_102, c_108, eq_true c_124, c_131, decide_true, decide_false, Bool.and_true, Bool.true_and, Bool.and_false, Bool.false_and, Bool.or_true, Bool.true_or, Bool.or_false, Bool.false_or, Bool.not_true, Bool.not_false, if_true, if_false, ite_true, ite_false, Bool.false_eq_true, not_true_eq_false, not_false_eq_true, bI_t, bI_f, decide_eq_true_eq, reduceCtorEq]; done) | (simp [mW_succ, mNext, c_22, eq_true c_28, c_45, c_71, c_102, c_108, eq_true c_124, c_131]; done) | simp_all) (nI_1 j)
              · refine zw_iload_3 X dX8_faultOf_111 ?_
                refine zw_cS_ii X dX8_faultOf_112 lk_X8_88 ok_MX8_isLetter st_MX8_isLetter rm_X8_faultOf_X8_isLetter (Nat.le_of_ble_eq_true rfl) t_X8_isLetter ?_
                refine zw_ifeqB (tgt := 122) X dX8_faultOf_115 (by decide) (fun c_115 => ?_) (fun c_115 => ?_)
                · refine zw_iload_1 X dX8_faultOf_122 ?_
                  refine zw_iconst (v := 1) X dX8_faultOf_123 ik_1 ?_
                  refine zw_icmpne (tgt := 138) X dX8_faultOf_124 (by decide) (fun c_124 => ?_) (fun c_124 => ?_)
                  · refine zw_iconst (v := 0) X dX8_faultOf_138 ik_0 ?_
                    refine zw_istore_1 X dX8_faultOf_139 ?_
                    refine zw_iinc_2_p1 X dX8_faultOf_140 ?_
                    refine zw_goto (tgt := 4) X dX8_faultOf_143 (by decide) ?_
                    refine zw_fg_3 ?_
                    refine zw_fg_4 ?_
                    refine zw_fg_5 ?_
                    exact ih (by first | (simp only [mBad, mFits, c_22, eq_true c_28, c_45, c_71, c_102, eq_true c_108, c_115, c_124, decide_true, decide_false, Bool.and_true, Bool.true_and, Bool.and_false, Bool.false_and, Bool.or_true, Bool.true_or, Bool.or_false, Bool.false_or, Bool.not_true, Bool.not_false, if_true, if_false, ite_true, ite_false, Bool.false_eq_true, not_true_eq_false, not_false_eq_true, bI_t, bI_f, decide_eq_true_eq, reduceCtorEq]; done) | (simp [mBad, mFits, c_22, eq_true c_28, c_45, c_71, c_102, eq_true c_108, c_115, c_124]; done) | simp_all) _ _ (by first | (simp only [mW_succ, mNext, c_22, eq_true c_28, c_45, c_71, c_102, eq_true c_108, c_115, c_124, decide_true, decide_false, Bool.and_true, Bool.true_and, Bool.and_false, Bool.false_and, Bool.or_true, Bool.true_or, Bool.or_false, Bool.false_or, Bool.not_true, Bool.not_false, if_true, if_false, ite_true, ite_false, Bool.false_eq_true, not_true_eq_false, not_false_eq_true, bI_t, bI_f, decide_eq_true_eq, reduceCtorEq]; done) | (simp [mW_succ, mNext, c_22, eq_true c_28, c_45, c_71, c_102, eq_true c_108, c_115, c_124]; done) | simp_all) (nI_1 j)
                  · refine zw_iload_3 X dX8_faultOf_127 ?_
                    refine zw_cS_ii X dX8_faultOf_128 lk_X8_91 ok_MX8_isDigit st_MX8_isDigit rm_X8_faultOf_X8_isDigit (Nat.le_of_ble_eq_true rfl) t_X8_isDigit ?_
                    refine zw_ifeqB (tgt := 138) X dX8_faultOf_131 (by decide) (fun c_131 => ?_) (fun c_131 => ?_)
                    · refine zw_iconst (v := 0) X dX8_faultOf_138 ik_0 ?_
                      refine zw_istore_1 X dX8_faultOf_139 ?_
                      refine zw_iinc_2_p1 X dX8_faultOf_140 ?_
                      refine zw_goto (tgt := 4) X dX8_faultOf_143 (by decide) ?_
                      refine zw_fg_3 ?_
                      refine zw_fg_4 ?_
                      refine zw_fg_5 ?_
                      exact ih (by first | (simp only [mBad, mFits, c_22, eq_true c_28, c_45, c_71, c_102, eq_true c_108, c_115, eq_true c_124, c_131, decide_true, decide_false, Bool.and_true, Bool.true_and, Bool.and_false, Bool.false_and, Bool.or_true, Bool.true_or, Bool.or_false, Bool.false_or, Bool.not_true, Bool.not_false, if_true, if_false, ite_true, ite_false, Bool.false_eq_true, not_true_eq_false, not_false_eq_true, bI_t, bI_f, decide_eq_true_eq, reduceCtorEq]; done) | (simp [mBad, mFits, c_22, eq_true c_28, c_45, c_71, c_102, eq_true c_108, c_115, eq_true c_124, c_131]; done) | simp_all) _ _ (by first | (simp only [mW_succ, mNext, c_22, eq_true c_28, c_45, c_71, c_102, eq_true c_108, c_115, eq_true c_124, c_131, decide_true, decide_false, Bool.and_true, Bool.true_and, Bool.and_false, Bool.false_and, Bool.or_true, Bool.true_or, Bool.or_false, Bool.false_or, Bool.not_true, Bool.not_false, if_true, if_false, ite_true, ite_false, Bool.false_eq_true, not_true_eq_false, not_false_eq_true, bI_t, bI_f, decide_eq_true_eq, reduceCtorEq]; done) | (simp [mW_succ, mNext, c_22, eq_true c_28, c_45, c_71, c_102, eq_true c_108, c_115, eq_true c_124, c_131]; done) | simp_all) (nI_1 j)
                    · refine zw_iconst (v := 2) X dX8_faultOf_134 ik_2 ?_
                      refine zw_goto (tgt := 139) X dX8_faultOf_135 (by decide) ?_
                      refine zw_istore_1 X dX8_faultOf_139 ?_
                      refine zw_iinc_2_p1 X dX8_faultOf_140 ?_
                      refine zw_goto (tgt := 4) X dX8_faultOf_143 (by decide) ?_
                      refine zw_fg_3 ?_
                      refine zw_fg_4 ?_
                      refine zw_fg_5 ?_
                      exact ih (by first | (simp only [mBad, mFits, c_22, eq_true c_28, c_45, c_71, c_102, eq_true c_108, c_115, eq_true c_124, c_131, decide_true, decide_false, Bool.and_true, Bool.true_and, Bool.and_false, Bool.false_and, Bool.or_true, Bool.true_or, Bool.or_false, Bool.false_or, Bool.not_true, Bool.not_false, if_true, if_false, ite_true, ite_false, Bool.false_eq_true, not_true_eq_false, not_false_eq_true, bI_t, bI_f, decide_eq_true_eq, reduceCtorEq]; done) | (simp [mBad, mFits, c_22, eq_true c_28, c_45, c_71, c_102, eq_true c_108, c_115, eq_true c_124, c_131]; done) | simp_all) _ _ (by first | (simp only [mW_succ, mNext, c_22, eq_true c_28, c_45, c_71, c_102, eq_true c_108, c_115, eq_true c_124, c_131, decide_true, decide_false, Bool.and_true, Bool.true_and, Bool.and_false, Bool.false_and, Bool.or_true, Bool.true_or, Bool.or_false, Bool.false_or, Bool.not_true, Bool.not_false, if_true, if_false, ite_true, ite_false, Bool.false_eq_true, not_true_eq_false, not_false_eq_true, bI_t, bI_f, decide_eq_true_eq, reduceCtorEq]; done) | (simp [mW_succ, mNext, c_22, eq_true c_28, c_45, c_71, c_102, eq_true c_108, c_115, eq_true c_124, c_131]; done) | simp_all) (nI_1 j)
                · refine zw_iconst (v := 1) X dX8_faultOf_118 ik_1 ?_
                  refine zw_goto (tgt := 139) X dX8_faultOf_119 (by decide) ?_
                  refine zw_istore_1 X dX8_faultOf_139 ?_
                  refine zw_iinc_2_p1 X dX8_faultOf_140 ?_
                  refine zw_goto (tgt := 4) X dX8_faultOf_143 (by decide) ?_
                  refine zw_fg_3 ?_
                  refine zw_fg_4 ?_
                  refine zw_fg_5 ?_
                  exact ih (by first | (simp only [mBad, mFits, c_22, eq_true c_28, c_45, c_71, c_102, eq_true c_108, c_115, decide_true, decide_false, Bool.and_true, Bool.true_and, Bool.and_false, Bool.false_and, Bool.or_true, Bool.true_or, Bool.or_false, Bool.false_or, Bool.not_true, Bool.not_false, if_true, if_false, ite_true, ite_false, Bool.false_eq_true, not_true_eq_false, not_false_eq_true, bI_t, bI_f, decide_eq_true_eq, reduceCtorEq]; done) | (simp [mBad, mFits, c_22, eq_true c_28, c_45, c_71, c_102, eq_true c_108, c_115]; done) | simp_all) _ _ (by first | (simp only [mW_succ, mNext, c_22, eq_true c_28, c_45, c_71, c_102, eq_true c_108, c_115, decide_true, decide_false, Bool.and_true, Bool.true_and, Bool.and_false, Bool.false_and, Bool.or_true, Bool.true_or, Bool.or_false, Bool.false_or, Bool.not_true, Bool.not_false, if_true, if_false, ite_true, ite_false, Bool.false_eq_true, not_true_eq_false, not_false_eq_true, bI_t, bI_f, decide_eq_true_eq, reduceCtorEq]; done) | (simp [mW_succ, mNext, c_22, eq_true c_28, c_45, c_71, c_102, eq_true c_108, c_115]; done) | simp_all) (nI_1 j)
            · refine zw_iload_2 X dX8_faultOf_105 ?_
              exact zw_iret X F dX8_faultOf_106 rfl (by rw [mFault, fstB_at (P := mBad (σ 49)) (by first | (simp only [mBad, mFits, c_22, eq_true c_28, c_45, c_71, c_102, decide_true, decide_false, Bool.and_true, Bool.true_and, Bool.and_false, Bool.false_and, Bool.or_true, Bool.true_or, Bool.or_false, Bool.false_or, Bool.not_true, Bool.not_false, if_true, if_false, ite_true, ite_false, Bool.false_eq_true, not_true_eq_false, not_false_eq_true, bI_t, bI_f, decide_eq_true_eq, reduceCtorEq]; done) | (simp [mBad, mFits, c_22, eq_true c_28, c_45, c_71, c_102]; done) | simp_all) hb hj, if_pos hj]) (rfl)
          · refine zw_iload_4 X dX8_faultOf_74 ?_
            refine zw_ifne_t (tgt := 86) X dX8_faultOf_76 (by decide) (by decide) ?_
            refine zw_iconst (v := 1) X dX8_faultOf_86 ik_1 ?_
            refine zw_goto (tgt := 98) X dX8_faultOf_87 (by decide) ?_
            refine zw_istore_5 X dX8_faultOf_98 ?_
            refine zw_iload_5 X dX8_faultOf_100 ?_
            refine zw_ifne_t (tgt := 107) X dX8_faultOf_102 (by decide) (by decide) ?_
            refine zw_iload_1 X dX8_faultOf_107 ?_
            refine zw_ifne (tgt := 122) X dX8_faultOf_108 (by decide) (fun c_108 => ?_) (fun c_108 => ?_)
            · refine zw_iload_1 X dX8_faultOf_122 ?_
              refine zw_iconst (v := 1) X dX8_faultOf_123 ik_1 ?_
              refine zw_icmpne (tgt := 138) X dX8_faultOf_124 (by decide) (fun c_124 => ?_) (fun c_124 => ?_)
              · refine zw_iconst (v := 0) X dX8_faultOf_138 ik_0 ?_
                refine zw_istore_1 X dX8_faultOf_139 ?_
                refine zw_iinc_2_p1 X dX8_faultOf_140 ?_
                refine zw_goto (tgt := 4) X dX8_faultOf_143 (by decide) ?_
                refine zw_fg_3 ?_
                refine zw_fg_4 ?_
                refine zw_fg_5 ?_
                exact ih (by first | (simp only [mBad, mFits, c_22, eq_true c_28, c_45, eq_true c_71, c_108, c_124, decide_true, decide_false, Bool.and_true, Bool.true_and, Bool.and_false, Bool.false_and, Bool.or_true, Bool.true_or, Bool.or_false, Bool.false_or, Bool.not_true, Bool.not_false, if_true, if_false, ite_true, ite_false, Bool.false_eq_true, not_true_eq_false, not_false_eq_true, bI_t, bI_f, decide_eq_true_eq, reduceCtorEq]; done) | (simp [mBad, mFits, c_22, eq_true c_28, c_45, eq_true c_71, c_108, c_124]; done) | simp_all) _ _ (by first | (simp only [mW_succ, mNext, c_22, eq_true c_28, c_45, eq_true c_71, c_108, c_124, decide_true, decide_false, Bool.and_true, Bool.true_and, Bool.and_false, Bool.false_and, Bool.or_true, Bool.true_or, Bool.or_false, Bool.false_or, Bool.not_true, Bool.not_false, if_true, if_false, ite_true, ite_false, Bool.false_eq_true, not_true_eq_false, not_false_eq_true, bI_t, bI_f, decide_eq_true_eq, reduceCtorEq]; done) | (simp [mW_succ, mNext, c_22, eq_true c_28, c_45, eq_true c_71, c_108, c_124]; done) | simp_all) (nI_1 j)
              · refine zw_iload_3 X dX8_faultOf_127 ?_
                refine zw_cS_ii X dX8_faultOf_128 lk_X8_91 ok_MX8_isDigit st_MX8_isDigit rm_X8_faultOf_X8_isDigit (Nat.le_of_ble_eq_true rfl) t_X8_isDigit ?_
                refine zw_ifeqB (tgt := 138) X dX8_faultOf_131 (by decide) (fun c_131 => ?_) (fun c_131 => ?_)
                · refine zw_iconst (v := 0) X dX8_faultOf_138 ik_0 ?_
                  refine zw_istore_1 X dX8_faultOf_139 ?_
                  refine zw_iinc_2_p1 X dX8_faultOf_140 ?_
                  refine zw_goto (tgt := 4) X dX8_faultOf_143 (by decide) ?_
                  refine zw_fg_3 ?_
                  refine zw_fg_4 ?_
                  refine zw_fg_5 ?_
                  exact ih (by first | (simp only [mBad, mFits, c_22, eq_true c_28, c_45, eq_true c_71, c_108, eq_true c_124, c_131, decide_true, decide_false, Bool.and_true, Bool.true_and, Bool.and_false, Bool.false_and, Bool.or_true, Bool.true_or, Bool.or_false, Bool.false_or, Bool.not_true, Bool.not_false, if_true, if_false, ite_true, ite_false, Bool.false_eq_true, not_true_eq_false, not_false_eq_true, bI_t, bI_f, decide_eq_true_eq, reduceCtorEq]; done) | (simp [mBad, mFits, c_22, eq_true c_28, c_45, eq_true c_71, c_108, eq_true c_124, c_131]; done) | simp_all) _ _ (by first | (simp only [mW_succ, mNext, c_22, eq_true c_28, c_45, eq_true c_71, c_108, eq_true c_124, c_131, decide_true, decide_false, Bool.and_true, Bool.true_and, Bool.and_false, Bool.false_and, Bool.or_true, Bool.true_or, Bool.or_false, Bool.false_or, Bool.not_true, Bool.not_false, if_true, if_false, ite_true, ite_false, Bool.false_eq_true, not_true_eq_false, not_false_eq_true, bI_t, bI_f, decide_eq_true_eq, reduceCtorEq]; done) | (simp [mW_succ, mNext, c_22, eq_true c_28, c_45, eq_true c_71, c_108, eq_true c_124, c_131]; done) | simp_all) (nI_1 j)
                · refine zw_iconst (v := 2) X dX8_faultOf_134 ik_2 ?_
                  refine zw_goto (tgt := 139) X dX8_faultOf_135 (by decide) ?_
                  refine zw_istore_1 X dX8_faultOf_139 ?_
                  refine zw_iinc_2_p1 X dX8_faultOf_140 ?_
                  refine zw_goto (tgt := 4) X dX8_faultOf_143 (by decide) ?_
                  refine zw_fg_3 ?_
                  refine zw_fg_4 ?_
                  refine zw_fg_5 ?_
                  exact ih (by first | (simp only [mBad, mFits, c_22, eq_true c_28, c_45, eq_true c_71, c_108, eq_true c_124, c_131, decide_true, decide_false, Bool.and_true, Bool.true_and, Bool.and_false, Bool.false_and, Bool.or_true, Bool.true_or, Bool.or_false, Bool.false_or, Bool.not_true, Bool.not_false, if_true, if_false, ite_true, ite_false, Bool.false_eq_true, not_true_eq_false, not_false_eq_true, bI_t, bI_f, decide_eq_true_eq, reduceCtorEq]; done) | (simp [mBad, mFits, c_22, eq_true c_28, c_45, eq_true c_71, c_108, eq_true c_124, c_131]; done) | simp_all) _ _ (by first | (simp only [mW_succ, mNext, c_22, eq_true c_28, c_45, eq_true c_71, c_108, eq_true c_124, c_131, decide_true, decide_false, Bool.and_true, Bool.true_and, Bool.and_false, Bool.false_and, Bool.or_true, Bool.true_or, Bool.or_false, Bool.false_or, Bool.not_true, Bool.not_false, if_true, if_false, ite_true, ite_false, Bool.false_eq_true, not_true_eq_false, not_false_eq_true, bI_t, bI_f, decide_eq_true_eq, reduceCtorEq]; done) | (simp [mW_succ, mNext, c_22, eq_true c_28, c_45, eq_true c_71, c_108, eq_true c_124, c_131]; done) | simp_all) (nI_1 j)
            · refine zw_iload_3 X dX8_faultOf_111 ?_
              refine zw_cS_ii X dX8_faultOf_112 lk_X8_88 ok_MX8_isLetter st_MX8_isLetter rm_X8_faultOf_X8_isLetter (Nat.le_of_ble_eq_true rfl) t_X8_isLetter ?_
              refine zw_ifeqB (tgt := 122) X dX8_faultOf_115 (by decide) (fun c_115 => ?_) (fun c_115 => ?_)
              · refine zw_iload_1 X dX8_faultOf_122 ?_
                refine zw_iconst (v := 1) X dX8_faultOf_123 ik_1 ?_
                refine zw_icmpne (tgt := 138) X dX8_faultOf_124 (by decide) (fun c_124 => ?_) (fun c_124 => ?_)
                · refine zw_iconst (v := 0) X dX8_faultOf_138 ik_0 ?_
                  refine zw_istore_1 X dX8_faultOf_139 ?_
                  refine zw_iinc_2_p1 X dX8_faultOf_140 ?_
                  refine zw_goto (tgt := 4) X dX8_faultOf_143 (by decide) ?_
                  refine zw_fg_3 ?_
                  refine zw_fg_4 ?_
                  refine zw_fg_5 ?_
                  exact ih (by first | (simp only [mBad, mFits, c_22, eq_true c_28, c_45, eq_true c_71, eq_true c_108, c_115, c_124, decide_true, decide_false, Bool.and_true, Bool.true_and, Bool.and_false, Bool.false_and, Bool.or_true, Bool.true_or, Bool.or_false, Bool.false_or, Bool.not_true, Bool.not_false, if_true, if_false, ite_true, ite_false, Bool.false_eq_true, not_true_eq_false, not_false_eq_true, bI_t, bI_f, decide_eq_true_eq, reduceCtorEq]; done) | (simp [mBad, mFits, c_22, eq_true c_28, c_45, eq_true c_71, eq_true c_108, c_115, c_124]; done) | simp_all) _ _ (by first | (simp only [mW_succ, mNext, c_22, eq_true c_28, c_45, eq_true c_71, eq_true c_108, c_115, c_124, decide_true, decide_false, Bool.and_true, Bool.true_and, Bool.and_false, Bool.false_and, Bool.or_true, Bool.true_or, Bool.or_false, Bool.false_or, Bool.not_true, Bool.not_false, if_true, if_false, ite_true, ite_false, Bool.false_eq_true, not_true_eq_false, not_false_eq_true, bI_t, bI_f, decide_eq_true_eq, reduceCtorEq]; done) | (simp [mW_succ, mNext, c_22, eq_true c_28, c_45, eq_true c_71, eq_true c_108, c_115, c_124]; done) | simp_all) (nI_1 j)
                · refine zw_iload_3 X dX8_faultOf_127 ?_
                  refine zw_cS_ii X dX8_faultOf_128 lk_X8_91 ok_MX8_isDigit st_MX8_isDigit rm_X8_faultOf_X8_isDigit (Nat.le_of_ble_eq_true rfl) t_X8_isDigit ?_
                  refine zw_ifeqB (tgt := 138) X dX8_faultOf_131 (by decide) (fun c_131 => ?_) (fun c_131 => ?_)
                  · refine zw_iconst (v := 0) X dX8_faultOf_138 ik_0 ?_
                    refine zw_istore_1 X dX8_faultOf_139 ?_
                    refine zw_iinc_2_p1 X dX8_faultOf_140 ?_
                    refine zw_goto (tgt := 4) X dX8_faultOf_143 (by decide) ?_
                    refine zw_fg_3 ?_
                    refine zw_fg_4 ?_
                    refine zw_fg_5 ?_
                    exact ih (by first | (simp only [mBad, mFits, c_22, eq_true c_28, c_45, eq_true c_71, eq_true c_108, c_115, eq_true c_124, c_131, decide_true, decide_false, Bool.and_true, Bool.true_and, Bool.and_false, Bool.false_and, Bool.or_true, Bool.true_or, Bool.or_false, Bool.false_or, Bool.not_true, Bool.not_false, if_true, if_false, ite_true, ite_false, Bool.false_eq_true, not_true_eq_false, not_false_eq_true, bI_t, bI_f, decide_eq_true_eq, reduceCtorEq]; done) | (simp [mBad, mFits, c_22, eq_true c_28, c_45, eq_true c_71, eq_true c_108, c_115, eq_true c_124, c_131]; done) | simp_all) _ _ (by first | (simp only [mW_succ, mNext, c_22, eq_true c_28, c_45, eq_true c_71, eq_true c_108, c_115, eq_true c_124, c_131, decide_true, decide_false, Bool.and_true, Bool.true_and, Bool.and_false, Bool.false_and, Bool.or_true, Bool.true_or, Bool.or_false, Bool.false_or, Bool.not_true, Bool.not_false, if_true, if_false, ite_true, ite_false, Bool.false_eq_true, not_true_eq_false, not_false_eq_true, bI_t, bI_f, decide_eq_true_eq, reduceCtorEq]; done) | (simp [mW_succ, mNext, c_22, eq_true c_28, c_45, eq_true c_71, eq_true c_108, c_115, eq_true c_124, c_131]; done) | simp_all) (nI_1 j)
                  · refine zw_iconst (v := 2) X dX8_faultOf_134 ik_2 ?_
                    refine zw_goto (tgt := 139) X dX8_faultOf_135 (by decide) ?_
                    refine zw_istore_1 X dX8_faultOf_139 ?_
                    refine zw_iinc_2_p1 X dX8_faultOf_140 ?_
                    refine zw_goto (tgt := 4) X dX8_faultOf_143 (by decide) ?_
                    refine zw_fg_3 ?_
                    refine zw_fg_4 ?_
                    refine zw_fg_5 ?_
                    exact ih (by first | (simp only [mBad, mFits, c_22, eq_true c_28, c_45, eq_true c_71, eq_true c_108, c_115, eq_true c_124, c_131, decide_true, decide_false, Bool.and_true, Bool.true_and, Bool.and_false, Bool.false_and, Bool.or_true, Bool.true_or, Bool.or_false, Bool.false_or, Bool.not_true, Bool.not_false, if_true, if_false, ite_true, ite_false, Bool.false_eq_true, not_true_eq_false, not_false_eq_true, bI_t, bI_f, decide_eq_true_eq, reduceCtorEq]; done) | (simp [mBad, mFits, c_22, eq_true c_28, c_45, eq_true c_71, eq_true c_108, c_115, eq_true c_124, c_131]; done) | simp_all) _ _ (by first | (simp only [mW_succ, mNext, c_22, eq_true c_28, c_45, eq_true c_71, eq_true c_108, c_115, eq_true c_124, c_131, decide_true, decide_false, Bool.and_true, Bool.true_and, Bool.and_false, Bool.false_and, Bool.or_true, Bool.true_or, Bool.or_false, Bool.false_or, Bool.not_true, Bool.not_false, if_true, if_false, ite_true, ite_false, Bool.false_eq_true, not_true_eq_false, not_false_eq_true, bI_t, bI_f, decide_eq_true_eq, reduceCtorEq]; done) | (simp [mW_succ, mNext, c_22, eq_true c_28, c_45, eq_true c_71, eq_true c_108, c_115, eq_true c_124, c_131]; done) | simp_all) (nI_1 j)
              · refine zw_iconst (v := 1) X dX8_faultOf_118 ik_1 ?_
                refine zw_goto (tgt := 139) X dX8_faultOf_119 (by decide) ?_
                refine zw_istore_1 X dX8_faultOf_139 ?_
                refine zw_iinc_2_p1 X dX8_faultOf_140 ?_
                refine zw_goto (tgt := 4) X dX8_faultOf_143 (by decide) ?_
                refine zw_fg_3 ?_
                refine zw_fg_4 ?_
                refine zw_fg_5 ?_
                exact ih (by first | (simp only [mBad, mFits, c_22, eq_true c_28, c_45, eq_true c_71, eq_true c_108, c_115, decide_true, decide_false, Bool.and_true, Bool.true_and, Bool.and_false, Bool.false_and, Bool.or_true, Bool.true_or, Bool.or_false, Bool.false_or, Bool.not_true, Bool.not_false, if_true, if_false, ite_true, ite_false, Bool.false_eq_true, not_true_eq_false, not_false_eq_true, bI_t, bI_f, decide_eq_true_eq, reduceCtorEq]; done) | (simp [mBad, mFits, c_22, eq_true c_28, c_45, eq_true c_71, eq_true c_108, c_115]; done) | simp_all) _ _ (by first | (simp only [mW_succ, mNext, c_22, eq_true c_28, c_45, eq_true c_71, eq_true c_108, c_115, decide_true, decide_false, Bool.and_true, Bool.true_and, Bool.and_false, Bool.false_and, Bool.or_true, Bool.true_or, Bool.or_false, Bool.false_or, Bool.not_true, Bool.not_false, if_true, if_false, ite_true, ite_false, Bool.false_eq_true, not_true_eq_false, not_false_eq_true, bI_t, bI_f, decide_eq_true_eq, reduceCtorEq]; done) | (simp [mW_succ, mNext, c_22, eq_true c_28, c_45, eq_true c_71, eq_true c_108, c_115]; done) | simp_all) (nI_1 j)
        · refine zw_iload_3 X dX8_faultOf_48 ?_
          refine zw_cS_ii X dX8_faultOf_49 lk_X8_88 ok_MX8_isLetter st_MX8_isLetter rm_X8_faultOf_X8_isLetter (Nat.le_of_ble_eq_true rfl) t_X8_isLetter ?_
          refine zw_ifneB (tgt := 61) X dX8_faultOf_52 (by decide) (fun c_52 => ?_) (fun c_52 => ?_)
          · refine zw_iconst (v := 1) X dX8_faultOf_61 ik_1 ?_
            refine zw_goto (tgt := 98) X dX8_faultOf_62 (by decide) ?_
            refine zw_istore_5 X dX8_faultOf_98 ?_
            refine zw_iload_5 X dX8_faultOf_100 ?_
            refine zw_ifne_t (tgt := 107) X dX8_faultOf_102 (by decide) (by decide) ?_
            refine zw_iload_1 X dX8_faultOf_107 ?_
            refine zw_ifne (tgt := 122) X dX8_faultOf_108 (by decide) (fun c_108 => ?_) (fun c_108 => ?_)
            · refine zw_iload_1 X dX8_faultOf_122 ?_
              refine zw_iconst (v := 1) X dX8_faultOf_123 ik_1 ?_
              refine zw_icmpne (tgt := 138) X dX8_faultOf_124 (by decide) (fun c_124 => ?_) (fun c_124 => ?_)
              · refine zw_iconst (v := 0) X dX8_faultOf_138 ik_0 ?_
                refine zw_istore_1 X dX8_faultOf_139 ?_
                refine zw_iinc_2_p1 X dX8_faultOf_140 ?_
                refine zw_goto (tgt := 4) X dX8_faultOf_143 (by decide) ?_
                refine zw_fg_3 ?_
                refine zw_fg_4 ?_
                refine zw_fg_5 ?_
                exact ih (by first | (simp only [mBad, mFits, c_22, eq_true c_28, eq_true c_45, c_52, c_108, c_124, decide_true, decide_false, Bool.and_true, Bool.true_and, Bool.and_false, Bool.false_and, Bool.or_true, Bool.true_or, Bool.or_false, Bool.false_or, Bool.not_true, Bool.not_false, if_true, if_false, ite_true, ite_false, Bool.false_eq_true, not_true_eq_false, not_false_eq_true, bI_t, bI_f, decide_eq_true_eq, reduceCtorEq]; done) | (simp [mBad, mFits, c_22, eq_true c_28, eq_true c_45, c_52, c_108, c_124]; done) | simp_all) _ _ (by first | (simp only [mW_succ, mNext, c_22, eq_true c_28, eq_true c_45, c_52, c_108, c_124, decide_true, decide_false, Bool.and_true, Bool.true_and, Bool.and_false, Bool.false_and, Bool.or_true, Bool.true_or, Bool.or_false, Bool.false_or, Bool.not_true, Bool.not_false, if_true, if_false, ite_true, ite_false, Bool.false_eq_true, not_true_eq_false, not_false_eq_true, bI_t, bI_f, decide_eq_true_eq, reduceCtorEq]; done) | (simp [mW_succ, mNext, c_22, eq_true c_28, eq_true c_45, c_52, c_108, c_124]; done) | simp_all) (nI_1 j)
              · refine zw_iload_3 X dX8_faultOf_127 ?_
                refine zw_cS_ii X dX8_faultOf_128 lk_X8_91 ok_MX8_isDigit st_MX8_isDigit rm_X8_faultOf_X8_isDigit (Nat.le_of_ble_eq_true rfl) t_X8_isDigit ?_
                refine zw_ifeqB (tgt := 138) X dX8_faultOf_131 (by decide) (fun c_131 => ?_) (fun c_131 => ?_)
                · refine zw_iconst (v := 0) X dX8_faultOf_138 ik_0 ?_
                  refine zw_istore_1 X dX8_faultOf_139 ?_
                  refine zw_iinc_2_p1 X dX8_faultOf_140 ?_
                  refine zw_goto (tgt := 4) X dX8_faultOf_143 (by decide) ?_
                  refine zw_fg_3 ?_
                  refine zw_fg_4 ?_
                  refine zw_fg_5 ?_
                  exact ih (by first | (simp only [mBad, mFits, c_22, eq_true c_28, eq_true c_45, c_52, c_108, eq_true c_124, c_131, decide_true, decide_false, Bool.and_true, Bool.true_and, Bool.and_false, Bool.false_and, Bool.or_true, Bool.true_or, Bool.or_false, Bool.false_or, Bool.not_true, Bool.not_false, if_true, if_false, ite_true, ite_false, Bool.false_eq_true, not_true_eq_false, not_false_eq_true, bI_t, bI_f, decide_eq_true_eq, reduceCtorEq]; done) | (simp [mBad, mFits, c_22, eq_true c_28, eq_true c_45, c_52, c_108, eq_true c_124, c_131]; done) | simp_all) _ _ (by first | (simp only [mW_succ, mNext, c_22, eq_true c_28, eq_true c_45, c_52, c_108, eq_true c_124, c_131, decide_true, decide_false, Bool.and_true, Bool.true_and, Bool.and_false, Bool.false_and, Bool.or_true, Bool.true_or, Bool.or_false, Bool.false_or, Bool.not_true, Bool.not_false, if_true, if_false, ite_true, ite_false, Bool.false_eq_true, not_true_eq_false, not_false_eq_true, bI_t, bI_f, decide_eq_true_eq, reduceCtorEq]; done) | (simp [mW_succ, mNext, c_22, eq_true c_28, eq_true c_45, c_52, c_108, eq_true c_124, c_131]; done) | simp_all) (nI_1 j)
                · refine zw_iconst (v := 2) X dX8_faultOf_134 ik_2 ?_
                  refine zw_goto (tgt := 139) X dX8_faultOf_135 (by decide) ?_
                  refine zw_istore_1 X dX8_faultOf_139 ?_
                  refine zw_iinc_2_p1 X dX8_faultOf_140 ?_
                  refine zw_goto (tgt := 4) X dX8_faultOf_143 (by decide) ?_
                  refine zw_fg_3 ?_
                  refine zw_fg_4 ?_
                  refine zw_fg_5 ?_
                  exact ih (by first | (simp only [mBad, mFits, c_22, eq_true c_28, eq_true c_45, c_52, c_108, eq_true c_124, c_131, decide_true, decide_false, Bool.and_true, Bool.true_and, Bool.and_false, Bool.false_and, Bool.or_true, Bool.true_or, Bool.or_false, Bool.false_or, Bool.not_true, Bool.not_false, if_true, if_false, ite_true, ite_false, Bool.false_eq_true, not_true_eq_false, not_false_eq_true, bI_t, bI_f, decide_eq_true_eq, reduceCtorEq]; done) | (simp [mBad, mFits, c_22, eq_true c_28, eq_true c_45, c_52, c_108, eq_true c_124, c_131]; done) | simp_all) _ _ (by first | (simp only [mW_succ, mNext, c_22, eq_true c_28, eq_true c_45, c_52, c_108, eq_true c_124, c_131, decide_true, decide_false, Bool.and_true, Bool.true_and, Bool.and_false, Bool.false_and, Bool.or_true, Bool.true_or, Bool.or_false, Bool.false_or, Bool.not_true, Bool.not_false, if_true, if_false, ite_true, ite_false, Bool.false_eq_true, not_true_eq_false, not_false_eq_true, bI_t, bI_f, decide_eq_true_eq, reduceCtorEq]; done) | (simp [mW_succ, mNext, c_22, eq_true c_28, eq_true c_45, c_52, c_108, eq_true c_124, c_131]; done) | simp_all) (nI_1 j)
            · refine zw_iload_3 X dX8_faultOf_111 ?_
              refine zw_cS_ii X dX8_faultOf_112 lk_X8_88 ok_MX8_isLetter st_MX8_isLetter rm_X8_faultOf_X8_isLetter (Nat.le_of_ble_eq_true rfl) t_X8_isLetter ?_
              refine zw_ifeqB (tgt := 122) X dX8_faultOf_115 (by decide) (fun c_115 => ?_) (fun c_115 => ?_)
              · refine zw_iload_1 X dX8_faultOf_122 ?_
                refine zw_iconst (v := 1) X dX8_faultOf_123 ik_1 ?_
                refine zw_icmpne (tgt := 138) X dX8_faultOf_124 (by decide) (fun c_124 => ?_) (fun c_124 => ?_)
                · refine zw_iconst (v := 0) X dX8_faultOf_138 ik_0 ?_
                  refine zw_istore_1 X dX8_faultOf_139 ?_
                  refine zw_iinc_2_p1 X dX8_faultOf_140 ?_
                  refine zw_goto (tgt := 4) X dX8_faultOf_143 (by decide) ?_
                  refine zw_fg_3 ?_
                  refine zw_fg_4 ?_
                  refine zw_fg_5 ?_
                  exact ih (by first | (simp only [mBad, mFits, c_22, eq_true c_28, eq_true c_45, c_52, eq_true c_108, c_115, c_124, decide_true, decide_false, Bool.and_true, Bool.true_and, Bool.and_false, Bool.false_and, Bool.or_true, Bool.true_or, Bool.or_false, Bool.false_or, Bool.not_true, Bool.not_false, if_true, if_false, ite_true, ite_false, Bool.false_eq_true, not_true_eq_false, not_false_eq_true, bI_t, bI_f, decide_eq_true_eq, reduceCtorEq]; done) | (simp [mBad, mFits, c_22, eq_true c_28, eq_true c_45, c_52, eq_true c_108, c_115, c_124]; done) | simp_all) _ _ (by first | (simp only [mW_succ, mNext, c_22, eq_true c_28, eq_true c_45, c_52, eq_true c_108, c_115, c_124, decide_true, decide_false, Bool.and_true, Bool.true_and, Bool.and_false, Bool.false_and, Bool.or_true, Bool.true_or, Bool.or_false, Bool.false_or, Bool.not_true, Bool.not_false, if_true, if_false, ite_true, ite_false, Bool.false_eq_true, not_true_eq_false, not_false_eq_true, bI_t, bI_f, decide_eq_true_eq, reduceCtorEq]; done) | (simp [mW_succ, mNext, c_22, eq_true c_28, eq_true c_45, c_52, eq_true c_108, c_115, c_124]; done) | simp_all) (nI_1 j)
                · refine zw_iload_3 X dX8_faultOf_127 ?_
                  refine zw_cS_ii X dX8_faultOf_128 lk_X8_91 ok_MX8_isDigit st_MX8_isDigit rm_X8_faultOf_X8_isDigit (Nat.le_of_ble_eq_true rfl) t_X8_isDigit ?_
                  refine zw_ifeqB (tgt := 138) X dX8_faultOf_131 (by decide) (fun c_131 => ?_) (fun c_131 => ?_)
                  · refine zw_iconst (v := 0) X dX8_faultOf_138 ik_0 ?_
                    refine zw_istore_1 X dX8_faultOf_139 ?_
                    refine zw_iinc_2_p1 X dX8_faultOf_140 ?_
                    refine zw_goto (tgt := 4) X dX8_faultOf_143 (by decide) ?_
                    refine zw_fg_3 ?_
                    refine zw_fg_4 ?_
                    refine zw_fg_5 ?_
                    exact ih (by first | (simp only [mBad, mFits, c_22, eq_true c_28, eq_true c_45, c_52, eq_true c_108, c_115, eq_true c_124, c_131, decide_true, decide_false, Bool.and_true, Bool.true_and, Bool.and_false, Bool.false_and, Bool.or_true, Bool.true_or, Bool.or_false, Bool.false_or, Bool.not_true, Bool.not_false, if_true, if_false, ite_true, ite_false, Bool.false_eq_true, not_true_eq_false, not_false_eq_true, bI_t, bI_f, decide_eq_true_eq, reduceCtorEq]; done) | (simp [mBad, mFits, c_22, eq_true c_28, eq_true c_45, c_52, eq_true c_108, c_115, eq_true c_124, c_131]; done) | simp_all) _ _ (by first | (simp only [mW_succ, mNext, c_22, eq_true c_28, eq_true c_45, c_52, eq_true c_108, c_115, eq_true c_124, c_131, decide_true, decide_false, Bool.and_true, Bool.true_and, Bool.and_false, Bool.false_and, Bool.or_true, Bool.true_or, Bool.or_false, Bool.false_or, Bool.not_true, Bool.not_false, if_true, if_false, ite_true, ite_false, Bool.false_eq_true, not_true_eq_false, not_false_eq_true, bI_t, bI_f, decide_eq_true_eq, reduceCtorEq]; done) | (simp [mW_succ, mNext, c_22, eq_true c_28, eq_true c_45, c_52, eq_true c_108, c_115, eq_true c_124, c_131]; done) | simp_all) (nI_1 j)
                  · refine zw_iconst (v := 2) X dX8_faultOf_134 ik_2 ?_
                    refine zw_goto (tgt := 139) X dX8_faultOf_135 (by decide) ?_
                    refine zw_istore_1 X dX8_faultOf_139 ?_
                    refine zw_iinc_2_p1 X dX8_faultOf_140 ?_
                    refine zw_goto (tgt := 4) X dX8_faultOf_143 (by decide) ?_
                    refine zw_fg_3 ?_
                    refine zw_fg_4 ?_
                    refine zw_fg_5 ?_
                    exact ih (by first | (simp only [mBad, mFits, c_22, eq_true c_28, eq_true c_45, c_52, eq_true c_108, c_115, eq_true c_124, c_131, decide_true, decide_false, Bool.and_true, Bool.true_and, Bool.and_false, Bool.false_and, Bool.or_true, Bool.true_or, Bool.or_false, Bool.false_or, Bool.not_true, Bool.not_false, if_true, if_false, ite_true, ite_false, Bool.false_eq_true, not_true_eq_false, not_false_eq_true, bI_t, bI_f, decide_eq_true_eq, reduceCtorEq]; done) | (simp [mBad, mFits, c_22, eq_true c_28, eq_true c_45, c_52, eq_true c_108, c_115, eq_true c_124, c_131]; done) | simp_all) _ _ (by first | (simp only [mW_succ, mNext, c_22, eq_true c_28, eq_true c_45, c_52, eq_true c_108, c_115, eq_true c_124, c_131, decide_true, decide_false, Bool.and_true, Bool.true_and, Bool.and_false, Bool.false_and, Bool.or_true, Bool.true_or, Bool.or_false, Bool.false_or, Bool.not_true, Bool.not_false, if_true, if_false, ite_true, ite_false, Bool.false_eq_true, not_true_eq_false, not_false_eq_true, bI_t, bI_f, decide_eq_true_eq, reduceCtorEq]; done) | (simp [mW_succ, mNext, c_22, eq_true c_28, eq_true c_45, c_52, eq_true c_108, c_115, eq_true c_124, c_131]; done) | simp_all) (nI_1 j)
              · refine zw_iconst (v := 1) X dX8_faultOf_118 ik_1 ?_
                refine zw_goto (tgt := 139) X dX8_faultOf_119 (by decide) ?_
                refine zw_istore_1 X dX8_faultOf_139 ?_
                refine zw_iinc_2_p1 X dX8_faultOf_140 ?_
                refine zw_goto (tgt := 4) X dX8_faultOf_143 (by decide) ?_
                refine zw_fg_3 ?_
                refine zw_fg_4 ?_
                refine zw_fg_5 ?_
                exact ih (by first | (simp only [mBad, mFits, c_22, eq_true c_28, eq_true c_45, c_52, eq_true c_108, c_115, decide_true, decide_false, Bool.and_true, Bool.true_and, Bool.and_false, Bool.false_and, Bool.or_true, Bool.true_or, Bool.or_false, Bool.false_or, Bool.not_true, Bool.not_false, if_true, if_false, ite_true, ite_false, Bool.false_eq_true, not_true_eq_false, not_false_eq_true, bI_t, bI_f, decide_eq_true_eq, reduceCtorEq]; done) | (simp [mBad, mFits, c_22, eq_true c_28, eq_true c_45, c_52, eq_true c_108, c_115]; done) | simp_all) _ _ (by first | (simp only [mW_succ, mNext, c_22, eq_true c_28, eq_true c_45, c_52, eq_true c_108, c_115, decide_true, decide_false, Bool.and_true, Bool.true_and, Bool.and_false, Bool.false_and, Bool.or_true, Bool.true_or, Bool.or_false, Bool.false_or, Bool.not_true, Bool.not_false, if_true, if_false, ite_true, ite_false, Bool.false_eq_true, not_true_eq_false, not_false_eq_true, bI_t, bI_f, decide_eq_true_eq, reduceCtorEq]; done) | (simp [mW_succ, mNext, c_22, eq_true c_28, eq_true c_45, c_52, eq_true c_108, c_115]; done) | simp_all) (nI_1 j)
          · refine zw_iload_3 X dX8_faultOf_55 ?_
            refine zw_bipush (v := 46) X dX8_faultOf_56 bk_46 ?_
            refine zw_icmpne (tgt := 65) X dX8_faultOf_58 (by decide) (fun c_58 => ?_) (fun c_58 => ?_)
            · refine zw_iconst (v := 0) X dX8_faultOf_65 ik_0 ?_
              refine zw_goto (tgt := 98) X dX8_faultOf_66 (by decide) ?_
              refine zw_istore_5 X dX8_faultOf_98 ?_
              refine zw_iload_5 X dX8_faultOf_100 ?_
              refine zw_ifne_f (tgt := 107) X dX8_faultOf_102 (by decide) (by decide) ?_
              refine zw_iload_2 X dX8_faultOf_105 ?_
              exact zw_iret X F dX8_faultOf_106 rfl (by rw [mFault, fstB_at (P := mBad (σ 49)) (by first | (simp only [mBad, mFits, c_22, eq_true c_28, eq_true c_45, c_52, c_58, decide_true, decide_false, Bool.and_true, Bool.true_and, Bool.and_false, Bool.false_and, Bool.or_true, Bool.true_or, Bool.or_false, Bool.false_or, Bool.not_true, Bool.not_false, if_true, if_false, ite_true, ite_false, Bool.false_eq_true, not_true_eq_false, not_false_eq_true, bI_t, bI_f, decide_eq_true_eq, reduceCtorEq]; done) | (simp [mBad, mFits, c_22, eq_true c_28, eq_true c_45, c_52, c_58]; done) | simp_all) hb hj, if_pos hj]) (rfl)
            · refine zw_iconst (v := 1) X dX8_faultOf_61 ik_1 ?_
              refine zw_goto (tgt := 98) X dX8_faultOf_62 (by decide) ?_
              refine zw_istore_5 X dX8_faultOf_98 ?_
              refine zw_iload_5 X dX8_faultOf_100 ?_
              refine zw_ifne_t (tgt := 107) X dX8_faultOf_102 (by decide) (by decide) ?_
              refine zw_iload_1 X dX8_faultOf_107 ?_
              refine zw_ifne (tgt := 122) X dX8_faultOf_108 (by decide) (fun c_108 => ?_) (fun c_108 => ?_)
              · refine zw_iload_1 X dX8_faultOf_122 ?_
                refine zw_iconst (v := 1) X dX8_faultOf_123 ik_1 ?_
                refine zw_icmpne (tgt := 138) X dX8_faultOf_124 (by decide) (fun c_124 => ?_) (fun c_124 => ?_)
                · refine zw_iconst (v := 0) X dX8_faultOf_138 ik_0 ?_
                  refine zw_istore_1 X dX8_faultOf_139 ?_
                  refine zw_iinc_2_p1 X dX8_faultOf_140 ?_
                  refine zw_goto (tgt := 4) X dX8_faultOf_143 (by decide) ?_
                  refine zw_fg_3 ?_
                  refine zw_fg_4 ?_
                  refine zw_fg_5 ?_
                  exact ih (by first | (simp only [mBad, mFits, c_22, eq_true c_28, eq_true c_45, c_52, eq_true c_58, c_108, c_124, decide_true, decide_false, Bool.and_true, Bool.true_and, Bool.and_false, Bool.false_and, Bool.or_true, Bool.true_or, Bool.or_false, Bool.false_or, Bool.not_true, Bool.not_false, if_true, if_false, ite_true, ite_false, Bool.false_eq_true, not_true_eq_false, not_false_eq_true, bI_t, bI_f, decide_eq_true_eq, reduceCtorEq]; done) | (simp [mBad, mFits, c_22, eq_true c_28, eq_true c_45, c_52, eq_true c_58, c_108, c_124]; done) | simp_all) _ _ (by first | (simp only [mW_succ, mNext, c_22, eq_true c_28, eq_true c_45, c_52, eq_true c_58, c_108, c_124, decide_true, decide_false, Bool.and_true, Bool.true_and, Bool.and_false, Bool.false_and, Bool.or_true, Bool.true_or, Bool.or_false, Bool.false_or, Bool.not_true, Bool.not_false, if_true, if_false, ite_true, ite_false, Bool.false_eq_true, not_true_eq_false, not_false_eq_true, bI_t, bI_f, decide_eq_true_eq, reduceCtorEq]; done) | (simp [mW_succ, mNext, c_22, eq_true c_28, eq_true c_45, c_52, eq_true c_58, c_108, c_124]; done) | simp_all) (nI_1 j)
                · refine zw_iload_3 X dX8_faultOf_127 ?_
                  refine zw_cS_ii X dX8_faultOf_128 lk_X8_91 ok_MX8_isDigit st_MX8_isDigit rm_X8_faultOf_X8_isDigit (Nat.le_of_ble_eq_true rfl) t_X8_isDigit ?_
                  refine zw_ifeqB (tgt := 138) X dX8_faultOf_131 (by decide) (fun c_131 => ?_) (fun c_131 => ?_)
                  · refine zw_iconst (v := 0) X dX8_faultOf_138 ik_0 ?_
                    refine zw_istore_1 X dX8_faultOf_139 ?_
                    refine zw_iinc_2_p1 X dX8_faultOf_140 ?_
                    refine zw_goto (tgt := 4) X dX8_faultOf_143 (by decide) ?_
                    refine zw_fg_3 ?_
                    refine zw_fg_4 ?_
                    refine zw_fg_5 ?_
                    exact ih (by first | (simp only [mBad, mFits, c_22, eq_true c_28, eq_true c_45, c_52, eq_true c_58, c_108, eq_true c_124, c_131, decide_true, decide_false, Bool.and_true, Bool.true_and, Bool.and_false, Bool.false_and, Bool.or_true, Bool.true_or, Bool.or_false, Bool.false_or, Bool.not_true, Bool.not_false, if_true, if_false, ite_true, ite_false, Bool.false_eq_true, not_true_eq_false, not_false_eq_true, bI_t, bI_f, decide_eq_true_eq, reduceCtorEq]; done) | (simp [mBad, mFits, c_22, eq_true c_28, eq_true c_45, c_52, eq_true c_58, c_108, eq_true c_124, c_131]; done) | simp_all) _ _ (by first | (simp only [mW_succ, mNext, c_22, eq_true c_28, eq_true c_45, c_52, eq_true c_58, c_108, eq_true c_124, c_131, decide_true, decide_false, Bool.and_true, Bool.true_and, Bool.and_false, Bool.false_and, Bool.or_true, Bool.true_or, Bool.or_false, Bool.false_or, Bool.not_true, Bool.not_false, if_true, if_false, ite_true, ite_false, Bool.false_eq_true, not_true_eq_false, not_false_eq_true, bI_t, bI_f, decide_eq_true_eq, reduceCtorEq]; done) | (simp [mW_succ, mNext, c_22, eq_true c_28, eq_true c_45, c_52, eq_true c_58, c_108, eq_true c_124, c_131]; done) | simp_all) (nI_1 j)
                  · refine zw_iconst (v := 2) X dX8_faultOf_134 ik_2 ?_
                    refine zw_goto (tgt := 139) X dX8_faultOf_135 (by decide) ?_
                    refine zw_istore_1 X dX8_faultOf_139 ?_
                    refine zw_iinc_2_p1 X dX8_faultOf_140 ?_
                    refine zw_goto (tgt := 4) X dX8_faultOf_143 (by decide) ?_
                    refine zw_fg_3 ?_
                    refine zw_fg_4 ?_
                    refine zw_fg_5 ?_
                    exact ih (by first | (simp only [mBad, mFits, c_22, eq_true c_28, eq_true c_45, c_52, eq_true c_58, c_108, eq_true c_124, c_131, decide_true, decide_false, Bool.and_true, Bool.true_and, Bool.and_false, Bool.false_and, Bool.or_true, Bool.true_or, Bool.or_false, Bool.false_or, Bool.not_true, Bool.not_false, if_true, if_false, ite_true, ite_false, Bool.false_eq_true, not_true_eq_false, not_false_eq_true, bI_t, bI_f, decide_eq_true_eq, reduceCtorEq]; done) | (simp [mBad, mFits, c_22, eq_true c_28, eq_true c_45, c_52, eq_true c_58, c_108, eq_true c_124, c_131]; done) | simp_all) _ _ (by first | (simp only [mW_succ, mNext, c_22, eq_true c_28, eq_true c_45, c_52, eq_true c_58, c_108, eq_true c_124, c_131, decide_true, decide_false, Bool.and_true, Bool.true_and, Bool.and_false, Bool.false_and, Bool.or_true, Bool.true_or, Bool.or_false, Bool.false_or, Bool.not_true, Bool.not_false, if_true, if_false, ite_true, ite_false, Bool.false_eq_true, not_true_eq_false, not_false_eq_true, bI_t, bI_f, decide_eq_true_eq, reduceCtorEq]; done) | (simp [mW_succ, mNext, c_22, eq_true c_28, eq_true c_45, c_52, eq_true c_58, c_108, eq_true c_124, c_131]; done) | simp_all) (nI_1 j)
              · refine zw_iload_3 X dX8_faultOf_111 ?_
                refine zw_cS_ii X dX8_faultOf_112 lk_X8_88 ok_MX8_isLetter st_MX8_isLetter rm_X8_faultOf_X8_isLetter (Nat.le_of_ble_eq_true rfl) t_X8_isLetter ?_
                refine zw_ifeqB (tgt := 122) X dX8_faultOf_115 (by decide) (fun c_115 => ?_) (fun c_115 => ?_)
                · refine zw_iload_1 X dX8_faultOf_122 ?_
                  refine zw_iconst (v := 1) X dX8_faultOf_123 ik_1 ?_
                  refine zw_icmpne (tgt := 138) X dX8_faultOf_124 (by decide) (fun c_124 => ?_) (fun c_124 => ?_)
                  · refine zw_iconst (v := 0) X dX8_faultOf_138 ik_0 ?_
                    refine zw_istore_1 X dX8_faultOf_139 ?_
                    refine zw_iinc_2_p1 X dX8_faultOf_140 ?_
                    refine zw_goto (tgt := 4) X dX8_faultOf_143 (by decide) ?_
                    refine zw_fg_3 ?_
                    refine zw_fg_4 ?_
                    refine zw_fg_5 ?_
                    exact ih (by first | (simp only [mBad, mFits, c_22, eq_true c_28, eq_true c_45, c_52, eq_true c_58, eq_true c_108, c_115, c_124, decide_true, decide_false, Bool.and_true, Bool.true_and, Bool.and_false, Bool.false_and, Bool.or_true, Bool.true_or, Bool.or_false, Bool.false_or, Bool.not_true, Bool.not_false, if_true, if_false, ite_true, ite_false, Bool.false_eq_true, not_true_eq_false, not_false_eq_true, bI_t, bI_f, decide_eq_true_eq, reduceCtorEq]; done) | (simp [mBad, mFits, c_22, eq_true c_28, eq_true c_45, c_52, eq_true c_58, eq_true c_108, c_115, c_124]; done) | simp_all) _ _ (by first | (simp only [mW_succ, mNext, c_22, eq_true c_28, eq_true c_45, c_52, eq_true c_58, eq_true c_108, c_115, c_124, decide_true, decide_false, Bool.and_true, Bool.true_and, Bool.and_false, Bool.false_and, Bool.or_true, Bool.true_or, Bool.or_false, Bool.false_or, Bool.not_true, Bool.not_false, if_true, if_false, ite_true, ite_false, Bool.false_eq_true, not_true_eq_false, not_false_eq_true, bI_t, bI_f, decide_eq_true_eq, reduceCtorEq]; done) | (simp [mW_succ, mNext, c_22, eq_true c_28, eq_true c_45, c_52, eq_true c_58, eq_true c_108, c_115, c_124]; done) | simp_all) (nI_1 j)
                  · refine zw_iload_3 X dX8_faultOf_127 ?_
                    refine zw_cS_ii X dX8_faultOf_128 lk_X8_91 ok_MX8_isDigit st_MX8_isDigit rm_X8_faultOf_X8_isDigit (Nat.le_of_ble_eq_true rfl) t_X8_isDigit ?_
                    refine zw_ifeqB (tgt := 138) X dX8_faultOf_131 (by decide) (fun c_131 => ?_) (fun c_131 => ?_)
                    · refine zw_iconst (v := 0) X dX8_faultOf_138 ik_0 ?_
                      refine zw_istore_1 X dX8_faultOf_139 ?_
                      refine zw_iinc_2_p1 X dX8_faultOf_140 ?_
                      refine zw_goto (tgt := 4) X dX8_faultOf_143 (by decide) ?_
                      refine zw_fg_3 ?_
                      refine zw_fg_4 ?_
                      refine zw_fg_5 ?_
                      exact ih (by first | (simp only [mBad, mFits, c_22, eq_true c_28, eq_true c_45, c_52, eq_true c_58, eq_true c_108, c_115, eq_true c_124, c_131, decide_true, decide_false, Bool.and_true, Bool.true_and, Bool.and_false, Bool.false_and, Bool.or_true, Bool.true_or, Bool.or_false, Bool.false_or, Bool.not_true, Bool.not_false, if_true, if_false, ite_true, ite_false, Bool.false_eq_true, not_true_eq_false, not_false_eq_true, bI_t, bI_f, decide_eq_true_eq, reduceCtorEq]; done) | (simp [mBad, mFits, c_22, eq_true c_28, eq_true c_45, c_52, eq_true c_58, eq_true c_108, c_115, eq_true c_124, c_131]; done) | simp_all) _ _ (by first | (simp only [mW_succ, mNext, c_22, eq_true c_28, eq_true c_45, c_52, eq_true c_58, eq_true c_108, c_115, eq_true c_124, c_131, decide_true, decide_false, Bool.and_true, Bool.true_and, Bool.and_false, Bool.false_and, Bool.or_true, Bool.true_or, Bool.or_false, Bool.false_or, Bool.not_true, Bool.not_false, if_true, if_false, ite_true, ite_false, Bool.false_eq_true, not_true_eq_false, not_false_eq_true, bI_t, bI_f, decide_eq_true_eq, reduceCtorEq]; done) | (simp [mW_succ, mNext, c_22, eq_true c_28, eq_true c_45, c_52, eq_true c_58, eq_true c_108, c_115, eq_true c_124, c_131]; done) | simp_all) (nI_1 j)
                    · refine zw_iconst (v := 2) X dX8_faultOf_134 ik_2 ?_
                      refine zw_goto (tgt := 139) X dX8_faultOf_135 (by decide) ?_
                      refine zw_istore_1 X dX8_faultOf_139 ?_
                      refine zw_iinc_2_p1 X dX8_faultOf_140 ?_
                      refine zw_goto (tgt := 4) X dX8_faultOf_143 (by decide) ?_
                      refine zw_fg_3 ?_
                      refine zw_fg_4 ?_
                      refine zw_fg_5 ?_
                      exact ih (by first | (simp only [mBad, mFits, c_22, eq_true c_28, eq_true c_45, c_52, eq_true c_58, eq_true c_108, c_115, eq_true c_124, c_131, decide_true, decide_false, Bool.and_true, Bool.true_and, Bool.and_false, Bool.false_and, Bool.or_true, Bool.true_or, Bool.or_false, Bool.false_or, Bool.not_true, Bool.not_false, if_true, if_false, ite_true, ite_false, Bool.false_eq_true, not_true_eq_false, not_false_eq_true, bI_t, bI_f, decide_eq_true_eq, reduceCtorEq]; done) | (simp [mBad, mFits, c_22, eq_true c_28, eq_true c_45, c_52, eq_true c_58, eq_true c_108, c_115, eq_true c_124, c_131]; done) | simp_all) _ _ (by first | (simp only [mW_succ, mNext, c_22, eq_true c_28, eq_true c_45, c_52, eq_true c_58, eq_true c_108, c_115, eq_true c_124, c_131, decide_true, decide_false, Bool.and_true, Bool.true_and, Bool.and_false, Bool.false_and, Bool.or_true, Bool.true_or, Bool.or_false, Bool.false_or, Bool.not_true, Bool.not_false, if_true, if_false, ite_true, ite_false, Bool.false_eq_true, not_true_eq_false, not_false_eq_true, bI_t, bI_f, decide_eq_true_eq, reduceCtorEq]; done) | (simp [mW_succ, mNext, c_22, eq_true c_28, eq_true c_45, c_52, eq_true c_58, eq_true c_108, c_115, eq_true c_124, c_131]; done) | simp_all) (nI_1 j)
                · refine zw_iconst (v := 1) X dX8_faultOf_118 ik_1 ?_
                  refine zw_goto (tgt := 139) X dX8_faultOf_119 (by decide) ?_
                  refine zw_istore_1 X dX8_faultOf_139 ?_
                  refine zw_iinc_2_p1 X dX8_faultOf_140 ?_
                  refine zw_goto (tgt := 4) X dX8_faultOf_143 (by decide) ?_
                  refine zw_fg_3 ?_
                  refine zw_fg_4 ?_
                  refine zw_fg_5 ?_
                  exact ih (by first | (simp only [mBad, mFits, c_22, eq_true c_28, eq_true c_45, c_52, eq_true c_58, eq_true c_108, c_115, decide_true, decide_false, Bool.and_true, Bool.true_and, Bool.and_false, Bool.false_and, Bool.or_true, Bool.true_or, Bool.or_false, Bool.false_or, Bool.not_true, Bool.not_false, if_true, if_false, ite_true, ite_false, Bool.false_eq_true, not_true_eq_false, not_false_eq_true, bI_t, bI_f, decide_eq_true_eq, reduceCtorEq]; done) | (simp [mBad, mFits, c_22, eq_true c_28, eq_true c_45, c_52, eq_true c_58, eq_true c_108, c_115]; done) | simp_all) _ _ (by first | (simp only [mW_succ, mNext, c_22, eq_true c_28, eq_true c_45, c_52, eq_true c_58, eq_true c_108, c_115, decide_true, decide_false, Bool.and_true, Bool.true_and, Bool.and_false, Bool.false_and, Bool.or_true, Bool.true_or, Bool.or_false, Bool.false_or, Bool.not_true, Bool.not_false, if_true, if_false, ite_true, ite_false, Bool.false_eq_true, not_true_eq_false, not_false_eq_true, bI_t, bI_f, decide_eq_true_eq, reduceCtorEq]; done) | (simp [mW_succ, mNext, c_22, eq_true c_28, eq_true c_45, c_52, eq_true c_58, eq_true c_108, c_115]; done) | simp_all) (nI_1 j)
      · refine zw_iload_3 X dX8_faultOf_31 ?_
        refine zw_bipush (v := 104) X dX8_faultOf_32 bk_104 ?_
        refine zw_icmpne (tgt := 41) X dX8_faultOf_34 (by decide) (fun c_34 => ?_) (fun c_34 => ?_)
        · refine zw_iconst (v := 0) X dX8_faultOf_41 ik_0 ?_
          refine zw_istore_4 X dX8_faultOf_42 ?_
          refine zw_iload_1 X dX8_faultOf_44 ?_
          refine zw_ifne (tgt := 69) X dX8_faultOf_45 (by decide) (fun c_45 => ?_) (fun c_45 => ?_)
          · refine zw_iload_1 X dX8_faultOf_69 ?_
            refine zw_iconst (v := 1) X dX8_faultOf_70 ik_1 ?_
            refine zw_icmpne (tgt := 94) X dX8_faultOf_71 (by decide) (fun c_71 => ?_) (fun c_71 => ?_)
            · refine zw_iload_3 X dX8_faultOf_94 ?_
              refine zw_cS_ii X dX8_faultOf_95 lk_X8_91 ok_MX8_isDigit st_MX8_isDigit rm_X8_faultOf_X8_isDigit (Nat.le_of_ble_eq_true rfl) t_X8_isDigit ?_
              refine zw_istore_5 X dX8_faultOf_98 ?_
              refine zw_iload_5 X dX8_faultOf_100 ?_
              refine zw_ifneB (tgt := 107) X dX8_faultOf_102 (by decide) (fun c_102 => ?_) (fun c_102 => ?_)
              · refine zw_iload_1 X dX8_faultOf_107 ?_
                refine zw_ifne (tgt := 122) X dX8_faultOf_108 (by decide) (fun c_108 => ?_) (fun c_108 => ?_)
                · refine zw_iload_1 X dX8_faultOf_122 ?_
                  refine zw_iconst (v := 1) X dX8_faultOf_123 ik_1 ?_
                  refine zw_icmpne (tgt := 138) X dX8_faultOf_124 (by decide) (fun c_124 => ?_) (fun c_124 => ?_)
                  · refine zw_iconst (v := 0) X dX8_faultOf_138 ik_0 ?_
                    refine zw_istore_1 X dX8_faultOf_139 ?_
                    refine zw_iinc_2_p1 X dX8_faultOf_140 ?_
                    refine zw_goto (tgt := 4) X dX8_faultOf_143 (by decide) ?_
                    refine zw_fg_3 ?_
                    refine zw_fg_4 ?_
                    refine zw_fg_5 ?_
                    exact ih (by first | (simp only [mBad, mFits, c_22, c_28, c_34, c_45, c_71, c_102, c_108, c_124, decide_true, decide_false, Bool.and_true, Bool.true_and, Bool.and_false, Bool.false_and, Bool.or_true, Bool.true_or, Bool.or_false, Bool.false_or, Bool.not_true, Bool.not_false, if_true, if_false, ite_true, ite_false, Bool.false_eq_true, not_true_eq_false, not_false_eq_true, bI_t, bI_f, decide_eq_true_eq, reduceCtorEq]; done) | (simp [mBad, mFits, c_22, c_28, c_34, c_45, c_71, c_102, c_108, c_124]; done) | simp_all) _ _ (by first | (simp only [mW_succ, mNext, c_22, c_28, c_34, c_45, c_71, c_102, c_108, c_124, decide_true, decide_false, Bool.and_true, Bool.true_and, Bool.and_false, Bool.false_and, Bool.or_true, Bool.true_or, Bool.or_false, Bool.false_or, Bool.not_true, Bool.not_false, if_true, if_false, ite_true, ite_false, Bool.false_eq_true, not_true_eq_false, not_false_eq_true, bI_t, bI_f, decide_eq_true_eq, reduceCtorEq]; done) | (simp [mW_succ, mNext, c_22, c_28, c_34, c_45, c_71, c_102, c_108, c_124]; done) | simp_all) (nI_1 j)
                  · refine zw_iload_3 X dX8_faultOf_127 ?_
                    refine zw_cS_ii X dX8_faultOf_128 lk_X8_91 ok_MX8_isDigit st_MX8_isDigit rm_X8_faultOf_X8_isDigit (Nat.le_of_ble_eq_true rfl) t_X8_isDigit ?_
                    refine zw_ifeqB (tgt := 138) X dX8_faultOf_131 (by decide) (fun c_131 => ?_) (fun c_131 => ?_)
                    · refine zw_iconst (v := 0) X dX8_faultOf_138 ik_0 ?_
                      refine zw_istore_1 X dX8_faultOf_139 ?_
                      refine zw_iinc_2_p1 X dX8_faultOf_140 ?_
                      refine zw_goto (tgt := 4) X dX8_faultOf_143 (by decide) ?_
                      refine zw_fg_3 ?_
                      refine zw_fg_4 ?_
                      refine zw_fg_5 ?_
                      exact ih (by first | (simp only [mBad, mFits, c_22, c_28, c_34, c_45, c_71, c_102, c_108, eq_true c_124, c_131, decide_true, decide_false, Bool.and_true, Bool.true_and, Bool.and_false, Bool.false_and, Bool.or_true, Bool.true_or, Bool.or_false, Bool.false_or, Bool.not_true, Bool.not_false, if_true, if_false, ite_true, ite_false, Bool.false_eq_true, not_true_eq_false, not_false_eq_true, bI_t, bI_f, decide_eq_true_eq, reduceCtorEq]; done) | (simp [mBad, mFits, c_22, c_28, c_34, c_45, c_71, c_102, c_108, eq_true c_124, c_131]; done) | simp_all) _ _ (by first | (simp only [mW_succ, mNext, c_22, c_28, c_34, c_45, c_71, c_102, c_108, eq_true c_124, c_131, decide_true, decide_false, Bool.and_true, Bool.true_and, Bool.and_false, Bool.false_and, Bool.or_true, Bool.true_or, Bool.or_false, Bool.false_or, Bool.not_true, Bool.not_false, if_true, if_false, ite_true, ite_false, Bool.false_eq_true, not_true_eq_false, not_false_eq_true, bI_t, bI_f, decide_eq_true_eq, reduceCtorEq]; done) | (simp [mW_succ, mNext, c_22, c_28, c_34, c_45, c_71, c_102, c_108, eq_true c_124, c_131]; done) | simp_all) (nI_1 j)
                    · refine zw_iconst (v := 2) X dX8_faultOf_134 ik_2 ?_
                      refine zw_goto (tgt := 139) X dX8_faultOf_135 (by decide) ?_
                      refine zw_istore_1 X dX8_faultOf_139 ?_
                      refine zw_iinc_2_p1 X dX8_faultOf_140 ?_
                      refine zw_goto (tgt := 4) X dX8_faultOf_143 (by decide) ?_
                      refine zw_fg_3 ?_
                      refine zw_fg_4 ?_
                      refine zw_fg_5 ?_
                      exact ih (by first | (simp only [mBad, mFits, c_22, c_28, c_34, c_45, c_71, c_102, c_108, eq_true c_124, c_131, decide_true, decide_false, Bool.and_true, Bool.true_and, Bool.and_false, Bool.false_and, Bool.or_true, Bool.true_or, Bool.or_false, Bool.false_or, Bool.not_true, Bool.not_false, if_true, if_false, ite_true, ite_false, Bool.false_eq_true, not_true_eq_false, not_false_eq_true, bI_t, bI_f, decide_eq_true_eq, reduceCtorEq]; done) | (simp [mBad, mFits, c_22, c_28, c_34, c_45, c_71, c_102, c_108, eq_true c_124, c_131]; done) | simp_all) _ _ (by first | (simp only [mW_succ, mNext, c_22, c_28, c_34, c_45, c_71, c_102, c_108, eq_true c_124, c_131, decide_true, decide_false, Bool.and_true, Bool.true_and, Bool.and_false, Bool.false_and, Bool.or_true, Bool.true_or, Bool.or_false, Bool.false_or, Bool.not_true, Bool.not_false, if_true, if_false, ite_true, ite_false, Bool.false_eq_true, not_true_eq_false, not_false_eq_true, bI_t, bI_f, decide_eq_true_eq, reduceCtorEq]; done) | (simp [mW_succ, mNext, c_22, c_28, c_34, c_45, c_71, c_102, c_108, eq_true c_124, c_131]; done) | simp_all) (nI_1 j)
                · refine zw_iload_3 X dX8_faultOf_111 ?_
                  refine zw_cS_ii X dX8_faultOf_112 lk_X8_88 ok_MX8_isLetter st_MX8_isLetter rm_X8_faultOf_X8_isLetter (Nat.le_of_ble_eq_true rfl) t_X8_isLetter ?_
                  refine zw_ifeqB (tgt := 122) X dX8_faultOf_115 (by decide) (fun c_115 => ?_) (fun c_115 => ?_)
                  · refine zw_iload_1 X dX8_faultOf_122 ?_
                    refine zw_iconst (v := 1) X dX8_faultOf_123 ik_1 ?_
                    refine zw_icmpne (tgt := 138) X dX8_faultOf_124 (by decide) (fun c_124 => ?_) (fun c_124 => ?_)
                    · refine zw_iconst (v := 0) X dX8_faultOf_138 ik_0 ?_
                      refine zw_istore_1 X dX8_faultOf_139 ?_
                      refine zw_iinc_2_p1 X dX8_faultOf_140 ?_
                      refine zw_goto (tgt := 4) X dX8_faultOf_143 (by decide) ?_
                      refine zw_fg_3 ?_
                      refine zw_fg_4 ?_
                      refine zw_fg_5 ?_
                      exact ih (by first | (simp only [mBad, mFits, c_22, c_28, c_34, c_45, c_71, c_102, eq_true c_108, c_115, c_124, decide_true, decide_false, Bool.and_true, Bool.true_and, Bool.and_false, Bool.false_and, Bool.or_true, Bool.true_or, Bool.or_false, Bool.false_or, Bool.not_true, Bool.not_false, if_true, if_false, ite_true, ite_false, Bool.false_eq_true, not_true_eq_false, not_false_eq_true, bI_t, bI_f, decide_eq_true_eq, reduceCtorEq]; done) | (simp [mBad, mFits, c_22, c_28, c_34, c_45, c_71, c_102, eq_true c_108, c_115, c_124]; done) | simp_all) _ _ (by first | (simp only [mW_succ, mNext, c_22, c_28, c_34, c_45, c_71, c_102, eq_true c_108, c_115, c_124, decide_true, decide_false, Bool.and_true, Bool.true_and, Bool.and_false, Bool.false_and, Bool.or_true, Bool.true_or, Bool.or_false, Bool.false_or, Bool.not_true, Bool.not_false, if_true, if_false, ite_true, ite_false, Bool.false_eq_true, not_true_eq_false, not_false_eq_true, bI_t, bI_f, decide_eq_true_eq, reduceCtorEq]; done) | (simp [mW_succ, mNext, c_22, c_28, c_34, c_45, c_71, c_102, eq_true c_108, c_115, c_124]; done) | simp_all) (nI_1 j)
                    · refine zw_iload_3 X dX8_faultOf_127 ?_
                      refine zw_cS_ii X dX8_faultOf_128 lk_X8_91 ok_MX8_isDigit st_MX8_isDigit rm_X8_faultOf_X8_isDigit (Nat.le_of_ble_eq_true rfl) t_X8_isDigit ?_
                      refine zw_ifeqB (tgt := 138) X dX8_faultOf_131 (by decide) (fun c_131 => ?_) (fun c_131 => ?_)
                      · refine zw_iconst (v := 0) X dX8_faultOf_138 ik_0 ?_
                        refine zw_istore_1 X dX8_faultOf_139 ?_
                        refine zw_iinc_2_p1 X dX8_faultOf_140 ?_
                        refine zw_goto (tgt := 4) X dX8_faultOf_143 (by decide) ?_
                        refine zw_fg_3 ?_
                        refine zw_fg_4 ?_
                        refine zw_fg_5 ?_
                        exact ih (by first | (simp only [mBad, mFits, c_22, c_28, c_34, c_45, c_71, c_102, eq_true c_108, c_115, eq_true c_124, c_131, decide_true, decide_false, Bool.and_true, Bool.true_and, Bool.and_false, Bool.false_and, Bool.or_true, Bool.true_or, Bool.or_false, Bool.false_or, Bool.not_true, Bool.not_false, if_true, if_false, ite_true, ite_false, Bool.false_eq_true, not_true_eq_false, not_false_eq_true, bI_t, bI_f, decide_eq_true_eq, reduceCtorEq]; done) | (simp [mBad, mFits, c_22, c_28, c_34, c_45, c_71, c_102, eq_true c_108, c_115, eq_true c_124, c_131]; done) | simp_all) _ _ (by first | (simp only [mW_succ, mNext, c_22, c_28, c_34, c_45, c_71, c_102, eq_true c_108, c_115, eq_true c_124, c_131, decide_true, decide_false, Bool.and_true, Bool.true_and, Bool.and_false, Bool.false_and, Bool.or_true, Bool.true_or, Bool.or_false, Bool.false_or, Bool.not_true, Bool.not_false, if_true, if_false, ite_true, ite_false, Bool.false_eq_true, not_true_eq_false, not_false_eq_true, bI_t, bI_f, decide_eq_true_eq, reduceCtorEq]; done) | (simp [mW_succ, mNext, c_22, c_28, c_34, c_45, c_71, c_102, eq_true c_108, c_115, eq_true c_124, c_131]; done) | simp_all) (nI_1 j)
                      · refine zw_iconst (v := 2) X dX8_faultOf_134 ik_2 ?_
                        refine zw_goto (tgt := 139) X dX8_faultOf_135 (by decide) ?_
                        refine zw_istore_1 X dX8_faultOf_139 ?_
                        refine zw_iinc_2_p1 X dX8_faultOf_140 ?_
                        refine zw_goto (tgt := 4) X dX8_faultOf_143 (by decide) ?_
                        refine zw_fg_3 ?_
                        refine zw_fg_4 ?_
                        refine zw_fg_5 ?_
                        exact ih (by first | (simp only [mBad, mFits, c_22, c_28, c_34, c_45, c_71, c_102, eq_true c_108, c_115, eq_true c_124, c_131, decide_true, decide_false, Bool.and_true, Bool.true_and, Bool.and_false, Bool.false_and, Bool.or_true, Bool.true_or, Bool.or_false, Bool.false_or, Bool.not_true, Bool.not_false, if_true, if_false, ite_true, ite_false, Bool.false_eq_true, not_true_eq_false, not_false_eq_true, bI_t, bI_f, decide_eq_true_eq, reduceCtorEq]; done) | (simp [mBad, mFits, c_22, c_28, c_34, c_45, c_71, c_102, eq_true c_108, c_115, eq_true c_124, c_131]; done) | simp_all) _ _ (by first | (simp only [mW_succ, mNext, c_22, c_28, c_34, c_45, c_71, c_102, eq_true c_108, c_115, eq_true c_124, c_131, decide_true, decide_false, Bool.and_true, Bool.true_and, Bool.and_false, Bool.false_and, Bool.or_true, Bool.true_or, Bool.or_false, Bool.false_or, Bool.not_true, Bool.not_false, if_true, if_false, ite_true, ite_false, Bool.false_eq_true, not_true_eq_false, not_false_eq_true, bI_t, bI_f, decide_eq_true_eq, reduceCtorEq]; done) | (simp [mW_succ, mNext, c_22, c_28, c_34, c_45, c_71, c_102, eq_true c_108, c_115, eq_true c_124, c_131]; done) | simp_all) (nI_1 j)
                  · refine zw_iconst (v := 1) X dX8_faultOf_118 ik_1 ?_
                    refine zw_goto (tgt := 139) X dX8_faultOf_119 (by decide) ?_
                    refine zw_istore_1 X dX8_faultOf_139 ?_
                    refine zw_iinc_2_p1 X dX8_faultOf_140 ?_
                    refine zw_goto (tgt := 4) X dX8_faultOf_143 (by decide) ?_
                    refine zw_fg_3 ?_
                    refine zw_fg_4 ?_
                    refine zw_fg_5 ?_
                    exact ih (by first | (simp only [mBad, mFits, c_22, c_28, c_34, c_45, c_71, c_102, eq_true c_108, c_115, decide_true, decide_false, Bool.and_true, Bool.true_and, Bool.and_false, Bool.false_and, Bool.or_true, Bool.true_or, Bool.or_false, Bool.false_or, Bool.not_true, Bool.not_false, if_true, if_false, ite_true, ite_false, Bool.false_eq_true, not_true_eq_false, not_false_eq_true, bI_t, bI_f, decide_eq_true_eq, reduceCtorEq]; done) | (simp [mBad, mFits, c_22, c_28, c_34, c_45, c_71, c_102, eq_true c_108, c_115]; done) | simp_all) _ _ (by first | (simp only [mW_succ, mNext, c_22, c_28, c_34, c_45, c_71, c_102, eq_true c_108, c_115, decide_true, decide_false, Bool.and_true, Bool.true_and, Bool.and_false, Bool.false_and, Bool.or_true, Bool.true_or, Bool.or_false, Bool.false_or, Bool.not_true, Bool.not_false, if_true, if_false, ite_true, ite_false, Bool.false_eq_true, not_true_eq_false, not_false_eq_true, bI_t, bI_f, decide_eq_true_eq, reduceCtorEq]; done) | (simp [mW_succ, mNext, c_22, c_28, c_34, c_45, c_71, c_102, eq_true c_108, c_115]; done) | simp_all) (nI_1 j)
              · refine zw_iload_2 X dX8_faultOf_105 ?_
                exact zw_iret X F dX8_faultOf_106 rfl (by rw [mFault, fstB_at (P := mBad (σ 49)) (by first | (simp only [mBad, mFits, c_22, c_28, c_34, c_45, c_71, c_102, decide_true, decide_false, Bool.and_true, Bool.true_and, Bool.and_false, Bool.false_and, Bool.or_true, Bool.true_or, Bool.or_false, Bool.false_or, Bool.not_true, Bool.not_false, if_true, if_false, ite_true, ite_false, Bool.false_eq_true, not_true_eq_false, not_false_eq_true, bI_t, bI_f, decide_eq_true_eq, reduceCtorEq]; done) | (simp [mBad, mFits, c_22, c_28, c_34, c_45, c_71, c_102]; done) | simp_all) hb hj, if_pos hj]) (rfl)
            · refine zw_iload_4 X dX8_faultOf_74 ?_
              refine zw_ifne_f (tgt := 86) X dX8_faultOf_76 (by decide) (by decide) ?_
              refine zw_iload_3 X dX8_faultOf_79 ?_
              refine zw_cS_ii X dX8_faultOf_80 lk_X8_91 ok_MX8_isDigit st_MX8_isDigit rm_X8_faultOf_X8_isDigit (Nat.le_of_ble_eq_true rfl) t_X8_isDigit ?_
              refine zw_ifeqB (tgt := 90) X dX8_faultOf_83 (by decide) (fun c_83 => ?_) (fun c_83 => ?_)
              · refine zw_iconst (v := 0) X dX8_faultOf_90 ik_0 ?_
                refine zw_goto (tgt := 98) X dX8_faultOf_91 (by decide) ?_
                refine zw_istore_5 X dX8_faultOf_98 ?_
                refine zw_iload_5 X dX8_faultOf_100 ?_
                refine zw_ifne_f (tgt := 107) X dX8_faultOf_102 (by decide) (by decide) ?_
                refine zw_iload_2 X dX8_faultOf_105 ?_
                exact zw_iret X F dX8_faultOf_106 rfl (by rw [mFault, fstB_at (P := mBad (σ 49)) (by first | (simp only [mBad, mFits, c_22, c_28, c_34, c_45, eq_true c_71, c_83, decide_true, decide_false, Bool.and_true, Bool.true_and, Bool.and_false, Bool.false_and, Bool.or_true, Bool.true_or, Bool.or_false, Bool.false_or, Bool.not_true, Bool.not_false, if_true, if_false, ite_true, ite_false, Bool.false_eq_true, not_true_eq_false, not_false_eq_true, bI_t, bI_f, decide_eq_true_eq, reduceCtorEq]; done) | (simp [mBad, mFits, c_22, c_28, c_34, c_45, eq_true c_71, c_83]; done) | simp_all) hb hj, if_pos hj]) (rfl)
              · refine zw_iconst (v := 1) X dX8_faultOf_86 ik_1 ?_
                refine zw_goto (tgt := 98) X dX8_faultOf_87 (by decide) ?_
                refine zw_istore_5 X dX8_faultOf_98 ?_
                refine zw_iload_5 X dX8_faultOf_100 ?_
                refine zw_ifne_t (tgt := 107) X dX8_faultOf_102 (by decide) (by decide) ?_
                refine zw_iload_1 X dX8_faultOf_107 ?_
                refine zw_ifne (tgt := 122) X dX8_faultOf_108 (by decide) (fun c_108 => ?_) (fun c_108 => ?_)
                · refine zw_iload_1 X dX8_faultOf_122 ?_
                  refine zw_iconst (v := 1) X dX8_faultOf_123 ik_1 ?_
                  refine zw_icmpne (tgt := 138) X dX8_faultOf_124 (by decide) (fun c_124 => ?_) (fun c_124 => ?_)
                  · refine zw_iconst (v := 0) X dX8_faultOf_138 ik_0 ?_
                    refine zw_istore_1 X dX8_faultOf_139 ?_
                    refine zw_iinc_2_p1 X dX8_faultOf_140 ?_
                    refine zw_goto (tgt := 4) X dX8_faultOf_143 (by decide) ?_
                    refine zw_fg_3 ?_
                    refine zw_fg_4 ?_
                    refine zw_fg_5 ?_
                    exact ih (by first | (simp only [mBad, mFits, c_22, c_28, c_34, c_45, eq_true c_71, c_83, c_108, c_124, decide_true, decide_false, Bool.and_true, Bool.true_and, Bool.and_false, Bool.false_and, Bool.or_true, Bool.true_or, Bool.or_false, Bool.false_or, Bool.not_true, Bool.not_false, if_true, if_false, ite_true, ite_false, Bool.false_eq_true, not_true_eq_false, not_false_eq_true, bI_t, bI_f, decide_eq_true_eq, reduceCtorEq]; done) | (simp [mBad, mFits, c_22, c_28, c_34, c_45, eq_true c_71, c_83, c_108, c_124]; done) | simp_all) _ _ (by first | (simp only [mW_succ, mNext, c_22, c_28, c_34, c_45, eq_true c_71, c_83, c_108, c_124, decide_true, decide_false, Bool.and_true, Bool.true_and, Bool.and_false, Bool.false_and, Bool.or_true, Bool.true_or, Bool.or_false, Bool.false_or, Bool.not_true, Bool.not_false, if_true, if_false, ite_true, ite_false, Bool.false_eq_true, not_true_eq_false, not_false_eq_true, bI_t, bI_f, decide_eq_true_eq, reduceCtorEq]; done) | (simp [mW_succ, mNext, c_22, c_28, c_34, c_45, eq_true c_71, c_83, c_108, c_124]; done) | simp_all) (nI_1 j)
                  · refine zw_iload_3 X dX8_faultOf_127 ?_
                    refine zw_cS_ii X dX8_faultOf_128 lk_X8_91 ok_MX8_isDigit st_MX8_isDigit rm_X8_faultOf_X8_isDigit (Nat.le_of_ble_eq_true rfl) t_X8_isDigit ?_
                    refine zw_ifeqB (tgt := 138) X dX8_faultOf_131 (by decide) (fun c_131 => ?_) (fun c_131 => ?_)
                    · refine zw_iconst (v := 0) X dX8_faultOf_138 ik_0 ?_
                      refine zw_istore_1 X dX8_faultOf_139 ?_
                      refine zw_iinc_2_p1 X dX8_faultOf_140 ?_
                      refine zw_goto (tgt := 4) X dX8_faultOf_143 (by decide) ?_
                      refine zw_fg_3 ?_
                      refine zw_fg_4 ?_
                      refine zw_fg_5 ?_
                      exact ih (by first | (simp only [mBad, mFits, c_22, c_28, c_34, c_45, eq_true c_71, c_83, c_108, eq_true c_124, c_131, decide_true, decide_false, Bool.and_true, Bool.true_and, Bool.and_false, Bool.false_and, Bool.or_true, Bool.true_or, Bool.or_false, Bool.false_or, Bool.not_true, Bool.not_false, if_true, if_false, ite_true, ite_false, Bool.false_eq_true, not_true_eq_false, not_false_eq_true, bI_t, bI_f, decide_eq_true_eq, reduceCtorEq]; done) | (simp [mBad, mFits, c_22, c_28, c_34, c_45, eq_true c_71, c_83, c_108, eq_true c_124, c_131]; done) | simp_all) _ _ (by first | (simp only [mW_succ, mNext, c_22, c_28, c_34, c_45, eq_true c_71, c_83, c_108, eq_true c_124, c_131, decide_true, decide_false, Bool.and_true, Bool.true_and, Bool.and_false, Bool.false_and, Bool.or_true, Bool.true_or, Bool.or_false, Bool.false_or, Bool.not_true, Bool.not_false, if_true, if_false, ite_true, ite_false, Bool.false_eq_true, not_true_eq_false, not_false_eq_true, bI_t, bI_f, decide_eq_true_eq, reduceCtorEq]; done) | (simp [mW_succ, mNext, c_22, c_28, c_34, c_45, eq_true c_71, c_83, c_108, eq_true c_124, c_131]; done) | simp_all) (nI_1 j)
                    · refine zw_iconst (v := 2) X dX8_faultOf_134 ik_2 ?_
                      refine zw_goto (tgt := 139) X dX8_faultOf_135 (by decide) ?_
                      refine zw_istore_1 X dX8_faultOf_139 ?_
                      refine zw_iinc_2_p1 X dX8_faultOf_140 ?_
                      refine zw_goto (tgt := 4) X dX8_faultOf_143 (by decide) ?_
                      refine zw_fg_3 ?_
                      refine zw_fg_4 ?_
                      refine zw_fg_5 ?_
                      exact ih (by first | (simp only [mBad, mFits, c_22, c_28, c_34, c_45, eq_true c_71, c_83, c_108, eq_true c_124, c_131, decide_true, decide_false, Bool.and_true, Bool.true_and, Bool.and_false, Bool.false_and, Bool.or_true, Bool.true_or, Bool.or_false, Bool.false_or, Bool.not_true, Bool.not_false, if_true, if_false, ite_true, ite_false, Bool.false_eq_true, not_true_eq_false, not_false_eq_true, bI_t, bI_f, decide_eq_true_eq, reduceCtorEq]; done) | (simp [mBad, mFits, c_22, c_28, c_34, c_45, eq_true c_71, c_83, c_108, eq_true c_124, c_131]; done) | simp_all) _ _ (by first | (simp only [mW_succ, mNext, c_22, c_28, c_34, c_45, eq_true c_71, c_83, c_108, eq_true c_124, c_131, decide_true, decide_false, Bool.and_true, Bool.true_and, Bool.and_false, Bool.false_and, Bool.or_true, Bool.true_or, Bool.or_false, Bool.false_or, Bool.not_true, Bool.not_false, if_true, if_false, ite_true, ite_false, Bool.false_eq_true, not_true_eq_false, not_false_eq_true, bI_t, bI_f, decide_eq_true_eq, reduceCtorEq]; done) | (simp [mW_succ, mNext, c_22, c_28, c_34, c_45, eq_true c_71, c_83, c_108, eq_true c_124, c_131]; done) | simp_all) (nI_1 j)
                · refine zw_iload_3 X dX8_faultOf_111 ?_
                  refine zw_cS_ii X dX8_faultOf_112 lk_X8_88 ok_MX8_isLetter st_MX8_isLetter rm_X8_faultOf_X8_isLetter (Nat.le_of_ble_eq_true rfl) t_X8_isLetter ?_
                  refine zw_ifeqB (tgt := 122) X dX8_faultOf_115 (by decide) (fun c_115 => ?_) (fun c_115 => ?_)
                  · refine zw_iload_1 X dX8_faultOf_122 ?_
                    refine zw_iconst (v := 1) X dX8_faultOf_123 ik_1 ?_
                    refine zw_icmpne (tgt := 138) X dX8_faultOf_124 (by decide) (fun c_124 => ?_) (fun c_124 => ?_)
                    · refine zw_iconst (v := 0) X dX8_faultOf_138 ik_0 ?_
                      refine zw_istore_1 X dX8_faultOf_139 ?_
                      refine zw_iinc_2_p1 X dX8_faultOf_140 ?_
                      refine zw_goto (tgt := 4) X dX8_faultOf_143 (by decide) ?_
                      refine zw_fg_3 ?_
                      refine zw_fg_4 ?_
                      refine zw_fg_5 ?_
                      exact ih (by first | (simp only [mBad, mFits, c_22, c_28, c_34, c_45, eq_true c_71, c_83, eq_true c_108, c_115, c_124, decide_true, decide_false, Bool.and_true, Bool.true_and, Bool.and_false, Bool.false_and, Bool.or_true, Bool.true_or, Bool.or_false, Bool.false_or, Bool.not_true, Bool.not_false, if_true, if_false, ite_true, ite_false, Bool.false_eq_true, not_true_eq_false, not_false_eq_true, bI_t, bI_f, decide_eq_true_eq, reduceCtorEq]; done) | (simp [mBad, mFits, c_22, c_28, c_34, c_45, eq_true c_71, c_83, eq_true c_108, c_115, c_124]; done) | simp_all) _ _ (by first | (simp only [mW_succ, mNext, c_22, c_28, c_34, c_45, eq_true c_71, c_83, eq_true c_108, c_115, c_124, decide_true, decide_false, Bool.and_true, Bool.true_and, Bool.and_false, Bool.false_and, Bool.or_true, Bool.true_or, Bool.or_false, Bool.false_or, Bool.not_true, Bool.not_false, if_true, if_false, ite_true, ite_false, Bool.false_eq_true, not_true_eq_false, not_false_eq_true, bI_t, bI_f, decide_eq_true_eq, reduceCtorEq]; done) | (simp [mW_succ, mNext, c_22, c_28, c_34, c_45, eq_true c_71, c_83, eq_true c_108, c_115, c_124]; done) | simp_all) (nI_1 j)
                    · refine zw_iload_3 X dX8_faultOf_127 ?_
                      refine zw_cS_ii X dX8_faultOf_128 lk_X8_91 ok_MX8_isDigit st_MX8_isDigit rm_X8_faultOf_X8_isDigit (Nat.le_of_ble_eq_true rfl) t_X8_isDigit ?_
                      refine zw_ifeqB (tgt := 138) X dX8_faultOf_131 (by decide) (fun c_131 => ?_) (fun c_131 => ?_)
                      · refine zw_iconst (v := 0) X dX8_faultOf_138 ik_0 ?_
                        refine zw_istore_1 X dX8_faultOf_139 ?_
                        refine zw_iinc_2_p1 X dX8_faultOf_140 ?_
                        refine zw_goto (tgt := 4) X dX8_faultOf_143 (by decide) ?_
                        refine zw_fg_3 ?_
                        refine zw_fg_4 ?_
                        refine zw_fg_5 ?_
                        exact ih (by first | (simp only [mBad, mFits, c_22, c_28, c_34, c_45, eq_true c_71, c_83, eq_true c_108, c_115, eq_true c_124, c_131, decide_true, decide_false, Bool.and_true, Bool.true_and, Bool.and_false, Bool.false_and, Bool.or_true, Bool.true_or, Bool.or_false, Bool.false_or, Bool.not_true, Bool.not_false, if_true, if_false, ite_true, ite_false, Bool.false_eq_true, not_true_eq_false, not_false_eq_true, bI_t, bI_f, decide_eq_true_eq, reduceCtorEq]; done) | (simp [mBad, mFits, c_22, c_28, c_34, c_45, eq_true c_71, c_83, eq_true c_108, c_115, eq_true c_124, c_131]; done) | simp_all) _ _ (by first | (simp only [mW_succ, mNext, c_22, c_28, c_34, c_45, eq_true c_71, c_83, eq_true c_108, c_115, eq_true c_124, c_131, decide_true, decide_false, Bool.and_true, Bool.true_and, Bool.and_false, Bool.false_and, Bool.or_true, Bool.true_or, Bool.or_false, Bool.false_or, Bool.not_true, Bool.not_false, if_true, if_false, ite_true, ite_false, Bool.false_eq_true, not_true_eq_false, not_false_eq_true, bI_t, bI_f, decide_eq_true_eq, reduceCtorEq]; done) | (simp [mW_succ, mNext, c_22, c_28, c_34, c_45, eq_true c_71, c_83, eq_true c_108, c_115, eq_true c_124, c_131]; done) | simp_all) (nI_1 j)
                      · refine zw_iconst (v := 2) X dX8_faultOf_134 ik_2 ?_
                        refine zw_goto (tgt := 139) X dX8_faultOf_135 (by decide) ?_
                        refine zw_istore_1 X dX8_faultOf_139 ?_
                        refine zw_iinc_2_p1 X dX8_faultOf_140 ?_
                        refine zw_goto (tgt := 4) X dX8_faultOf_143 (by decide) ?_
                        refine zw_fg_3 ?_
                        refine zw_fg_4 ?_
                        refine zw_fg_5 ?_
                        exact ih (by first | (simp only [mBad, mFits, c_22, c_28, c_34, c_45, eq_true c_71, c_83, eq_true c_108, c_115, eq_true c_124, c_131, decide_true, decide_false, Bool.and_true, Bool.true_and, Bool.and_false, Bool.false_and, Bool.or_true, Bool.true_or, Bool.or_false, Bool.false_or, Bool.not_true, Bool.not_false, if_true, if_false, ite_true, ite_false, Bool.false_eq_true, not_true_eq_false, not_false_eq_true, bI_t, bI_f, decide_eq_true_eq, reduceCtorEq]; done) | (simp [mBad, mFits, c_22, c_28, c_34, c_45, eq_true c_71, c_83, eq_true c_108, c_115, eq_true c_124, c_131]; done) | simp_all) _ _ (by first | (simp only [mW_succ, mNext, c_22, c_28, c_34, c_45, eq_true c_71, c_83, eq_true c_108, c_115, eq_true c_124, c_131, decide_true, decide_false, Bool.and_true, Bool.true_and, Bool.and_false, Bool.false_and, Bool.or_true, Bool.true_or, Bool.or_false, Bool.false_or, Bool.not_true, Bool.not_false, if_true, if_false, ite_true, ite_false, Bool.false_eq_true, not_true_eq_false, not_false_eq_true, bI_t, bI_f, decide_eq_true_eq, reduceCtorEq]; done) | (simp [mW_succ, mNext, c_22, c_28, c_34, c_45, eq_true c_71, c_83, eq_true c_108, c_115, eq_true c_124, c_131]; done) | simp_all) (nI_1 j)
                  · refine zw_iconst (v := 1) X dX8_faultOf_118 ik_1 ?_
                    refine zw_goto (tgt := 139) X dX8_faultOf_119 (by decide) ?_
                    refine zw_istore_1 X dX8_faultOf_139 ?_
                    refine zw_iinc_2_p1 X dX8_faultOf_140 ?_
                    refine zw_goto (tgt := 4) X dX8_faultOf_143 (by decide) ?_
                    refine zw_fg_3 ?_
                    refine zw_fg_4 ?_
                    refine zw_fg_5 ?_
                    exact ih (by first | (simp only [mBad, mFits, c_22, c_28, c_34, c_45, eq_true c_71, c_83, eq_true c_108, c_115, decide_true, decide_false, Bool.and_true, Bool.true_and, Bool.and_false, Bool.false_and, Bool.or_true, Bool.true_or, Bool.or_false, Bool.false_or, Bool.not_true, Bool.not_false, if_true, if_false, ite_true, ite_false, Bool.false_eq_true, not_true_eq_false, not_false_eq_true, bI_t, bI_f, decide_eq_true_eq, reduceCtorEq]; done) | (simp [mBad, mFits, c_22, c_28, c_34, c_45, eq_true c_71, c_83, eq_true c_108, c_115]; done) | simp_all) _ _ (by first | (simp only [mW_succ, mNext, c_22, c_28, c_34, c_45, eq_true c_71, c_83, eq_true c_108, c_115, decide_true, decide_false, Bool.and_true, Bool.true_and, Bool.and_false, Bool.false_and, Bool.or_true, Bool.true_or, Bool.or_false, Bool.false_or, Bool.not_true, Bool.not_false, if_true, if_false, ite_true, ite_false, Bool.false_eq_true, not_true_eq_false, not_false_eq_true, bI_t, bI_f, decide_eq_true_eq, reduceCtorEq]; done) | (simp [mW_succ, mNext, c_22, c_28, c_34, c_45, eq_true c_71, c_83, eq_true c_108, c_115]; done) | simp_all) (nI_1 j)
          · refine zw_iload_3 X dX8_faultOf_48 ?_
            refine zw_cS_ii X dX8_faultOf_49 lk_X8_88 ok_MX8_isLetter st_MX8_isLetter rm_X8_faultOf_X8_isLetter (Nat.le_of_ble_eq_true rfl) t_X8_isLetter ?_
            refine zw_ifneB (tgt := 61) X dX8_faultOf_52 (by decide) (fun c_52 => ?_) (fun c_52 => ?_)
            · refine zw_iconst (v := 1) X dX8_faultOf_61 ik_1 ?_
              refine zw_goto (tgt := 98) X dX8_faultOf_62 (by decide) ?_
              refine zw_istore_5 X dX8_faultOf_98 ?_
              refine zw_iload_5 X dX8_faultOf_100 ?_
              refine zw_ifne_t (tgt := 107) X dX8_faultOf_102 (by decide) (by decide) ?_
              refine zw_iload_1 X dX8_faultOf_107 ?_
              refine zw_ifne (tgt := 122) X dX8_faultOf_108 (by decide) (fun c_108 => ?_) (fun c_108 => ?_)
              · refine zw_iload_1 X dX8_faultOf_122 ?_
                refine zw_iconst (v := 1) X dX8_faultOf_123 ik_1 ?_
                refine zw_icmpne (tgt := 138) X dX8_faultOf_124 (by decide) (fun c_124 => ?_) (fun c_124 => ?_)
                · refine zw_iconst (v := 0) X dX8_faultOf_138 ik_0 ?_
                  refine zw_istore_1 X dX8_faultOf_139 ?_
                  refine zw_iinc_2_p1 X dX8_faultOf_140 ?_
                  refine zw_goto (tgt := 4) X dX8_faultOf_143 (by decide) ?_
                  refine zw_fg_3 ?_
                  refine zw_fg_4 ?_
                  refine zw_fg_5 ?_
                  exact ih (by first | (simp only [mBad, mFits, c_22, c_28, c_34, eq_true c_45, c_52, c_108, c_124, decide_true, decide_false, Bool.and_true, Bool.true_and, Bool.and_false, Bool.false_and, Bool.or_true, Bool.true_or, Bool.or_false, Bool.false_or, Bool.not_true, Bool.not_false, if_true, if_false, ite_true, ite_false, Bool.false_eq_true, not_true_eq_false, not_false_eq_true, bI_t, bI_f, decide_eq_true_eq, reduceCtorEq]; done) | (simp [mBad, mFits, c_22, c_28, c_34, eq_true c_45, c_52, c_108, c_124]; done) | simp_all) _ _ (by first | (simp only [mW_succ, mNext, c_22, c_28, c_34, eq_true c_45, c_52, c_108, c_124, decide_true, decide_false, Bool.and_true, Bool.true_and, Bool.and_false, Bool.false_and, Bool.or_true, Bool.true_or, Bool.or_false, Bool.false_or, Bool.not_true, Bool.not_false, if_true, if_false, ite_true, ite_false, Bool.false_eq_true, not_true_eq_false, not_false_eq_true, bI_t, bI_f, decide_eq_true_eq, reduceCtorEq]; done) | (simp [mW_succ, mNext, c_22, c_28, c_34, eq_true c_45, c_52, c_108, c_124]; done) | simp_all) (nI_1 j)
                · refine zw_iload_3 X dX8_faultOf_127 ?_
                  refine zw_cS_ii X dX8_faultOf_128 lk_X8_91 ok_MX8_isDigit st_MX8_isDigit rm_X8_faultOf_X8_isDigit (Nat.le_of_ble_eq_true rfl) t_X8_isDigit ?_
                  refine zw_ifeqB (tgt := 138) X dX8_faultOf_131 (by decide) (fun c_131 => ?_) (fun c_131 => ?_)
                  · refine zw_iconst (v := 0) X dX8_faultOf_138 ik_0 ?_
                    refine zw_istore_1 X dX8_faultOf_139 ?_
                    refine zw_iinc_2_p1 X dX8_faultOf_140 ?_
                    refine zw_goto (tgt := 4) X dX8_faultOf_143 (by decide) ?_
                    refine zw_fg_3 ?_
                    refine zw_fg_4 ?_
                    refine zw_fg_5 ?_
                    exact ih (by first | (simp only [mBad, mFits, c_22, c_28, c_34, eq_true c_45, c_52, c_108, eq_true c_124, c_131, decide_true, decide_false, Bool.and_true, Bool.true_and, Bool.and_false, Bool.false_and, Bool.or_true, Bool.true_or, Bool.or_false, Bool.false_or, Bool.not_true, Bool.not_false, if_true, if_false, ite_true, ite_false, Bool.false_eq_true, not_true_eq_false, not_false_eq_true, bI_t, bI_f, decide_eq_true_eq, reduceCtorEq]; done) | (simp [mBad, mFits, c_22, c_28, c_34, eq_true c_45, c_52, c_108, eq_true c_124, c_131]; done) | simp_all) _ _ (by first | (simp only [mW_succ, mNext, c_22, c_28, c_34, eq_true c_45, c_52, c_108, eq_true c_124, c_131, decide_true, decide_false, Bool.and_true, Bool.true_and, Bool.and_false, Bool.false_and, Bool.or_true, Bool.true_or, Bool.or_false, Bool.false_or, Bool.not_true, Bool.not_false, if_true, if_false, ite_true, ite_false, Bool.false_eq_true, not_true_eq_false, not_false_eq_true, bI_t, bI_f, decide_eq_true_eq, reduceCtorEq]; done) | (simp [mW_succ, mNext, c_22, c_28, c_34, eq_true c_45, c_52, c_108, eq_true c_124, c_131]; done) | simp_all) (nI_1 j)
                  · refine zw_iconst (v := 2) X dX8_faultOf_134 ik_2 ?_
                    refine zw_goto (tgt := 139) X dX8_faultOf_135 (by decide) ?_
                    refine zw_istore_1 X dX8_faultOf_139 ?_
                    refine zw_iinc_2_p1 X dX8_faultOf_140 ?_
                    refine zw_goto (tgt := 4) X dX8_faultOf_143 (by decide) ?_
                    refine zw_fg_3 ?_
                    refine zw_fg_4 ?_
                    refine zw_fg_5 ?_
                    exact ih (by first | (simp only [mBad, mFits, c_22, c_28, c_34, eq_true c_45, c_52, c_108, eq_true c_124, c_131, decide_true, decide_false, Bool.and_true, Bool.true_and, Bool.and_false, Bool.false_and, Bool.or_true, Bool.true_or, Bool.or_false, Bool.false_or, Bool.not_true, Bool.not_false, if_true, if_false, ite_true, ite_false, Bool.false_eq_true, not_true_eq_false, not_false_eq_true, bI_t, bI_f, decide_eq_true_eq, reduceCtorEq]; done) | (simp [mBad, mFits, c_22, c_28, c_34, eq_true c_45, c_52, c_108, eq_true c_124, c_131]; done) | simp_all) _ _ (by first | (simp only [mW_succ, mNext, c_22, c_28, c_34, eq_true c_45, c_52, c_108, eq_true c_124, c_131, decide_true, decide_false, Bool.and_true, Bool.true_and, Bool.and_false, Bool.false_and, Bool.or_true, Bool.true_or, Bool.or_false, Bool.false_or, Bool.not_true, Bool.not_false, if_true, if_false, ite_true, ite_false, Bool.false_eq_true, not_true_eq_false, not_false_eq_true, bI_t, bI_f, decide_eq_true_eq, reduceCtorEq]; done) | (simp [mW_succ, mNext, c_22, c_28, c_34, eq_true c_45, c_52, c_108, eq_true c_124, c_131]; done) | simp_all) (nI_1 j)
              · refine zw_iload_3 X dX8_faultOf_111 ?_
                refine zw_cS_ii X dX8_faultOf_112 lk_X8_88 ok_MX8_isLetter st_MX8_isLetter rm_X8_faultOf_X8_isLetter (Nat.le_of_ble_eq_true rfl) t_X8_isLetter ?_
                refine zw_ifeqB (tgt := 122) X dX8_faultOf_115 (by decide) (fun c_115 => ?_) (fun c_115 => ?_)
                · refine zw_iload_1 X dX8_faultOf_122 ?_
                  refine zw_iconst (v := 1) X dX8_faultOf_123 ik_1 ?_
                  refine zw_icmpne (tgt := 138) X dX8_faultOf_124 (by decide) (fun c_124 => ?_) (fun c_124 => ?_)
                  · refine zw_iconst (v := 0) X dX8_faultOf_138 ik_0 ?_
                    refine zw_istore_1 X dX8_faultOf_139 ?_
                    refine zw_iinc_2_p1 X dX8_faultOf_140 ?_
                    refine zw_goto (tgt := 4) X dX8_faultOf_143 (by decide) ?_
                    refine zw_fg_3 ?_
                    refine zw_fg_4 ?_
                    refine zw_fg_5 ?_
                    exact ih (by first | (simp only [mBad, mFits, c_22, c_28, c_34, eq_true c_45, c_52, eq_true c_108, c_115, c_124, decide_true, decide_false, Bool.and_true, Bool.true_and, Bool.and_false, Bool.false_and, Bool.or_true, Bool.true_or, Bool.or_false, Bool.false_or, Bool.not_true, Bool.not_false, if_true, if_false, ite_true, ite_false, Bool.false_eq_true, not_true_eq_false, not_false_eq_true, bI_t, bI_f, decide_eq_true_eq, reduceCtorEq]; done) | (simp [mBad, mFits, c_22, c_28, c_34, eq_true c_45, c_52, eq_true c_108, c_115, c_124]; done) | simp_all) _ _ (by first | (simp only [mW_succ, mNext, c_22, c_28, c_34, eq_true c_45, c_52, eq_true c_108, c_115, c_124, decide_true, decide_false, Bool.and_true, Bool.true_and, Bool.and_false, Bool.false_and, Bool.or_true, Bool.true_or, Bool.or_false, Bool.false_or, Bool.not_true, Bool.not_false, if_true, if_false, ite_true, ite_false, Bool.false_eq_true, not_true_eq_false, not_false_eq_true, bI_t, bI_f, decide_eq_true_eq, reduceCtorEq]; done) | (simp [mW_succ, mNext, c_22, c_28, c_34, eq_true c_45, c_52, eq_true c_108, c_115, c_124]; done) | simp_all) (nI_1 j)
                  · refine zw_iload_3 X dX8_faultOf_127 ?_
                    refine zw_cS_ii X dX8_faultOf_128 lk_X8_91 ok_MX8_isDigit st_MX8_isDigit rm_X8_faultOf_X8_isDigit (Nat.le_of_ble_eq_true rfl) t_X8_isDigit ?_
                    refine zw_ifeqB (tgt := 138) X dX8_faultOf_131 (by decide) (fun c_131 => ?_) (fun c_131 => ?_)
                    · refine zw_iconst (v := 0) X dX8_faultOf_138 ik_0 ?_
                      refine zw_istore_1 X dX8_faultOf_139 ?_
                      refine zw_iinc_2_p1 X dX8_faultOf_140 ?_
                      refine zw_goto (tgt := 4) X dX8_faultOf_143 (by decide) ?_
                      refine zw_fg_3 ?_
                      refine zw_fg_4 ?_
                      refine zw_fg_5 ?_
                      exact ih (by first | (simp only [mBad, mFits, c_22, c_28, c_34, eq_true c_45, c_52, eq_true c_108, c_115, eq_true c_124, c_131, decide_true, decide_false, Bool.and_true, Bool.true_and, Bool.and_false, Bool.false_and, Bool.or_true, Bool.true_or, Bool.or_false, Bool.false_or, Bool.not_true, Bool.not_false, if_true, if_false, ite_true, ite_false, Bool.false_eq_true, not_true_eq_false, not_false_eq_true, bI_t, bI_f, decide_eq_true_eq, reduceCtorEq]; done) | (simp [mBad, mFits, c_22, c_28, c_34, eq_true c_45, c_52, eq_true c_108, c_115, eq_true c_124, c_131]; done) | simp_all) _ _ (by first | (simp only [mW_succ, mNext, c_22, c_28, c_34, eq_true c_45, c_52, eq_true c_108, c_115, eq_true c_124, c_131, decide_true, decide_false, Bool.and_true, Bool.true_and, Bool.and_false, Bool.false_and, Bool.or_true, Bool.true_or, Bool.or_false, Bool.false_or, Bool.not_true, Bool.not_false, if_true, if_false, ite_true, ite_false, Bool.false_eq_true, not_true_eq_false, not_false_eq_true, bI_t, bI_f, decide_eq_true_eq, reduceCtorEq]; done) | (simp [mW_succ, mNext, c_22, c_28, c_34, eq_true c_45, c_52, eq_true c_108, c_115, eq_true c_124, c_131]; done) | simp_all) (nI_1 j)
                    · refine zw_iconst (v := 2) X dX8_faultOf_134 ik_2 ?_
                      refine zw_goto (tgt := 139) X dX8_faultOf_135 (by decide) ?_
                      refine zw_istore_1 X dX8_faultOf_139 ?_
                      refine zw_iinc_2_p1 X dX8_faultOf_140 ?_
                      refine zw_goto (tgt := 4) X dX8_faultOf_143 (by decide) ?_
                      refine zw_fg_3 ?_
                      refine zw_fg_4 ?_
                      refine zw_fg_5 ?_
                      exact ih (by first | (simp only [mBad, mFits, c_22, c_28, c_34, eq_true c_45, c_52, eq_true c_108, c_115, eq_true c_124, c_131, decide_true, decide_false, Bool.and_true, Bool.true_and, Bool.and_false, Bool.false_and, Bool.or_true, Bool.true_or, Bool.or_false, Bool.false_or, Bool.not_true, Bool.not_false, if_true, if_false, ite_true, ite_false, Bool.false_eq_true, not_true_eq_false, not_false_eq_true, bI_t, bI_f, decide_eq_true_eq, reduceCtorEq]; done) | (simp [mBad, mFits, c_22, c_28, c_34, eq_true c_45, c_52, eq_true c_108, c_115, eq_true c_124, c_131]; done) | simp_all) _ _ (by first | (simp only [mW_succ, mNext, c_22, c_28, c_34, eq_true c_45, c_52, eq_true c_108, c_115, eq_true c_124, c_131, decide_true, decide_false, Bool.and_true, Bool.true_and, Bool.and_false, Bool.false_and, Bool.or_true, Bool.true_or, Bool.or_false, Bool.false_or, Bool.not_true, Bool.not_false, if_true, if_false, ite_true, ite_false, Bool.false_eq_true, not_true_eq_false, not_false_eq_true, bI_t, bI_f, decide_eq_true_eq, reduceCtorEq]; done) | (simp [mW_succ, mNext, c_22, c_28, c_34, eq_true c_45, c_52, eq_true c_108, c_115, eq_true c_124, c_131]; done) | simp_all) (nI_1 j)
                · refine zw_iconst (v := 1) X dX8_faultOf_118 ik_1 ?_
                  refine zw_goto (tgt := 139) X dX8_faultOf_119 (by decide) ?_
                  refine zw_istore_1 X dX8_faultOf_139 ?_
                  refine zw_iinc_2_p1 X dX8_faultOf_140 ?_
                  refine zw_goto (tgt := 4) X dX8_faultOf_143 (by decide) ?_
                  refine zw_fg_3 ?_
                  refine zw_fg_4 ?_
                  refine zw_fg_5 ?_
                  exact ih (by first | (simp only [mBad, mFits, c_22, c_28, c_34, eq_true c_45, c_52, eq_true c_108, c_115, decide_true, decide_false, Bool.and_true, Bool.true_and, Bool.and_false, Bool.false_and, Bool.or_true, Bool.true_or, Bool.or_false, Bool.false_or, Bool.not_true, Bool.not_false, if_true, if_false, ite_true, ite_false, Bool.false_eq_true, not_true_eq_false, not_false_eq_true, bI_t, bI_f, decide_eq_true_eq, reduceCtorEq]; done) | (simp [mBad, mFits, c_22, c_28, c_34, eq_true c_45, c_52, eq_true c_108, c_115]; done) | simp_all) _ _ (by first | (simp only [mW_succ, mNext, c_22, c_28, c_34, eq_true c_45, c_52, eq_true c_108, c_115, decide_true, decide_false, Bool.and_true, Bool.true_and, Bool.and_false, Bool.false_and, Bool.or_true, Bool.true_or, Bool.or_false, Bool.false_or, Bool.not_true, Bool.not_false, if_true, if_false, ite_true, ite_false, Bool.false_eq_true, not_true_eq_false, not_false_eq_true, bI_t, bI_f, decide_eq_true_eq, reduceCtorEq]; done) | (simp [mW_succ, mNext, c_22, c_28, c_34, eq_true c_45, c_52, eq_true c_108, c_115]; done) | simp_all) (nI_1 j)
            · refine zw_iload_3 X dX8_faultOf_55 ?_
              refine zw_bipush (v := 46) X dX8_faultOf_56 bk_46 ?_
              refine zw_icmpne (tgt := 65) X dX8_faultOf_58 (by decide) (fun c_58 => ?_) (fun c_58 => ?_)
              · refine zw_iconst (v := 0) X dX8_faultOf_65 ik_0 ?_
                refine zw_goto (tgt := 98) X dX8_faultOf_66 (by decide) ?_
                refine zw_istore_5 X dX8_faultOf_98 ?_
                refine zw_iload_5 X dX8_faultOf_100 ?_
                refine zw_ifne_f (tgt := 107) X dX8_faultOf_102 (by decide) (by decide) ?_
                refine zw_iload_2 X dX8_faultOf_105 ?_
                exact zw_iret X F dX8_faultOf_106 rfl (by rw [mFault, fstB_at (P := mBad (σ 49)) (by first | (simp only [mBad, mFits, c_22, c_28, c_34, eq_true c_45, c_52, c_58, decide_true, decide_false, Bool.and_true, Bool.true_and, Bool.and_false, Bool.false_and, Bool.or_true, Bool.true_or, Bool.or_false, Bool.false_or, Bool.not_true, Bool.not_false, if_true, if_false, ite_true, ite_false, Bool.false_eq_true, not_true_eq_false, not_false_eq_true, bI_t, bI_f, decide_eq_true_eq, reduceCtorEq]; done) | (simp [mBad, mFits, c_22, c_28, c_34, eq_true c_45, c_52, c_58]; done) | simp_all) hb hj, if_pos hj]) (rfl)
              · refine zw_iconst (v := 1) X dX8_faultOf_61 ik_1 ?_
                refine zw_goto (tgt := 98) X dX8_faultOf_62 (by decide) ?_
                refine zw_istore_5 X dX8_faultOf_98 ?_
                refine zw_iload_5 X dX8_faultOf_100 ?_
                refine zw_ifne_t (tgt := 107) X dX8_faultOf_102 (by decide) (by decide) ?_
                refine zw_iload_1 X dX8_faultOf_107 ?_
                refine zw_ifne (tgt := 122) X dX8_faultOf_108 (by decide) (fun c_108 => ?_) (fun c_108 => ?_)
                · refine zw_iload_1 X dX8_faultOf_122 ?_
                  refine zw_iconst (v := 1) X dX8_faultOf_123 ik_1 ?_
                  refine zw_icmpne (tgt := 138) X dX8_faultOf_124 (by decide) (fun c_124 => ?_) (fun c_124 => ?_)
                  · refine zw_iconst (v := 0) X dX8_faultOf_138 ik_0 ?_
                    refine zw_istore_1 X dX8_faultOf_139 ?_
                    refine zw_iinc_2_p1 X dX8_faultOf_140 ?_
                    refine zw_goto (tgt := 4) X dX8_faultOf_143 (by decide) ?_
                    refine zw_fg_3 ?_
                    refine zw_fg_4 ?_
                    refine zw_fg_5 ?_
                    exact ih (by first | (simp only [mBad, mFits, c_22, c_28, c_34, eq_true c_45, c_52, eq_true c_58, c_108, c_124, decide_true, decide_false, Bool.and_true, Bool.true_and, Bool.and_false, Bool.false_and, Bool.or_true, Bool.true_or, Bool.or_false, Bool.false_or, Bool.not_true, Bool.not_false, if_true, if_false, ite_true, ite_false, Bool.false_eq_true, not_true_eq_false, not_false_eq_true, bI_t, bI_f, decide_eq_true_eq, reduceCtorEq]; done) | (simp [mBad, mFits, c_22, c_28, c_34, eq_true c_45, c_52, eq_true c_58, c_108, c_124]; done) | simp_all) _ _ (by first | (simp only [mW_succ, mNext, c_22, c_28, c_34, eq_true c_45, c_52, eq_true c_58, c_108, c_124, decide_true, decide_false, Bool.and_true, Bool.true_and, Bool.and_false, Bool.false_and, Bool.or_true, Bool.true_or, Bool.or_false, Bool.false_or, Bool.not_true, Bool.not_false, if_true, if_false, ite_true, ite_false, Bool.false_eq_true, not_true_eq_false, not_false_eq_true, bI_t, bI_f, decide_eq_true_eq, reduceCtorEq]; done) | (simp [mW_succ, mNext, c_22, c_28, c_34, eq_true c_45, c_52, eq_true c_58, c_108, c_124]; done) | simp_all) (nI_1 j)
                  · refine zw_iload_3 X dX8_faultOf_127 ?_
                    refine zw_cS_ii X dX8_faultOf_128 lk_X8_91 ok_MX8_isDigit st_MX8_isDigit rm_X8_faultOf_X8_isDigit (Nat.le_of_ble_eq_true rfl) t_X8_isDigit ?_
                    refine zw_ifeqB (tgt := 138) X dX8_faultOf_131 (by decide) (fun c_131 => ?_) (fun c_131 => ?_)
                    · refine zw_iconst (v := 0) X dX8_faultOf_138 ik_0 ?_
                      refine zw_istore_1 X dX8_faultOf_139 ?_
                      refine zw_iinc_2_p1 X dX8_faultOf_140 ?_
                      refine zw_goto (tgt := 4) X dX8_faultOf_143 (by decide) ?_
                      refine zw_fg_3 ?_
                      refine zw_fg_4 ?_
                      refine zw_fg_5 ?_
                      exact ih (by first | (simp only [mBad, mFits, c_22, c_28, c_34, eq_true c_45, c_52, eq_true c_58, c_108, eq_true c_124, c_131, decide_true, decide_false, Bool.and_true, Bool.true_and, Bool.and_false, Bool.false_and, Bool.or_true, Bool.true_or, Bool.or_false, Bool.false_or, Bool.not_true, Bool.not_false, if_true, if_false, ite_true, ite_false, Bool.false_eq_true, not_true_eq_false, not_false_eq_true, bI_t, bI_f, decide_eq_true_eq, reduceCtorEq]; done) | (simp [mBad, mFits, c_22, c_28, c_34, eq_true c_45, c_52, eq_true c_58, c_108, eq_true c_124, c_131]; done) | simp_all) _ _ (by first | (simp only [mW_succ, mNext, c_22, c_28, c_34, eq_true c_45, c_52, eq_true c_58, c_108, eq_true c_124, c_131, decide_true, decide_false, Bool.and_true, Bool.true_and, Bool.and_false, Bool.false_and, Bool.or_true, Bool.true_or, Bool.or_false, Bool.false_or, Bool.not_true, Bool.not_false, if_true, if_false, ite_true, ite_false, Bool.false_eq_true, not_true_eq_false, not_false_eq_true, bI_t, bI_f, decide_eq_true_eq, reduceCtorEq]; done) | (simp [mW_succ, mNext, c_22, c_28, c_34, eq_true c_45, c_52, eq_true c_58, c_108, eq_true c_124, c_131]; done) | simp_all) (nI_1 j)
                    · refine zw_iconst (v := 2) X dX8_faultOf_134 ik_2 ?_
                      refine zw_goto (tgt := 139) X dX8_faultOf_135 (by decide) ?_
                      refine zw_istore_1 X dX8_faultOf_139 ?_
                      refine zw_iinc_2_p1 X dX8_faultOf_140 ?_
                      refine zw_goto (tgt := 4) X dX8_faultOf_143 (by decide) ?_
                      refine zw_fg_3 ?_
                      refine zw_fg_4 ?_
                      refine zw_fg_5 ?_
                      exact ih (by first | (simp only [mBad, mFits, c_22, c_28, c_34, eq_true c_45, c_52, eq_true c_58, c_108, eq_true c_124, c_131, decide_true, decide_false, Bool.and_true, Bool.true_and, Bool.and_false, Bool.false_and, Bool.or_true, Bool.true_or, Bool.or_false, Bool.false_or, Bool.not_true, Bool.not_false, if_true, if_false, ite_true, ite_false, Bool.false_eq_true, not_true_eq_false, not_false_eq_true, bI_t, bI_f, decide_eq_true_eq, reduceCtorEq]; done) | (simp [mBad, mFits, c_22, c_28, c_34, eq_true c_45, c_52, eq_true c_58, c_108, eq_true c_124, c_131]; done) | simp_all) _ _ (by first | (simp only [mW_succ, mNext, c_22, c_28, c_34, eq_true c_45, c_52, eq_true c_58, c_108, eq_true c_124, c_131, decide_true, decide_false, Bool.and_true, Bool.true_and, Bool.and_false, Bool.false_and, Bool.or_true, Bool.true_or, Bool.or_false, Bool.false_or, Bool.not_true, Bool.not_false, if_true, if_false, ite_true, ite_false, Bool.false_eq_true, not_true_eq_false, not_false_eq_true, bI_t, bI_f, decide_eq_true_eq, reduceCtorEq]; done) | (simp [mW_succ, mNext, c_22, c_28, c_34, eq_true c_45, c_52, eq_true c_58, c_108, eq_true c_124, c_131]; done) | simp_all) (nI_1 j)
                · refine zw_iload_3 X dX8_faultOf_111 ?_
                  refine zw_cS_ii X dX8_faultOf_112 lk_X8_88 ok_MX8_isLetter st_MX8_isLetter rm_X8_faultOf_X8_isLetter (Nat.le_of_ble_eq_true rfl) t_X8_isLetter ?_
                  refine zw_ifeqB (tgt := 122) X dX8_faultOf_115 (by decide) (fun c_115 => ?_) (fun c_115 => ?_)
                  · refine zw_iload_1 X dX8_faultOf_122 ?_
                    refine zw_iconst (v := 1) X dX8_faultOf_123 ik_1 ?_
                    refine zw_icmpne (tgt := 138) X dX8_faultOf_124 (by decide) (fun c_124 => ?_) (fun c_124 => ?_)
                    · refine zw_iconst (v := 0) X dX8_faultOf_138 ik_0 ?_
                      refine zw_istore_1 X dX8_faultOf_139 ?_
                      refine zw_iinc_2_p1 X dX8_faultOf_140 ?_
                      refine zw_goto (tgt := 4) X dX8_faultOf_143 (by decide) ?_
                      refine zw_fg_3 ?_
                      refine zw_fg_4 ?_
                      refine zw_fg_5 ?_
                      exact ih (by first | (simp only [mBad, mFits, c_22, c_28, c_34, eq_true c_45, c_52, eq_true c_58, eq_true c_108, c_115, c_124, decide_true, decide_false, Bool.and_true, Bool.true_and, Bool.and_false, Bool.false_and, Bool.or_true, Bool.true_or, Bool.or_false, Bool.false_or, Bool.not_true, Bool.not_false, if_true, if_false, ite_true, ite_false, Bool.false_eq_true, not_true_eq_false, not_false_eq_true, bI_t, bI_f, decide_eq_true_eq, reduceCtorEq]; done) | (simp [mBad, mFits, c_22, c_28, c_34, eq_true c_45, c_52, eq_true c_58, eq_true c_108, c_115, c_124]; done) | simp_all) _ _ (by first | (simp only [mW_succ, mNext, c_22, c_28, c_34, eq_true c_45, c_52, eq_true c_58, eq_true c_108, c_115, c_124, decide_true, decide_false, Bool.and_true, Bool.true_and, Bool.and_false, Bool.false_and, Bool.or_true, Bool.true_or, Bool.or_false, Bool.false_or, Bool.not_true, Bool.not_false, if_true, if_false, ite_true, ite_false, Bool.false_eq_true, not_true_eq_false, not_false_eq_true, bI_t, bI_f, decide_eq_true_eq, reduceCtorEq]; done) | (simp [mW_succ, mNext, c_22, c_28, c_34, eq_true c_45, c_52, eq_true c_58, eq_true c_108, c_115, c_124]; done) | simp_all) (nI_1 j)
                    · refine zw_iload_3 X dX8_faultOf_127 ?_
                      refine zw_cS_ii X dX8_faultOf_128 lk_X8_91 ok_MX8_isDigit st_MX8_isDigit rm_X8_faultOf_X8_isDigit (Nat.le_of_ble_eq_true rfl) t_X8_isDigit ?_
                      refine zw_ifeqB (tgt := 138) X dX8_faultOf_131 (by decide) (fun c_131 => ?_) (fun c_131 => ?_)
                      · refine zw_iconst (v := 0) X dX8_faultOf_138 ik_0 ?_
                        refine zw_istore_1 X dX8_faultOf_139 ?_
                        refine zw_iinc_2_p1 X dX8_faultOf_140 ?_
                        refine zw_goto (tgt := 4) X dX8_faultOf_143 (by decide) ?_
                        refine zw_fg_3 ?_
                        refine zw_fg_4 ?_
                        refine zw_fg_5 ?_
                        exact ih (by first | (simp only [mBad, mFits, c_22, c_28, c_34, eq_true c_45, c_52, eq_true c_58, eq_true c_108, c_115, eq_true c_124, c_131, decide_true, decide_false, Bool.and_true, Bool.true_and, Bool.and_false, Bool.false_and, Bool.or_true, Bool.true_or, Bool.or_false, Bool.false_or, Bool.not_true, Bool.not_false, if_true, if_false, ite_true, ite_false, Bool.false_eq_true, not_true_eq_false, not_false_eq_true, bI_t, bI_f, decide_eq_true_eq, reduceCtorEq]; done) | (simp [mBad, mFits, c_22, c_28, c_34, eq_true c_45, c_52, eq_true c_58, eq_true c_108, c_115, eq_true c_124, c_131]; done) | simp_all) _ _ (by first | (simp only [mW_succ, mNext, c_22, c_28, c_34, eq_true c_45, c_52, eq_true c_58, eq_true c_108, c_115, eq_true c_124, c_131, decide_true, decide_false, Bool.and_true, Bool.true_and, Bool.and_false, Bool.false_and, Bool.or_true, Bool.true_or, Bool.or_false, Bool.false_or, Bool.not_true, Bool.not_false, if_true, if_false, ite_true, ite_false, Bool.false_eq_true, not_true_eq_false, not_false_eq_true, bI_t, bI_f, decide_eq_true_eq, reduceCtorEq]; done) | (simp [mW_succ, mNext, c_22, c_28, c_34, eq_true c_45, c_52, eq_true c_58, eq_true c_108, c_115, eq_true c_124, c_131]; done) | simp_all) (nI_1 j)
                      · refine zw_iconst (v := 2) X dX8_faultOf_134 ik_2 ?_
                        refine zw_goto (tgt := 139) X dX8_faultOf_135 (by decide) ?_
                        refine zw_istore_1 X dX8_faultOf_139 ?_
                        refine zw_iinc_2_p1 X dX8_faultOf_140 ?_
                        refine zw_goto (tgt := 4) X dX8_faultOf_143 (by decide) ?_
                        refine zw_fg_3 ?_
                        refine zw_fg_4 ?_
                        refine zw_fg_5 ?_
                        exact ih (by first | (simp only [mBad, mFits, c_22, c_28, c_34, eq_true c_45, c_52, eq_true c_58, eq_true c_108, c_115, eq_true c_124, c_131, decide_true, decide_false, Bool.and_true, Bool.true_and, Bool.and_false, Bool.false_and, Bool.or_true, Bool.true_or, Bool.or_false, Bool.false_or, Bool.not_true, Bool.not_false, if_true, if_false, ite_true, ite_false, Bool.false_eq_true, not_true_eq_false, not_false_eq_true, bI_t, bI_f, decide_eq_true_eq, reduceCtorEq]; done) | (simp [mBad, mFits, c_22, c_28, c_34, eq_true c_45, c_52, eq_true c_58, eq_true c_108, c_115, eq_true c_124, c_131]; done) | simp_all) _ _ (by first | (simp only [mW_succ, mNext, c_22, c_28, c_34, eq_true c_45, c_52, eq_true c_58, eq_true c_108, c_115, eq_true c_124, c_131, decide_true, decide_false, Bool.and_true, Bool.true_and, Bool.and_false, Bool.false_and, Bool.or_true, Bool.true_or, Bool.or_false, Bool.false_or, Bool.not_true, Bool.not_false, if_true, if_false, ite_true, ite_false, Bool.false_eq_true, not_true_eq_false, not_false_eq_true, bI_t, bI_f, decide_eq_true_eq, reduceCtorEq]; done) | (simp [mW_succ, mNext, c_22, c_28, c_34, eq_true c_45, c_52, eq_true c_58, eq_true c_108, c_115, eq_true c_124, c_131]; done) | simp_all) (nI_1 j)
                  · refine zw_iconst (v := 1) X dX8_faultOf_118 ik_1 ?_
                    refine zw_goto (tgt := 139) X dX8_faultOf_119 (by decide) ?_
                    refine zw_istore_1 X dX8_faultOf_139 ?_
                    refine zw_iinc_2_p1 X dX8_faultOf_140 ?_
                    refine zw_goto (tgt := 4) X dX8_faultOf_143 (by decide) ?_
                    refine zw_fg_3 ?_
                    refine zw_fg_4 ?_
                    refine zw_fg_5 ?_
                    exact ih (by first | (simp only [mBad, mFits, c_22, c_28, c_34, eq_true c_45, c_52, eq_true c_58, eq_true c_108, c_115, decide_true, decide_false, Bool.and_true, Bool.true_and, Bool.and_false, Bool.false_and, Bool.or_true, Bool.true_or, Bool.or_false, Bool.false_or, Bool.not_true, Bool.not_false, if_true, if_false, ite_true, ite_false, Bool.false_eq_true, not_true_eq_false, not_false_eq_true, bI_t, bI_f, decide_eq_true_eq, reduceCtorEq]; done) | (simp [mBad, mFits, c_22, c_28, c_34, eq_true c_45, c_52, eq_true c_58, eq_true c_108, c_115]; done) | simp_all) _ _ (by first | (simp only [mW_succ, mNext, c_22, c_28, c_34, eq_true c_45, c_52, eq_true c_58, eq_true c_108, c_115, decide_true, decide_false, Bool.and_true, Bool.true_and, Bool.and_false, Bool.false_and, Bool.or_true, Bool.true_or, Bool.or_false, Bool.false_or, Bool.not_true, Bool.not_false, if_true, if_false, ite_true, ite_false, Bool.false_eq_true, not_true_eq_false, not_false_eq_true, bI_t, bI_f, decide_eq_true_eq, reduceCtorEq]; done) | (simp [mW_succ, mNext, c_22, c_28, c_34, eq_true c_45, c_52, eq_true c_58, eq_true c_108, c_115]; done) | simp_all) (nI_1 j)
        · refine zw_iconst (v := 1) X dX8_faultOf_37 ik_1 ?_
          refine zw_goto (tgt := 42) X dX8_faultOf_38 (by decide) ?_
          refine zw_istore_4 X dX8_faultOf_42 ?_
          refine zw_iload_1 X dX8_faultOf_44 ?_
          refine zw_ifne (tgt := 69) X dX8_faultOf_45 (by decide) (fun c_45 => ?_) (fun c_45 => ?_)
          · refine zw_iload_1 X dX8_faultOf_69 ?_
            refine zw_iconst (v := 1) X dX8_faultOf_70 ik_1 ?_
            refine zw_icmpne (tgt := 94) X dX8_faultOf_71 (by decide) (fun c_71 => ?_) (fun c_71 => ?_)
            · refine zw_iload_3 X dX8_faultOf_94 ?_
              refine zw_cS_ii X dX8_faultOf_95 lk_X8_91 ok_MX8_isDigit st_MX8_isDigit rm_X8_faultOf_X8_isDigit (Nat.le_of_ble_eq_true rfl) t_X8_isDigit ?_
              refine zw_istore_5 X dX8_faultOf_98 ?_
              refine zw_iload_5 X dX8_faultOf_100 ?_
              refine zw_ifneB (tgt := 107) X dX8_faultOf_102 (by decide) (fun c_102 => ?_) (fun c_102 => ?_)
              · refine zw_iload_1 X dX8_faultOf_107 ?_
                refine zw_ifne (tgt := 122) X dX8_faultOf_108 (by decide) (fun c_108 => ?_) (fun c_108 => ?_)
                · refine zw_iload_1 X dX8_faultOf_122 ?_
                  refine zw_iconst (v := 1) X dX8_faultOf_123 ik_1 ?_
                  refine zw_icmpne (tgt := 138) X dX8_faultOf_124 (by decide) (fun c_124 => ?_) (fun c_124 => ?_)
                  · refine zw_iconst (v := 0) X dX8_faultOf_138 ik_0 ?_
                    refine zw_istore_1 X dX8_faultOf_139 ?_
                    refine zw_iinc_2_p1 X dX8_faultOf_140 ?_
                    refine zw_goto (tgt := 4) X dX8_faultOf_143 (by decide) ?_
                    refine zw_fg_3 ?_
                    refine zw_fg_4 ?_
                    refine zw_fg_5 ?_
                    exact ih (by first | (simp only [mBad, mFits, c_22, c_28, eq_true c_34, c_45, c_71, c_102, c_108, c_124, decide_true, decide_false, Bool.and_true, Bool.true_and, Bool.and_false, Bool.false_and, Bool.or_true, Bool.true_or, Bool.or_false, Bool.false_or, Bool.not_true, Bool.not_false, if_true, if_false, ite_true, ite_false, Bool.false_eq_true, not_true_eq_false, not_false_eq_true, bI_t, bI_f, decide_eq_true_eq, reduceCtorEq]; done) | (simp [mBad, mFits, c_22, c_28, eq_true c_34, c_45, c_71, c_102, c_108, c_124]; done) | simp_all) _ _ (by first | (simp only [mW_succ, mNext, c_22, c_28, eq_true c_34, c_45, c_71, c_102, c_108, c_124, decide_true, decide_false, Bool.and_true, Bool.true_and, Bool.and_false, Bool.false_and, Bool.or_true, Bool.true_or, Bool.or_false, Bool.false_or, Bool.not_true, Bool.not_false, if_true, if_false, ite_true, ite_false, Bool.false_eq_true, not_true_eq_false, not_false_eq_true, bI_t, bI_f, decide_eq_true_eq, reduceCtorEq]; done) | (simp [mW_succ, mNext, c_22, c_28, eq_true c_34, c_45, c_71, c_102, c_108, c_124]; done) | simp_all) (nI_1 j)
                  · refine zw_iload_3 X dX8_faultOf_127 ?_
                    refine zw_cS_ii X dX8_faultOf_128 lk_X8_91 ok_MX8_isDigit st_MX8_isDigit rm_X8_faultOf_X8_isDigit (Nat.le_of_ble_eq_true rfl) t_X8_isDigit ?_
                    refine zw_ifeqB (tgt := 138) X dX8_faultOf_131 (by decide) (fun c_131 => ?_) (fun c_131 => ?_)
                    · refine zw_iconst (v := 0) X dX8_faultOf_138 ik_0 ?_
                      refine zw_istore_1 X dX8_faultOf_139 ?_
                      refine zw_iinc_2_p1 X dX8_faultOf_140 ?_
                      refine zw_goto (tgt := 4) X dX8_faultOf_143 (by decide) ?_
                      refine zw_fg_3 ?_
                      refine zw_fg_4 ?_
                      refine zw_fg_5 ?_
                      exact ih (by first | (simp only [mBad, mFits, c_22, c_28, eq_true c_34, c_45, c_71, c_102, c_108, eq_true c_124, c_131, decide_true, decide_false, Bool.and_true, Bool.true_and, Bool.and_false, Bool.false_and, Bool.or_true, Bool.true_or, Bool.or_false, Bool.false_or, Bool.not_true, Bool.not_false, if_true, if_false, ite_true, ite_false, Bool.false_eq_true, not_true_eq_false, not_false_eq_true, bI_t, bI_f, decide_eq_true_eq, reduceCtorEq]; done) | (simp [mBad, mFits, c_22, c_28, eq_true c_34, c_45, c_71, c_102, c_108, eq_true c_124, c_131]; done) | simp_all) _ _ (by first | (simp only [mW_succ, mNext, c_22, c_28, eq_true c_34, c_45, c_71, c_102, c_108, eq_true c_124, c_131, decide_true, decide_false, Bool.and_true, Bool.true_and, Bool.and_false, Bool.false_and, Bool.or_true, Bool.true_or, Bool.or_false, Bool.false_or, Bool.not_true, Bool.not_false, if_true, if_false, ite_true, ite_false, Bool.false_eq_true, not_true_eq_false, not_false_eq_true, bI_t, bI_f, decide_eq_true_eq, reduceCtorEq]; done) | (simp [mW_succ, mNext, c_22, c_28, eq_true c_34, c_45, c_71, c_102, c_108, eq_true c_124, c_131]; done) | simp_all) (nI_1 j)
                    · refine zw_iconst (v := 2) X dX8_faultOf_134 ik_2 ?_
                      refine zw_goto (tgt := 139) X dX8_faultOf_135 (by decide) ?_
                      refine zw_istore_1 X dX8_faultOf_139 ?_
                      refine zw_iinc_2_p1 X dX8_faultOf_140 ?_
                      refine zw_goto (tgt := 4) X dX8_faultOf_143 (by decide) ?_
                      refine zw_fg_3 ?_
                      refine zw_fg_4 ?_
                      refine zw_fg_5 ?_
                      exact ih (by first | (simp only [mBad, mFits, c_22, c_28, eq_true c_34, c_45, c_71, c_102, c_108, eq_true c_124, c_131, decide_true, decide_false, Bool.and_true, Bool.true_and, Bool.and_false, Bool.false_and, Bool.or_true, Bool.true_or, Bool.or_false, Bool.false_or, Bool.not_true, Bool.not_false, if_true, if_false, ite_true, ite_false, Bool.false_eq_true, not_true_eq_false, not_false_eq_true, bI_t, bI_f, decide_eq_true_eq, reduceCtorEq]; done) | (simp [mBad, mFits, c_22, c_28, eq_true c_34, c_45, c_71, c_102, c_108, eq_true c_124, c_131]; done) | simp_all) _ _ (by first | (simp only [mW_succ, mNext, c_22, c_28, eq_true c_34, c_45, c_71, c_102, c_108, eq_true c_124, c_131, decide_true, decide_false, Bool.and_true, Bool.true_and, Bool.and_false, Bool.false_and, Bool.or_true, Bool.true_or, Bool.or_false, Bool.false_or, Bool.not_true, Bool.not_false, if_true, if_false, ite_true, ite_false, Bool.false_eq_true, not_true_eq_false, not_false_eq_true, bI_t, bI_f, decide_eq_true_eq, reduceCtorEq]; done) | (simp [mW_succ, mNext, c_22, c_28, eq_true c_34, c_45, c_71, c_102, c_108, eq_true c_124, c_131]; done) | simp_all) (nI_1 j)
                · refine zw_iload_3 X dX8_faultOf_111 ?_
                  refine zw_cS_ii X dX8_faultOf_112 lk_X8_88 ok_MX8_isLetter st_MX8_isLetter rm_X8_faultOf_X8_isLetter (Nat.le_of_ble_eq_true rfl) t_X8_isLetter ?_
                  refine zw_ifeqB (tgt := 122) X dX8_faultOf_115 (by decide) (fun c_115 => ?_) (fun c_115 => ?_)
                  · refine zw_iload_1 X dX8_faultOf_122 ?_
                    refine zw_iconst (v := 1) X dX8_faultOf_123 ik_1 ?_
                    refine zw_icmpne (tgt := 138) X dX8_faultOf_124 (by decide) (fun c_124 => ?_) (fun c_124 => ?_)
                    · refine zw_iconst (v := 0) X dX8_faultOf_138 ik_0 ?_
                      refine zw_istore_1 X dX8_faultOf_139 ?_
                      refine zw_iinc_2_p1 X dX8_faultOf_140 ?_
                      refine zw_goto (tgt := 4) X dX8_faultOf_143 (by decide) ?_
                      refine zw_fg_3 ?_
                      refine zw_fg_4 ?_
                      refine zw_fg_5 ?_
                      exact ih (by first | (simp only [mBad, mFits, c_22, c_28, eq_true c_34, c_45, c_71, c_102, eq_true c_108, c_115, c_124, decide_true, decide_false, Bool.and_true, Bool.true_and, Bool.and_false, Bool.false_and, Bool.or_true, Bool.true_or, Bool.or_false, Bool.false_or, Bool.not_true, Bool.not_false, if_true, if_false, ite_true, ite_false, Bool.false_eq_true, not_true_eq_false, not_false_eq_true, bI_t, bI_f, decide_eq_true_eq, reduceCtorEq]; done) | (simp [mBad, mFits, c_22, c_28, eq_true c_34, c_45, c_71, c_102, eq_true c_108, c_115, c_124]; done) | simp_all) _ _ (by first | (simp only [mW_succ, mNext, c_22, c_28, eq_true c_34, c_45, c_71, c_102, eq_true c_108, c_115, c_124, decide_true, decide_false, Bool.and_true, Bool.true_and, Bool.and_false, Bool.false_and, Bool.or_true, Bool.true_or, Bool.or_false, Bool.false_or, Bool.not_true, Bool.not_false, if_true, if_false, ite_true, ite_false, Bool.false_eq_true, not_true_eq_false, not_false_eq_true, bI_t, bI_f, decide_eq_true_eq, reduceCtorEq]; done) | (simp [mW_succ, mNext, c_22, c_28, eq_true c_34, c_45, c_71, c_102, eq_true c_108, c_115, c_124]; done) | simp_all) (nI_1 j)
                    · refine zw_iload_3 X dX8_faultOf_127 ?_
                      refine zw_cS_ii X dX8_faultOf_128 lk_X8_91 ok_MX8_isDigit st_MX8_isDigit rm_X8_faultOf_X8_isDigit (Nat.le_of_ble_eq_true rfl) t_X8_isDigit ?_
                      refine zw_ifeqB (tgt := 138) X dX8_faultOf_131 (by decide) (fun c_131 => ?_) (fun c_131 => ?_)
                      · refine zw_iconst (v := 0) X dX8_faultOf_138 ik_0 ?_
                        refine zw_istore_1 X dX8_faultOf_139 ?_
                        refine zw_iinc_2_p1 X dX8_faultOf_140 ?_
                        refine zw_goto (tgt := 4) X dX8_faultOf_143 (by decide) ?_
                        refine zw_fg_3 ?_
                        refine zw_fg_4 ?_
                        refine zw_fg_5 ?_
                        exact ih (by first | (simp only [mBad, mFits, c_22, c_28, eq_true c_34, c_45, c_71, c_102, eq_true c_108, c_115, eq_true c_124, c_131, decide_true, decide_false, Bool.and_true, Bool.true_and, Bool.and_false, Bool.false_and, Bool.or_true, Bool.true_or, Bool.or_false, Bool.false_or, Bool.not_true, Bool.not_false, if_true, if_false, ite_true, ite_false, Bool.false_eq_true, not_true_eq_false, not_false_eq_true, bI_t, bI_f, decide_eq_true_eq, reduceCtorEq]; done) | (simp [mBad, mFits, c_22, c_28, eq_true c_34, c_45, c_71, c_102, eq_true c_108, c_115, eq_true c_124, c_131]; done) | simp_all) _ _ (by first | (simp only [mW_succ, mNext, c_22, c_28, eq_true c_34, c_45, c_71, c_102, eq_true c_108, c_115, eq_true c_124, c_131, decide_true, decide_false, Bool.and_true, Bool.true_and, Bool.and_false, Bool.false_and, Bool.or_true, Bool.true_or, Bool.or_false, Bool.false_or, Bool.not_true, Bool.not_false, if_true, if_false, ite_true, ite_false, Bool.false_eq_true, not_true_eq_false, not_false_eq_true, bI_t, bI_f, decide_eq_true_eq, reduceCtorEq]; done) | (simp [mW_succ, mNext, c_22, c_28, eq_true c_34, c_45, c_71, c_102, eq_true c_108, c_115, eq_true c_124, c_131]; done) | simp_all) (nI_1 j)
                      · refine zw_iconst (v := 2) X dX8_faultOf_134 ik_2 ?_
                        refine zw_goto (tgt := 139) X dX8_faultOf_135 (by decide) ?_
                        refine zw_istore_1 X dX8_faultOf_139 ?_
                        refine zw_iinc_2_p1 X dX8_faultOf_140 ?_
                        refine zw_goto (tgt := 4) X dX8_faultOf_143 (by decide) ?_
                        refine zw_fg_3 ?_
                        refine zw_fg_4 ?_
                        refine zw_fg_5 ?_
                        exact ih (by first | (simp only [mBad, mFits, c_22, c_28, eq_true c_34, c_45, c_71, c_102, eq_true c_108, c_115, eq_true c_124, c_131, decide_true, decide_false, Bool.and_true, Bool.true_and, Bool.and_false, Bool.false_and, Bool.or_true, Bool.true_or, Bool.or_false, Bool.false_or, Bool.not_true, Bool.not_false, if_true, if_false, ite_true, ite_false, Bool.false_eq_true, not_true_eq_false, not_false_eq_true, bI_t, bI_f, decide_eq_true_eq, reduceCtorEq]; done) | (simp [mBad, mFits, c_22, c_28, eq_true c_34, c_45, c_71, c_102, eq_true c_108, c_115, eq_true c_124, c_131]; done) | simp_all) _ _ (by first | (simp only [mW_succ, mNext, c_22, c_28, eq_true c_34, c_45, c_71, c_102, eq_true c_108, c_115, eq_true c_124, c_131, decide_true, decide_false, Bool.and_true, Bool.true_and, Bool.and_false, Bool.false_and, Bool.or_true, Bool.true_or, Bool.or_false, Bool.false_or, Bool.not_true, Bool.not_false, if_true, if_false, ite_true, ite_false, Bool.false_eq_true, not_true_eq_false, not_false_eq_true, bI_t, bI_f, decide_eq_true_eq, reduceCtorEq]; done) | (simp [mW_succ, mNext, c_22, c_28, eq_true c_34, c_45, c_71, c_102, eq_true c_108, c_115, eq_true c_124, c_131]; done) | simp_all) (nI_1 j)
                  · refine zw_iconst (v := 1) X dX8_faultOf_118 ik_1 ?_
                    refine zw_goto (tgt := 139) X dX8_faultOf_119 (by decide) ?_
                    refine zw_istore_1 X dX8_faultOf_139 ?_
                    refine zw_iinc_2_p1 X dX8_faultOf_140 ?_
                    refine zw_goto (tgt := 4) X dX8_faultOf_143 (by decide) ?_
                    refine zw_fg_3 ?_
                    refine zw_fg_4 ?_
                    refine zw_fg_5 ?_
                    exact ih (by first | (simp only [mBad, mFits, c_22, c_28, eq_true c_34, c_45, c_71, c_102, eq_true c_108, c_115, decide_true, decide_false, Bool.and_true, Bool.true_and, Bool.and_false, Bool.false_and, Bool.or_true, Bool.true_or, Bool.or_false, Bool.false_or, Bool.not_true, Bool.not_false, if_true, if_false, ite_true, ite_false, Bool.false_eq_true, not_true_eq_false, not_false_eq_true, bI_t, bI_f, decide_eq_true_eq, reduceCtorEq]; done) | (simp [mBad, mFits, c_22, c_28, eq_true c_34, c_45, c_71, c_102, eq_true c_108, c_115]; done) | simp_all) _ _ (by first | (simp only [mW_succ, mNext, c_22, c_28, eq_true c_34, c_45, c_71, c_102, eq_true c_108, c_115, decide_true, decide_false, Bool.and_true, Bool.true_and, Bool.and_false, Bool.false_and, Bool.or_true, Bool.true_or, Bool.or_false, Bool.false_or, Bool.not_true, Bool.not_false, if_true, if_false, ite_true, ite_false, Bool.false_eq_true, not_true_eq_false, not_false_eq_true, bI_t, bI_f, decide_eq_true_eq, reduceCtorEq]; done) | (simp [mW_succ, mNext, c_22, c_28, eq_true c_34, c_45, c_71, c_102, eq_true c_108, c_115]; done) | simp_all) (nI_1 j)
              · refine zw_iload_2 X dX8_faultOf_105 ?_
                exact zw_iret X F dX8_faultOf_106 rfl (by rw [mFault, fstB_at (P := mBad (σ 49)) (by first | (simp only [mBad, mFits, c_22, c_28, eq_true c_34, c_45, c_71, c_102, decide_true, decide_false, Bool.and_true, Bool.true_and, Bool.and_false, Bool.false_and, Bool.or_true, Bool.true_or, Bool.or_false, Bool.false_or, Bool.not_true, Bool.not_false, if_true, if_false, ite_true, ite_false, Bool.false_eq_true, not_true_eq_false, not_false_eq_true, bI_t, bI_f, decide_eq_true_eq, reduceCtorEq]; done) | (simp [mBad, mFits, c_22, c_28, eq_true c_34, c_45, c_71, c_102]; done) | simp_all) hb hj, if_pos hj]) (rfl)
            · refine zw_iload_4 X dX8_faultOf_74 ?_
              refine zw_ifne_t (tgt := 86) X dX8_faultOf_76 (by decide) (by decide) ?_
              refine zw_iconst (v := 1) X dX8_faultOf_86 ik_1 ?_
              refine zw_goto (tgt := 98) X dX8_faultOf_87 (by decide) ?_
              refine zw_istore_5 X dX8_faultOf_98 ?_
              refine zw_iload_5 X dX8_faultOf_100 ?_
              refine zw_ifne_t (tgt := 107) X dX8_faultOf_102 (by decide) (by decide) ?_
              refine zw_iload_1 X dX8_faultOf_107 ?_
              refine zw_ifne (tgt := 122) X dX8_faultOf_108 (by decide) (fun c_108 => ?_) (fun c_108 => ?_)
              · refine zw_iload_1 X dX8_faultOf_122 ?_
                refine zw_iconst (v := 1) X dX8_faultOf_123 ik_1 ?_
                refine zw_icmpne (tgt := 138) X dX8_faultOf_124 (by decide) (fun c_124 => ?_) (fun c_124 => ?_)
                · refine zw_iconst (v := 0) X dX8_faultOf_138 ik_0 ?_
                  refine zw_istore_1 X dX8_faultOf_139 ?_
                  refine zw_iinc_2_p1 X dX8_faultOf_140 ?_
                  refine zw_goto (tgt := 4) X dX8_faultOf_143 (by decide) ?_
                  refine zw_fg_3 ?_
                  refine zw_fg_4 ?_
                  refine zw_fg_5 ?_
                  exact ih (by first | (simp only [mBad, mFits, c_22, c_28, eq_true c_34, c_45, eq_true c_71, c_108, c_124, decide_true, decide_false, Bool.and_true, Bool.true_and, Bool.and_false, Bool.false_and, Bool.or_true, Bool.true_or, Bool.or_false, Bool.false_or, Bool.not_true, Bool.not_false, if_true, if_false, ite_true, ite_false, Bool.false_eq_true, not_true_eq_false, not_false_eq_true, bI_t, bI_f, decide_eq_true_eq, reduceCtorEq]; done) | (simp [mBad, mFits, c_22, c_28, eq_true c_34, c_45, eq_true c_71, c_108, c_124]; done) | simp_all) _ _ (by first | (simp only [mW_succ, mNext, c_22, c_28, eq_true c_34, c_45, eq_true c_71, c_108, c_124, decide_true, decide_false, Bool.and_true, Bool.true_and, Bool.and_false, Bool.false_and, Bool.or_true, Bool.true_or, Bool.or_false, Bool.false_or, Bool.not_true, Bool.not_false, if_true, if_false, ite_true, ite_false, Bool.false_eq_true, not_true_eq_false, not_false_eq_true, bI_t, bI_f, decide_eq_true_eq, reduceCtorEq]; done) | (simp [mW_succ, mNext, c_22, c_28, eq_true c_34, c_45, eq_true c_71, c_108, c_124]; done) | simp_all) (nI_1 j)
                · refine zw_iload_3 X dX8_faultOf_127 ?_
                  refine zw_cS_ii X dX8_faultOf_128 lk_X8_91 ok_MX8_isDigit st_MX8_isDigit rm_X8_faultOf_X8_isDigit (Nat.le_of_ble_eq_true rfl) t_X8_isDigit ?_
                  refine zw_ifeqB (tgt := 138) X dX8_faultOf_131 (by decide) (fun c_131 => ?_) (fun c_131 => ?_)
                  · refine zw_iconst (v := 0) X dX8_faultOf_138 ik_0 ?_
                    refine zw_istore_1 X dX8_faultOf_139 ?_
                    refine zw_iinc_2_p1 X dX8_faultOf_140 ?_
                    refine zw_goto (tgt := 4) X dX8_faultOf_143 (by decide) ?_
                    refine zw_fg_3 ?_
                    refine zw_fg_4 ?_
                    refine zw_fg_5 ?_
                    exact ih (by first | (simp only [mBad, mFits, c_22, c_28, eq_true c_34, c_45, eq_true c_71, c_108, eq_true c_124, c_131, decide_true, decide_false, Bool.and_true, Bool.true_and, Bool.and_false, Bool.false_and, Bool.or_true, Bool.true_or, Bool.or_false, Bool.false_or, Bool.not_true, Bool.not_false, if_true, if_false, ite_true, ite_false, Bool.false_eq_true, not_true_eq_false, not_false_eq_true, bI_t, bI_f, decide_eq_true_eq, reduceCtorEq]; done) | (simp [mBad, mFits, c_22, c_28, eq_true c_34, c_45, eq_true c_71, c_108, eq_true c_124, c_131]; done) | simp_all) _ _ (by first | (simp only [mW_succ, mNext, c_22, c_28, eq_true c_34, c_45, eq_true c_71, c_108, eq_true c_124, c_131, decide_true, decide_false, Bool.and_true, Bool.true_and, Bool.and_false, Bool.false_and, Bool.or_true, Bool.true_or, Bool.or_false, Bool.false_or, Bool.not_true, Bool.not_false, if_true, if_false, ite_true, ite_false, Bool.false_eq_true, not_true_eq_false, not_false_eq_true, bI_t, bI_f, decide_eq_true_eq, reduceCtorEq]; done) | (simp [mW_succ, mNext, c_22, c_28, eq_true c_34, c_45, eq_true c_71, c_108, eq_true c_124, c_131]; done) | simp_all) (nI_1 j)
                  · refine zw_iconst (v := 2) X dX8_faultOf_134 ik_2 ?_
                    refine zw_goto (tgt := 139) X dX8_faultOf_135 (by decide) ?_
                    refine zw_istore_1 X dX8_faultOf_139 ?_
                    refine zw_iinc_2_p1 X dX8_faultOf_140 ?_
                    refine zw_goto (tgt := 4) X dX8_faultOf_143 (by decide) ?_
                    refine zw_fg_3 ?_
                    refine zw_fg_4 ?_
                    refine zw_fg_5 ?_
                    exact ih (by first | (simp only [mBad, mFits, c_22, c_28, eq_true c_34, c_45, eq_true c_71, c_108, eq_true c_124, c_131, decide_true, decide_false, Bool.and_true, Bool.true_and, Bool.and_false, Bool.false_and, Bool.or_true, Bool.true_or, Bool.or_false, Bool.false_or, Bool.not_true, Bool.not_false, if_true, if_false, ite_true, ite_false, Bool.false_eq_true, not_true_eq_false, not_false_eq_true, bI_t, bI_f, decide_eq_true_eq, reduceCtorEq]; done) | (simp [mBad, mFits, c_22, c_28, eq_true c_34, c_45, eq_true c_71, c_108, eq_true c_124, c_131]; done) | simp_all) _ _ (by first | (simp only [mW_succ, mNext, c_22, c_28, eq_true c_34, c_45, eq_true c_71, c_108, eq_true c_124, c_131, decide_true, decide_false, Bool.and_true, Bool.true_and, Bool.and_false, Bool.false_and, Bool.or_true, Bool.true_or, Bool.or_false, Bool.false_or, Bool.not_true, Bool.not_false, if_true, if_false, ite_true, ite_false, Bool.false_eq_true, not_true_eq_false, not_false_eq_true, bI_t, bI_f, decide_eq_true_eq, reduceCtorEq]; done) | (simp [mW_succ, mNext, c_22, c_28, eq_true c_34, c_45, eq_true c_71, c_108, eq_true c_124, c_131]; done) | simp_all) (nI_1 j)
              · refine zw_iload_3 X dX8_faultOf_111 ?_
                refine zw_cS_ii X dX8_faultOf_112 lk_X8_88 ok_MX8_isLetter st_MX8_isLetter rm_X8_faultOf_X8_isLetter (Nat.le_of_ble_eq_true rfl) t_X8_isLetter ?_
                refine zw_ifeqB (tgt := 122) X dX8_faultOf_115 (by decide) (fun c_115 => ?_) (fun c_115 => ?_)
                · refine zw_iload_1 X dX8_faultOf_122 ?_
                  refine zw_iconst (v := 1) X dX8_faultOf_123 ik_1 ?_
                  refine zw_icmpne (tgt := 138) X dX8_faultOf_124 (by decide) (fun c_124 => ?_) (fun c_124 => ?_)
                  · refine zw_iconst (v := 0) X dX8_faultOf_138 ik_0 ?_
                    refine zw_istore_1 X dX8_faultOf_139 ?_
                    refine zw_iinc_2_p1 X dX8_faultOf_140 ?_
                    refine zw_goto (tgt := 4) X dX8_faultOf_143 (by decide) ?_
                    refine zw_fg_3 ?_
                    refine zw_fg_4 ?_
                    refine zw_fg_5 ?_
                    exact ih (by first | (simp only [mBad, mFits, c_22, c_28, eq_true c_34, c_45, eq_true c_71, eq_true c_108, c_115, c_124, decide_true, decide_false, Bool.and_true, Bool.true_and, Bool.and_false, Bool.false_and, Bool.or_true, Bool.true_or, Bool.or_false, Bool.false_or, Bool.not_true, Bool.not_false, if_true, if_false, ite_true, ite_false, Bool.false_eq_true, not_true_eq_false, not_false_eq_true, bI_t, bI_f, decide_eq_true_eq, reduceCtorEq]; done) | (simp [mBad, mFits, c_22, c_28, eq_true c_34, c_45, eq_true c_71, eq_true c_108, c_115, c_124]; done) | simp_all) _ _ (by first | (simp only [mW_succ, mNext, c_22, c_28, eq_true c_34, c_45, eq_true c_71, eq_true c_108, c_115, c_124, decide_true, decide_false, Bool.and_true, Bool.true_and, Bool.and_false, Bool.false_and, Bool.or_true, Bool.true_or, Bool.or_false, Bool.false_or, Bool.not_true, Bool.not_false, if_true, if_false, ite_true, ite_false, Bool.false_eq_true, not_true_eq_false, not_false_eq_true, bI_t, bI_f, decide_eq_true_eq, reduceCtorEq]; done) | (simp [mW_succ, mNext, c_22, c_28, eq_true c_34, c_45, eq_true c_71, eq_true c_108, c_115, c_124]; done) | simp_all) (nI_1 j)
                  · refine zw_iload_3 X dX8_faultOf_127 ?_
                    refine zw_cS_ii X dX8_faultOf_128 lk_X8_91 ok_MX8_isDigit st_MX8_isDigit rm_X8_faultOf_X8_isDigit (Nat.le_of_ble_eq_true rfl) t_X8_isDigit ?_
                    refine zw_ifeqB (tgt := 138) X dX8_faultOf_131 (by decide) (fun c_131 => ?_) (fun c_131 => ?_)
                    · refine zw_iconst (v := 0) X dX8_faultOf_138 ik_0 ?_
                      refine zw_istore_1 X dX8_faultOf_139 ?_
                      refine zw_iinc_2_p1 X dX8_faultOf_140 ?_
                      refine zw_goto (tgt := 4) X dX8_faultOf_143 (by decide) ?_
                      refine zw_fg_3 ?_
                      refine zw_fg_4 ?_
                      refine zw_fg_5 ?_
                      exact ih (by first | (simp only [mBad, mFits, c_22, c_28, eq_true c_34, c_45, eq_true c_71, eq_true c_108, c_115, eq_true c_124, c_131, decide_true, decide_false, Bool.and_true, Bool.true_and, Bool.and_false, Bool.false_and, Bool.or_true, Bool.true_or, Bool.or_false, Bool.false_or, Bool.not_true, Bool.not_false, if_true, if_false, ite_true, ite_false, Bool.false_eq_true, not_true_eq_false, not_false_eq_true, bI_t, bI_f, decide_eq_true_eq, reduceCtorEq]; done) | (simp [mBad, mFits, c_22, c_28, eq_true c_34, c_45, eq_true c_71, eq_true c_108, c_115, eq_true c_124, c_131]; done) | simp_all) _ _ (by first | (simp only [mW_succ, mNext, c_22, c_28, eq_true c_34, c_45, eq_true c_71, eq_true c_108, c_115, eq_true c_124, c_131, decide_true, decide_false, Bool.and_true, Bool.true_and, Bool.and_false, Bool.false_and, Bool.or_true, Bool.true_or, Bool.or_false, Bool.false_or, Bool.not_true, Bool.not_false, if_true, if_false, ite_true, ite_false, Bool.false_eq_true, not_true_eq_false, not_false_eq_true, bI_t, bI_f, decide_eq_true_eq, reduceCtorEq]; done) | (simp [mW_succ, mNext, c_22, c_28, eq_true c_34, c_45, eq_true c_71, eq_true c_108, c_115, eq_true c_124, c_131]; done) | simp_all) (nI_1 j)
                    · refine zw_iconst (v := 2) X dX8_faultOf_134 ik_2 ?_
                      refine zw_goto (tgt := 139) X dX8_faultOf_135 (by decide) ?_
                      refine zw_istore_1 X dX8_faultOf_139 ?_
                      refine zw_iinc_2_p1 X dX8_faultOf_140 ?_
                      refine zw_goto (tgt := 4) X dX8_faultOf_143 (by decide) ?_
                      refine zw_fg_3 ?_
                      refine zw_fg_4 ?_
                      refine zw_fg_5 ?_
                      exact ih (by first | (simp only [mBad, mFits, c_22, c_28, eq_true c_34, c_45, eq_true c_71, eq_true c_108, c_115, eq_true c_124, c_131, decide_true, decide_false, Bool.and_true, Bool.true_and, Bool.and_false, Bool.false_and, Bool.or_true, Bool.true_or, Bool.or_false, Bool.false_or, Bool.not_true, Bool.not_false, if_true, if_false, ite_true, ite_false, Bool.false_eq_true, not_true_eq_false, not_false_eq_true, bI_t, bI_f, decide_eq_true_eq, reduceCtorEq]; done) | (simp [mBad, mFits, c_22, c_28, eq_true c_34, c_45, eq_true c_71, eq_true c_108, c_115, eq_true c_124, c_131]; done) | simp_all) _ _ (by first | (simp only [mW_succ, mNext, c_22, c_28, eq_true c_34, c_45, eq_true c_71, eq_true c_108, c_115, eq_true c_124, c_131, decide_true, decide_false, Bool.and_true, Bool.true_and, Bool.and_false, Bool.false_and, Bool.or_true, Bool.true_or, Bool.or_false, Bool.false_or, Bool.not_true, Bool.not_false, if_true, if_false, ite_true, ite_false, Bool.false_eq_true, not_true_eq_false, not_false_eq_true, bI_t, bI_f, decide_eq_true_eq, reduceCtorEq]; done) | (simp [mW_succ, mNext, c_22, c_28, eq_true c_34, c_45, eq_true c_71, eq_true c_108, c_115, eq_true c_124, c_131]; done) | simp_all) (nI_1 j)
                · refine zw_iconst (v := 1) X dX8_faultOf_118 ik_1 ?_
                  refine zw_goto (tgt := 139) X dX8_faultOf_119 (by decide) ?_
                  refine zw_istore_1 X dX8_faultOf_139 ?_
                  refine zw_iinc_2_p1 X dX8_faultOf_140 ?_
                  refine zw_goto (tgt := 4) X dX8_faultOf_143 (by decide) ?_
                  refine zw_fg_3 ?_
                  refine zw_fg_4 ?_
                  refine zw_fg_5 ?_
                  exact ih (by first | (simp only [mBad, mFits, c_22, c_28, eq_true c_34, c_45, eq_true c_71, eq_true c_108, c_115, decide_true, decide_false, Bool.and_true, Bool.true_and, Bool.and_false, Bool.false_and, Bool.or_true, Bool.true_or, Bool.or_false, Bool.false_or, Bool.not_true, Bool.not_false, if_true, if_false, ite_true, ite_false, Bool.false_eq_true, not_true_eq_false, not_false_eq_true, bI_t, bI_f, decide_eq_true_eq, reduceCtorEq]; done) | (simp [mBad, mFits, c_22, c_28, eq_true c_34, c_45, eq_true c_71, eq_true c_108, c_115]; done) | simp_all) _ _ (by first | (simp only [mW_succ, mNext, c_22, c_28, eq_true c_34, c_45, eq_true c_71, eq_true c_108, c_115, decide_true, decide_false, Bool.and_true, Bool.true_and, Bool.and_false, Bool.false_and, Bool.or_true, Bool.true_or, Bool.or_false, Bool.false_or, Bool.not_true, Bool.not_false, if_true, if_false, ite_true, ite_false, Bool.false_eq_true, not_true_eq_false, not_false_eq_true, bI_t, bI_f, decide_eq_true_eq, reduceCtorEq]; done) | (simp [mW_succ, mNext, c_22, c_28, eq_true c_34, c_45, eq_true c_71, eq_true c_108, c_115]; done) | simp_all) (nI_1 j)
          · refine zw_iload_3 X dX8_faultOf_48 ?_
            refine zw_cS_ii X dX8_faultOf_49 lk_X8_88 ok_MX8_isLetter st_MX8_isLetter rm_X8_faultOf_X8_isLetter (Nat.le_of_ble_eq_true rfl) t_X8_isLetter ?_
            refine zw_ifneB (tgt := 61) X dX8_faultOf_52 (by decide) (fun c_52 => ?_) (fun c_52 => ?_)
            · refine zw_iconst (v := 1) X dX8_faultOf_61 ik_1 ?_
              refine zw_goto (tgt := 98) X dX8_faultOf_62 (by decide) ?_
              refine zw_istore_5 X dX8_faultOf_98 ?_
              refine zw_iload_5 X dX8_faultOf_100 ?_
              refine zw_ifne_t (tgt := 107) X dX8_faultOf_102 (by decide) (by decide) ?_
              refine zw_iload_1 X dX8_faultOf_107 ?_
              refine zw_ifne (tgt := 122) X dX8_faultOf_108 (by decide) (fun c_108 => ?_) (fun c_108 => ?_)
              · refine zw_iload_1 X dX8_faultOf_122 ?_
                refine zw_iconst (v := 1) X dX8_faultOf_123 ik_1 ?_
                refine zw_icmpne (tgt := 138) X dX8_faultOf_124 (by decide) (fun c_124 => ?_) (fun c_124 => ?_)
                · refine zw_iconst (v := 0) X dX8_faultOf_138 ik_0 ?_
                  refine zw_istore_1 X dX8_faultOf_139 ?_
                  refine zw_iinc_2_p1 X dX8_faultOf_140 ?_
                  refine zw_goto (tgt := 4) X dX8_faultOf_143 (by decide) ?_
                  refine zw_fg_3 ?_
                  refine zw_fg_4 ?_
                  refine zw_fg_5 ?_
                  exact ih (by first | (simp only [mBad, mFits, c_22, c_28, eq_true c_34, eq_true c_45, c_52, c_108, c_124, decide_true, decide_false, Bool.and_true, Bool.true_and, Bool.and_false, Bool.false_and, Bool.or_true, Bool.true_or, Bool.or_false, Bool.false_or, Bool.not_true, Bool.not_false, if_true, if_false, ite_true, ite_false, Bool.false_eq_true, not_true_eq_false, not_false_eq_true, bI_t, bI_f, decide_eq_true_eq, reduceCtorEq]; done) | (simp [mBad, mFits, c_22, c_28, eq_true c_34, eq_true c_45, c_52, c_108, c_124]; done) | simp_all) _ _ (by first | (simp only [mW_succ, mNext, c_22, c_28, eq_true c_34, eq_true c_45, c_52, c_108, c_124, decide_true, decide_false, Bool.and_true, Bool.true_and, Bool.and_false, Bool.false_and, Bool.or_true, Bool.true_or, Bool.or_false, Bool.false_or, Bool.not_true, Bool.not_false, if_true, if_false, ite_true, ite_false, Bool.false_eq_true, not_true_eq_false, not_false_eq_true, bI_t, bI_f, decide_eq_true_eq, reduceCtorEq]; done) | (simp [mW_succ, mNext, c_22, c_28, eq_true c_34, eq_true c_45, c_52, c_108, c_124]; done) | simp_all) (nI_1 j)
                · refine zw_iload_3 X dX8_faultOf_127 ?_
                  refine zw_cS_ii X dX8_faultOf_128 lk_X8_91 ok_MX8_isDigit st_MX8_isDigit rm_X8_faultOf_X8_isDigit (Nat.le_of_ble_eq_true rfl) t_X8_isDigit ?_
                  refine zw_ifeqB (tgt := 138) X dX8_faultOf_131 (by decide) (fun c_131 => ?_) (fun c_131 => ?_)
                  · refine zw_iconst (v := 0) X dX8_faultOf_138 ik_0 ?_
                    refine zw_istore_1 X dX8_faultOf_139 ?_
                    refine zw_iinc_2_p1 X dX8_faultOf_140 ?_
                    refine zw_goto (tgt := 4) X dX8_faultOf_143 (by decide) ?_
                    refine zw_fg_3 ?_
                    refine zw_fg_4 ?_
                    refine zw_fg_5 ?_
                    exact ih (by first | (simp only [mBad, mFits, c_22, c_28, eq_true c_34, eq_true c_45, c_52, c_108, eq_true c_124, c_131, decide_true, decide_false, Bool.and_true, Bool.true_and, Bool.and_false, Bool.false_and, Bool.or_true, Bool.true_or, Bool.or_false, Bool.false_or, Bool.not_true, Bool.not_false, if_true, if_false, ite_true, ite_false, Bool.false_eq_true, not_true_eq_false, not_false_eq_true, bI_t, bI_f, decide_eq_true_eq, reduceCtorEq]; done) | (simp [mBad, mFits, c_22, c_28, eq_true c_34, eq_true c_45, c_52, c_108, eq_true c_124, c_131]; done) | simp_all) _ _ (by first | (simp only [mW_succ, mNext, c_22, c_28, eq_true c_34, eq_true c_45, c_52, c_108, eq_true c_124, c_131, decide_true, decide_false, Bool.and_true, Bool.true_and, Bool.and_false, Bool.false_and, Bool.or_true, Bool.true_or, Bool.or_false, Bool.false_or, Bool.not_true, Bool.not_false, if_true, if_false, ite_true, ite_false, Bool.false_eq_true, not_true_eq_false, not_false_eq_true, bI_t, bI_f, decide_eq_true_eq, reduceCtorEq]; done) | (simp [mW_succ, mNext, c_22, c_28, eq_true c_34, eq_true c_45, c_52, c_108, eq_true c_124, c_131]; done) | simp_all) (nI_1 j)
                  · refine zw_iconst (v := 2) X dX8_faultOf_134 ik_2 ?_
                    refine zw_goto (tgt := 139) X dX8_faultOf_135 (by decide) ?_
                    refine zw_istore_1 X dX8_faultOf_139 ?_
                    refine zw_iinc_2_p1 X dX8_faultOf_140 ?_
                    refine zw_goto (tgt := 4) X dX8_faultOf_143 (by decide) ?_
                    refine zw_fg_3 ?_
                    refine zw_fg_4 ?_
                    refine zw_fg_5 ?_
                    exact ih (by first | (simp only [mBad, mFits, c_22, c_28, eq_true c_34, eq_true c_45, c_52, c_108, eq_true c_124, c_131, decide_true, decide_false, Bool.and_true, Bool.true_and, Bool.and_false, Bool.false_and, Bool.or_true, Bool.true_or, Bool.or_false, Bool.false_or, Bool.not_true, Bool.not_false, if_true, if_false, ite_true, ite_false, Bool.false_eq_true, not_true_eq_false, not_false_eq_true, bI_t, bI_f, decide_eq_true_eq, reduceCtorEq]; done) | (simp [mBad, mFits, c_22, c_28, eq_true c_34, eq_true c_45, c_52, c_108, eq_true c_124, c_131]; done) | simp_all) _ _ (by first | (simp only [mW_succ, mNext, c_22, c_28, eq_true c_34, eq_true c_45, c_52, c_108, eq_true c_124, c_131, decide_true, decide_false, Bool.and_true, Bool.true_and, Bool.and_false, Bool.false_and, Bool.or_true, Bool.true_or, Bool.or_false, Bool.false_or, Bool.not_true, Bool.not_false, if_true, if_false, ite_true, ite_false, Bool.false_eq_true, not_true_eq_false, not_false_eq_true, bI_t, bI_f, decide_eq_true_eq, reduceCtorEq]; done) | (simp [mW_succ, mNext, c_22, c_28, eq_true c_34, eq_true c_45, c_52, c_108, eq_true c_124, c_131]; done) | simp_all) (nI_1 j)
              · refine zw_iload_3 X dX8_faultOf_111 ?_
                refine zw_cS_ii X dX8_faultOf_112 lk_X8_88 ok_MX8_isLetter st_MX8_isLetter rm_X8_faultOf_X8_isLetter (Nat.le_of_ble_eq_true rfl) t_X8_isLetter ?_
                refine zw_ifeqB (tgt := 122) X dX8_faultOf_115 (by decide) (fun c_115 => ?_) (fun c_115 => ?_)
                · refine zw_iload_1 X dX8_faultOf_122 ?_
                  refine zw_iconst (v := 1) X dX8_faultOf_123 ik_1 ?_
                  refine zw_icmpne (tgt := 138) X dX8_faultOf_124 (by decide) (fun c_124 => ?_) (fun c_124 => ?_)
                  · refine zw_iconst (v := 0) X dX8_faultOf_138 ik_0 ?_
                    refine zw_istore_1 X dX8_faultOf_139 ?_
                    refine zw_iinc_2_p1 X dX8_faultOf_140 ?_
                    refine zw_goto (tgt := 4) X dX8_faultOf_143 (by decide) ?_
                    refine zw_fg_3 ?_
                    refine zw_fg_4 ?_
                    refine zw_fg_5 ?_
                    exact ih (by first | (simp only [mBad, mFits, c_22, c_28, eq_true c_34, eq_true c_45, c_52, eq_true c_108, c_115, c_124, decide_true, decide_false, Bool.and_true, Bool.true_and, Bool.and_false, Bool.false_and, Bool.or_true, Bool.true_or, Bool.or_false, Bool.false_or, Bool.not_true, Bool.not_false, if_true, if_false, ite_true, ite_false, Bool.false_eq_true, not_true_eq_false, not_false_eq_true, bI_t, bI_f, decide_eq_true_eq, reduceCtorEq]; done) | (simp [mBad, mFits, c_22, c_28, eq_true c_34, eq_true c_45, c_52, eq_true c_108, c_115, c_124]; done) | simp_all) _ _ (by first | (simp only [mW_succ, mNext, c_22, c_28, eq_true c_34, eq_true c_45, c_52, eq_true c_108, c_115, c_124, decide_true, decide_false, Bool.and_true, Bool.true_and, Bool.and_false, Bool.false_and, Bool.or_true, Bool.true_or, Bool.or_false, Bool.false_or, Bool.not_true, Bool.not_false, if_true, if_false, ite_true, ite_false, Bool.false_eq_true, not_true_eq_false, not_false_eq_true, bI_t, bI_f, decide_eq_true_eq, reduceCtorEq]; done) | (simp [mW_succ, mNext, c_22, c_28, eq_true c_34, eq_true c_45, c_52, eq_true c_108, c_115, c_124]; done) | simp_all) (nI_1 j)
                  · refine zw_iload_3 X dX8_faultOf_127 ?_
                    refine zw_cS_ii X dX8_faultOf_128 lk_X8_91 ok_MX8_isDigit st_MX8_isDigit rm_X8_faultOf_X8_isDigit (Nat.le_of_ble_eq_true rfl) t_X8_isDigit ?_
                    refine zw_ifeqB (tgt := 138) X dX8_faultOf_131 (by decide) (fun c_131 => ?_) (fun c_131 => ?_)
                    · refine zw_iconst (v := 0) X dX8_faultOf_138 ik_0 ?_
                      refine zw_istore_1 X dX8_faultOf_139 ?_
                      refine zw_iinc_2_p1 X dX8_faultOf_140 ?_
                      refine zw_goto (tgt := 4) X dX8_faultOf_143 (by decide) ?_
                      refine zw_fg_3 ?_
                      refine zw_fg_4 ?_
                      refine zw_fg_5 ?_
                      exact ih (by first | (simp only [mBad, mFits, c_22, c_28, eq_true c_34, eq_true c_45, c_52, eq_true c_108, c_115, eq_true c_124, c_131, decide_true, decide_false, Bool.and_true, Bool.true_and, Bool.and_false, Bool.false_and, Bool.or_true, Bool.true_or, Bool.or_false, Bool.false_or, Bool.not_true, Bool.not_false, if_true, if_false, ite_true, ite_false, Bool.false_eq_true, not_true_eq_false, not_false_eq_true, bI_t, bI_f, decide_eq_true_eq, reduceCtorEq]; done) | (simp [mBad, mFits, c_22, c_28, eq_true c_34, eq_true c_45, c_52, eq_true c_108, c_115, eq_true c_124, c_131]; done) | simp_all) _ _ (by first | (simp only [mW_succ, mNext, c_22, c_28, eq_true c_34, eq_true c_45, c_52, eq_true c_108, c_115, eq_true c_124, c_131, decide_true, decide_false, Bool.and_true, Bool.true_and, Bool.and_false, Bool.false_and, Bool.or_true, Bool.true_or, Bool.or_false, Bool.false_or, Bool.not_true, Bool.not_false, if_true, if_false, ite_true, ite_false, Bool.false_eq_true, not_true_eq_false, not_false_eq_true, bI_t, bI_f, decide_eq_true_eq, reduceCtorEq]; done) | (simp [mW_succ, mNext, c_22, c_28, eq_true c_34, eq_true c_45, c_52, eq_true c_108, c_115, eq_true c_124, c_131]; done) | simp_all) (nI_1 j)
                    · refine zw_iconst (v := 2) X dX8_faultOf_134 ik_2 ?_
                      refine zw_goto (tgt := 139) X dX8_faultOf_135 (by decide) ?_
                      refine zw_istore_1 X dX8_faultOf_139 ?_
                      refine zw_iinc_2_p1 X dX8_faultOf_140 ?_
                      refine zw_goto (tgt := 4) X dX8_faultOf_143 (by decide) ?_
                      refine zw_fg_3 ?_
                      refine zw_fg_4 ?_
                      refine zw_fg_5 ?_
                      exact ih (by first | (simp only [mBad, mFits, c_22, c_28, eq_true c_34, eq_true c_45, c_52, eq_true c_108, c_115, eq_true c_124, c_131, decide_true, decide_false, Bool.and_true, Bool.true_and, Bool.and_false, Bool.false_and, Bool.or_true, Bool.true_or, Bool.or_false, Bool.false_or, Bool.not_true, Bool.not_false, if_true, if_false, ite_true, ite_false, Bool.false_eq_true, not_true_eq_false, not_false_eq_true, bI_t, bI_f, decide_eq_true_eq, reduceCtorEq]; done) | (simp [mBad, mFits, c_22, c_28, eq_true c_34, eq_true c_45, c_52, eq_true c_108, c_115, eq_true c_124, c_131]; done) | simp_all) _ _ (by first | (simp only [mW_succ, mNext, c_22, c_28, eq_true c_34, eq_true c_45, c_52, eq_true c_108, c_115, eq_true c_124, c_131, decide_true, decide_false, Bool.and_true, Bool.true_and, Bool.and_false, Bool.false_and, Bool.or_true, Bool.true_or, Bool.or_false, Bool.false_or, Bool.not_true, Bool.not_false, if_true, if_false, ite_true, ite_false, Bool.false_eq_true, not_true_eq_false, not_false_eq_true, bI_t, bI_f, decide_eq_true_eq, reduceCtorEq]; done) | (simp [mW_succ, mNext, c_22, c_28, eq_true c_34, eq_true c_45, c_52, eq_true c_108, c_115, eq_true c_124, c_131]; done) | simp_all) (nI_1 j)
                · refine zw_iconst (v := 1) X dX8_faultOf_118 ik_1 ?_
                  refine zw_goto (tgt := 139) X dX8_faultOf_119 (by decide) ?_
                  refine zw_istore_1 X dX8_faultOf_139 ?_
                  refine zw_iinc_2_p1 X dX8_faultOf_140 ?_
                  refine zw_goto (tgt := 4) X dX8_faultOf_143 (by decide) ?_
                  refine zw_fg_3 ?_
                  refine zw_fg_4 ?_
                  refine zw_fg_5 ?_
                  exact ih (by first | (simp only [mBad, mFits, c_22, c_28, eq_true c_34, eq_true c_45, c_52, eq_true c_108, c_115, decide_true, decide_false, Bool.and_true, Bool.true_and, Bool.and_false, Bool.false_and, Bool.or_true, Bool.true_or, Bool.or_false, Bool.false_or, Bool.not_true, Bool.not_false, if_true, if_false, ite_true, ite_false, Bool.false_eq_true, not_true_eq_false, not_false_eq_true, bI_t, bI_f, decide_eq_true_eq, reduceCtorEq]; done) | (simp [mBad, mFits, c_22, c_28, eq_true c_34, eq_true c_45, c_52, eq_true c_108, c_115]; done) | simp_all) _ _ (by first | (simp only [mW_succ, mNext, c_22, c_28, eq_true c_34, eq_true c_45, c_52, eq_true c_108, c_115, decide_true, decide_false, Bool.and_true, Bool.true_and, Bool.and_false, Bool.false_and, Bool.or_true, Bool.true_or, Bool.or_false, Bool.false_or, Bool.not_true, Bool.not_false, if_true, if_false, ite_true, ite_false, Bool.false_eq_true, not_true_eq_false, not_false_eq_true, bI_t, bI_f, decide_eq_true_eq, reduceCtorEq]; done) | (simp [mW_succ, mNext, c_22, c_28, eq_true c_34, eq_true c_45, c_52, eq_true c_108, c_115]; done) | simp_all) (nI_1 j)
            · refine zw_iload_3 X dX8_faultOf_55 ?_
              refine zw_bipush (v := 46) X dX8_faultOf_56 bk_46 ?_
              refine zw_icmpne (tgt := 65) X dX8_faultOf_58 (by decide) (fun c_58 => ?_) (fun c_58 => ?_)
              · refine zw_iconst (v := 0) X dX8_faultOf_65 ik_0 ?_
                refine zw_goto (tgt := 98) X dX8_faultOf_66 (by decide) ?_
                refine zw_istore_5 X dX8_faultOf_98 ?_
                refine zw_iload_5 X dX8_faultOf_100 ?_
                refine zw_ifne_f (tgt := 107) X dX8_faultOf_102 (by decide) (by decide) ?_
                refine zw_iload_2 X dX8_faultOf_105 ?_
                exact zw_iret X F dX8_faultOf_106 rfl (by rw [mFault, fstB_at (P := mBad (σ 49)) (by first | (simp only [mBad, mFits, c_22, c_28, eq_true c_34, eq_true c_45, c_52, c_58, decide_true, decide_false, Bool.and_true, Bool.true_and, Bool.and_false, Bool.false_and, Bool.or_true, Bool.true_or, Bool.or_false, Bool.false_or, Bool.not_true, Bool.not_false, if_true, if_false, ite_true, ite_false, Bool.false_eq_true, not_true_eq_false, not_false_eq_true, bI_t, bI_f, decide_eq_true_eq, reduceCtorEq]; done) | (simp [mBad, mFits, c_22, c_28, eq_true c_34, eq_true c_45, c_52, c_58]; done) | simp_all) hb hj, if_pos hj]) (rfl)
              · refine zw_iconst (v := 1) X dX8_faultOf_61 ik_1 ?_
                refine zw_goto (tgt := 98) X dX8_faultOf_62 (by decide) ?_
                refine zw_istore_5 X dX8_faultOf_98 ?_
                refine zw_iload_5 X dX8_faultOf_100 ?_
                refine zw_ifne_t (tgt := 107) X dX8_faultOf_102 (by decide) (by decide) ?_
                refine zw_iload_1 X dX8_faultOf_107 ?_
                refine zw_ifne (tgt := 122) X dX8_faultOf_108 (by decide) (fun c_108 => ?_) (fun c_108 => ?_)
                · refine zw_iload_1 X dX8_faultOf_122 ?_
                  refine zw_iconst (v := 1) X dX8_faultOf_123 ik_1 ?_
                  refine zw_icmpne (tgt := 138) X dX8_faultOf_124 (by decide) (fun c_124 => ?_) (fun c_124 => ?_)
                  · refine zw_iconst (v := 0) X dX8_faultOf_138 ik_0 ?_
                    refine zw_istore_1 X dX8_faultOf_139 ?_
                    refine zw_iinc_2_p1 X dX8_faultOf_140 ?_
                    refine zw_goto (tgt := 4) X dX8_faultOf_143 (by decide) ?_
                    refine zw_fg_3 ?_
                    refine zw_fg_4 ?_
                    refine zw_fg_5 ?_
                    exact ih (by first | (simp only [mBad, mFits, c_22, c_28, eq_true c_34, eq_true c_45, c_52, eq_true c_58, c_108, c_124, decide_true, decide_false, Bool.and_true, Bool.true_and, Bool.and_false, Bool.false_and, Bool.or_true, Bool.true_or, Bool.or_false, Bool.false_or, Bool.not_true, Bool.not_false, if_true, if_false, ite_true, ite_false, Bool.false_eq_true, not_true_eq_false, not_false_eq_true, bI_t, bI_f, decide_eq_true_eq, reduceCtorEq]; done) | (simp [mBad, mFits, c_22, c_28, eq_true c_34, eq_true c_45, c_52, eq_true c_58, c_108, c_124]; done) | simp_all) _ _ (by first | (simp only [mW_succ, mNext, c_22, c_28, eq_true c_34, eq_true c_45, c_52, eq_true c_58, c_108, c_124, decide_true, decide_false, Bool.and_true, Bool.true_and, Bool.and_false, Bool.false_and, Bool.or_true, Bool.true_or, Bool.or_false, Bool.false_or, Bool.not_true, Bool.not_false, if_true, if_false, ite_true, ite_false, Bool.false_eq_true, not_true_eq_false, not_false_eq_true, bI_t, bI_f, decide_eq_true_eq, reduceCtorEq]; done) | (simp [mW_succ, mNext, c_22, c_28, eq_true c_34, eq_true c_45, c_52, eq_true c_58, c_108, c_124]; done) | simp_all) (nI_1 j)
                  · refine zw_iload_3 X dX8_faultOf_127 ?_
                    refine zw_cS_ii X dX8_faultOf_128 lk_X8_91 ok_MX8_isDigit st_MX8_isDigit rm_X8_faultOf_X8_isDigit (Nat.le_of_ble_eq_true rfl) t_X8_isDigit ?_
                    refine zw_ifeqB (tgt := 138) X dX8_faultOf_131 (by decide) (fun c_131 => ?_) (fun c_131 => ?_)
                    · refine zw_iconst (v := 0) X dX8_faultOf_138 ik_0 ?_
                      refine zw_istore_1 X dX8_faultOf_139 ?_
                      refine zw_iinc_2_p1 X dX8_faultOf_140 ?_
                      refine zw_goto (tgt := 4) X dX8_faultOf_143 (by decide) ?_
                      refine zw_fg_3 ?_
                      refine zw_fg_4 ?_
                      refine zw_fg_5 ?_
                      exact ih (by first | (simp only [mBad, mFits, c_22, c_28, eq_true c_34, eq_true c_45, c_52, eq_true c_58, c_108, eq_true c_124, c_131, decide_true, decide_false, Bool.and_true, Bool.true_and, Bool.and_false, Bool.false_and, Bool.or_true, Bool.true_or, Bool.or_false, Bool.false_or, Bool.not_true, Bool.not_false, if_true, if_false, ite_true, ite_false, Bool.false_eq_true, not_true_eq_false, not_false_eq_true, bI_t, bI_f, decide_eq_true_eq, reduceCtorEq]; done) | (simp [mBad, mFits, c_22, c_28, eq_true c_34, eq_true c_45, c_52, eq_true c_58, c_108, eq_true c_124, c_131]; done) | simp_all) _ _ (by first | (simp only [mW_succ, mNext, c_22, c_28, eq_true c_34, eq_true c_45, c_52, eq_true c_58, c_108, eq_true c_124, c_131, decide_true, decide_false, Bool.and_true, Bool.true_and, Bool.and_false, Bool.false_and, Bool.or_true, Bool.true_or, Bool.or_false, Bool.false_or, Bool.not_true, Bool.not_false, if_true, if_false, ite_true, ite_false, Bool.false_eq_true, not_true_eq_false, not_false_eq_true, bI_t, bI_f, decide_eq_true_eq, reduceCtorEq]; done) | (simp [mW_succ, mNext, c_22, c_28, eq_true c_34, eq_true c_45, c_52, eq_true c_58, c_108, eq_true c_124, c_131]; done) | simp_all) (nI_1 j)
                    · refine zw_iconst (v := 2) X dX8_faultOf_134 ik_2 ?_
                      refine zw_goto (tgt := 139) X dX8_faultOf_135 (by decide) ?_
                      refine zw_istore_1 X dX8_faultOf_139 ?_
                      refine zw_iinc_2_p1 X dX8_faultOf_140 ?_
                      refine zw_goto (tgt := 4) X dX8_faultOf_143 (by decide) ?_
                      refine zw_fg_3 ?_
                      refine zw_fg_4 ?_
                      refine zw_fg_5 ?_
                      exact ih (by first | (simp only [mBad, mFits, c_22, c_28, eq_true c_34, eq_true c_45, c_52, eq_true c_58, c_108, eq_true c_124, c_131, decide_true, decide_false, Bool.and_true, Bool.true_and, Bool.and_false, Bool.false_and, Bool.or_true, Bool.true_or, Bool.or_false, Bool.false_or, Bool.not_true, Bool.not_false, if_true, if_false, ite_true, ite_false, Bool.false_eq_true, not_true_eq_false, not_false_eq_true, bI_t, bI_f, decide_eq_true_eq, reduceCtorEq]; done) | (simp [mBad, mFits, c_22, c_28, eq_true c_34, eq_true c_45, c_52, eq_true c_58, c_108, eq_true c_124, c_131]; done) | simp_all) _ _ (by first | (simp only [mW_succ, mNext, c_22, c_28, eq_true c_34, eq_true c_45, c_52, eq_true c_58, c_108, eq_true c_124, c_131, decide_true, decide_false, Bool.and_true, Bool.true_and, Bool.and_false, Bool.false_and, Bool.or_true, Bool.true_or, Bool.or_false, Bool.false_or, Bool.not_true, Bool.not_false, if_true, if_false, ite_true, ite_false, Bool.false_eq_true, not_true_eq_false, not_false_eq_true, bI_t, bI_f, decide_eq_true_eq, reduceCtorEq]; done) | (simp [mW_succ, mNext, c_22, c_28, eq_true c_34, eq_true c_45, c_52, eq_true c_58, c_108, eq_true c_124, c_131]; done) | simp_all) (nI_1 j)
                · refine zw_iload_3 X dX8_faultOf_111 ?_
                  refine zw_cS_ii X dX8_faultOf_112 lk_X8_88 ok_MX8_isLetter st_MX8_isLetter rm_X8_faultOf_X8_isLetter (Nat.le_of_ble_eq_true rfl) t_X8_isLetter ?_
                  refine zw_ifeqB (tgt := 122) X dX8_faultOf_115 (by decide) (fun c_115 => ?_) (fun c_115 => ?_)
                  · refine zw_iload_1 X dX8_faultOf_122 ?_
                    refine zw_iconst (v := 1) X dX8_faultOf_123 ik_1 ?_
                    refine zw_icmpne (tgt := 138) X dX8_faultOf_124 (by decide) (fun c_124 => ?_) (fun c_124 => ?_)
                    · refine zw_iconst (v := 0) X dX8_faultOf_138 ik_0 ?_
                      refine zw_istore_1 X dX8_faultOf_139 ?_
                      refine zw_iinc_2_p1 X dX8_faultOf_140 ?_
                      refine zw_goto (tgt := 4) X dX8_faultOf_143 (by decide) ?_
                      refine zw_fg_3 ?_
                      refine zw_fg_4 ?_
                      refine zw_fg_5 ?_
                      exact ih (by first | (simp only [mBad, mFits, c_22, c_28, eq_true c_34, eq_true c_45, c_52, eq_true c_58, eq_true c_108, c_115, c_124, decide_true, decide_false, Bool.and_true, Bool.true_and, Bool.and_false, Bool.false_and, Bool.or_true, Bool.true_or, Bool.or_false, Bool.false_or, Bool.not_true, Bool.not_false, if_true, if_false, ite_true, ite_false, Bool.false_eq_true, not_true_eq_false, not_false_eq_true, bI_t, bI_f, decide_eq_true_eq, reduceCtorEq]; done) | (simp [mBad, mFits, c_22, c_28, eq_true c_34, eq_true c_45, c_52, eq_true c_58, eq_true c_108, c_115, c_124]; done) | simp_all) _ _ (by first | (simp only [mW_succ, mNext, c_22, c_28, eq_true c_34, eq_true c_45, c_52, eq_true c_58, eq_true c_108, c_115, c_124, decide_true, decide_false, Bool.and_true, Bool.true_and, Bool.and_false, Bool.false_and, Bool.or_true, Bool.true_or, Bool.or_false, Bool.false_or, Bool.not_true, Bool.not_false, if_true, if_false, ite_true, ite_false, Bool.false_eq_true, not_true_eq_false, not_false_eq_true, bI_t, bI_f, decide_eq_true_eq, reduceCtorEq]; done) | (simp [mW_succ, mNext, c_22, c_28, eq_true c_34, eq_true c_45, c_52, eq_true c_58, eq_true c_108, c_115, c_124]; done) | simp_all) (nI_1 j)
                    · refine zw_iload_3 X dX8_faultOf_127 ?_
                      refine zw_cS_ii X dX8_faultOf_128 lk_X8_91 ok_MX8_isDigit st_MX8_isDigit rm_X8_faultOf_X8_isDigit (Nat.le_of_ble_eq_true rfl) t_X8_isDigit ?_
                      refine zw_ifeqB (tgt := 138) X dX8_faultOf_131 (by decide) (fun c_131 => ?_) (fun c_131 => ?_)
                      · refine zw_iconst (v := 0) X dX8_faultOf_138 ik_0 ?_
                        refine zw_istore_1 X dX8_faultOf_139 ?_
                        refine zw_iinc_2_p1 X dX8_faultOf_140 ?_
                        refine zw_goto (tgt := 4) X dX8_faultOf_143 (by decide) ?_
                        refine zw_fg_3 ?_
                        refine zw_fg_4 ?_
                        refine zw_fg_5 ?_
                        exact ih (by first | (simp only [mBad, mFits, c_22, c_28, eq_true c_34, eq_true c_45, c_52, eq_true c_58, eq_true c_108, c_115, eq_true c_124, c_131, decide_true, decide_false, Bool.and_true, Bool.true_and, Bool.and_false, Bool.false_and, Bool.or_true, Bool.true_or, Bool.or_false, Bool.false_or, Bool.not_true, Bool.not_false, if_true, if_false, ite_true, ite_false, Bool.false_eq_true, not_true_eq_false, not_false_eq_true, bI_t, bI_f, decide_eq_true_eq, reduceCtorEq]; done) | (simp [mBad, mFits, c_22, c_28, eq_true c_34, eq_true c_45, c_52, eq_true c_58, eq_true c_108, c_115, eq_true c_124, c_131]; done) | simp_all) _ _ (by first | (simp only [mW_succ, mNext, c_22, c_28, eq_true c_34, eq_true c_45, c_52, eq_true c_58, eq_true c_108, c_115, eq_true c_124, c_131, decide_true, decide_false, Bool.and_true, Bool.true_and, Bool.and_false, Bool.false_and, Bool.or_true, Bool.true_or, Bool.or_false, Bool.false_or, Bool.not_true, Bool.not_false, if_true, if_false, ite_true, ite_false, Bool.false_eq_true, not_true_eq_false, not_false_eq_true, bI_t, bI_f, decide_eq_true_eq, reduceCtorEq]; done) | (simp [mW_succ, mNext, c_22, c_28, eq_true c_34, eq_true c_45, c_52, eq_true c_58, eq_true c_108, c_115, eq_true c_124, c_131]; done) | simp_all) (nI_1 j)
                      · refine zw_iconst (v := 2) X dX8_faultOf_134 ik_2 ?_
                        refine zw_goto (tgt := 139) X dX8_faultOf_135 (by decide) ?_
                        refine zw_istore_1 X dX8_faultOf_139 ?_
                        refine zw_iinc_2_p1 X dX8_faultOf_140 ?_
                        refine zw_goto (tgt := 4) X dX8_faultOf_143 (by decide) ?_
                        refine zw_fg_3 ?_
                        refine zw_fg_4 ?_
                        refine zw_fg_5 ?_
                        exact ih (by first | (simp only [mBad, mFits, c_22, c_28, eq_true c_34, eq_true c_45, c_52, eq_true c_58, eq_true c_108, c_115, eq_true c_124, c_131, decide_true, decide_false, Bool.and_true, Bool.true_and, Bool.and_false, Bool.false_and, Bool.or_true, Bool.true_or, Bool.or_false, Bool.false_or, Bool.not_true, Bool.not_false, if_true, if_false, ite_true, ite_false, Bool.false_eq_true, not_true_eq_false, not_false_eq_true, bI_t, bI_f, decide_eq_true_eq, reduceCtorEq]; done) | (simp [mBad, mFits, c_22, c_28, eq_true c_34, eq_true c_45, c_52, eq_true c_58, eq_true c_108, c_115, eq_true c_124, c_131]; done) | simp_all) _ _ (by first | (simp only [mW_succ, mNext, c_22, c_28, eq_true c_34, eq_true c_45, c_52, eq_true c_58, eq_true c_108, c_115, eq_true c_124, c_131, decide_true, decide_false, Bool.and_true, Bool.true_and, Bool.and_false, Bool.false_and, Bool.or_true, Bool.true_or, Bool.or_false, Bool.false_or, Bool.not_true, Bool.not_false, if_true, if_false, ite_true, ite_false, Bool.false_eq_true, not_true_eq_false, not_false_eq_true, bI_t, bI_f, decide_eq_true_eq, reduceCtorEq]; done) | (simp [mW_succ, mNext, c_22, c_28, eq_true c_34, eq_true c_45, c_52, eq_true c_58, eq_true c_108, c_115, eq_true c_124, c_131]; done) | simp_all) (nI_1 j)
                  · refine zw_iconst (v := 1) X dX8_faultOf_118 ik_1 ?_
                    refine zw_goto (tgt := 139) X dX8_faultOf_119 (by decide) ?_
                    refine zw_istore_1 X dX8_faultOf_139 ?_
                    refine zw_iinc_2_p1 X dX8_faultOf_140 ?_
                    refine zw_goto (tgt := 4) X dX8_faultOf_143 (by decide) ?_
                    refine zw_fg_3 ?_
                    refine zw_fg_4 ?_
                    refine zw_fg_5 ?_
                    exact ih (by first | (simp only [mBad, mFits, c_22, c_28, eq_true c_34, eq_true c_45, c_52, eq_true c_58, eq_true c_108, c_115, decide_true, decide_false, Bool.and_true, Bool.true_and, Bool.and_false, Bool.false_and, Bool.or_true, Bool.true_or, Bool.or_false, Bool.false_or, Bool.not_true, Bool.not_false, if_true, if_false, ite_true, ite_false, Bool.false_eq_true, not_true_eq_false, not_false_eq_true, bI_t, bI_f, decide_eq_true_eq, reduceCtorEq]; done) | (simp [mBad, mFits, c_22, c_28, eq_true c_34, eq_true c_45, c_52, eq_true c_58, eq_true c_108, c_115]; done) | simp_all) _ _ (by first | (simp only [mW_succ, mNext, c_22, c_28, eq_true c_34, eq_true c_45, c_52, eq_true c_58, eq_true c_108, c_115, decide_true, decide_false, Bool.and_true, Bool.true_and, Bool.and_false, Bool.false_and, Bool.or_true, Bool.true_or, Bool.or_false, Bool.false_or, Bool.not_true, Bool.not_false, if_true, if_false, ite_true, ite_false, Bool.false_eq_true, not_true_eq_false, not_false_eq_true, bI_t, bI_f, decide_eq_true_eq, reduceCtorEq]; done) | (simp [mW_succ, mNext, c_22, c_28, eq_true c_34, eq_true c_45, c_52, eq_true c_58, eq_true c_108, c_115]; done) | simp_all) (nI_1 j)
  · subst hA hT0
    have e0 : fstB (mBad (σ 49)) (clN (σ 42 12)) = clN (σ 42 12) := fstB_no hb
    refine zw_iload_2 X dX8_faultOf_4 ?_
    refine zw_aload_0 X dX8_faultOf_5 ?_
    refine zw_getI X dX8_faultOf_6 fl_X8_85 ck_X8 sh_42 rfl ?_
    refine zw_icmpge_t (tgt := 146) X dX8_faultOf_9 (by decide) (fun h => Nat.lt_irrefl _ ((clN_lt (Nat.le_refl _)).mp h)) ?_
    refine zw_iload_1 X dX8_faultOf_146 ?_
    refine zw_ifne (tgt := 155) X dX8_faultOf_147 (by decide) (fun c_147 => ?_) (fun c_147 => ?_)
    · refine zw_aload_0 X dX8_faultOf_155 ?_
      refine zw_getI X dX8_faultOf_156 fl_X8_85 ck_X8 sh_42 rfl ?_
      exact zw_iret X F dX8_faultOf_159 rfl (by first | (simp only [mFault, e0, Nat.lt_irrefl, c_147, decide_true, decide_false, Bool.and_true, Bool.true_and, Bool.and_false, Bool.false_and, Bool.or_true, Bool.true_or, Bool.or_false, Bool.false_or, Bool.not_true, Bool.not_false, if_true, if_false, ite_true, ite_false, Bool.false_eq_true, not_true_eq_false, not_false_eq_true, bI_t, bI_f, decide_eq_true_eq, reduceCtorEq]; done) | (simp [mFault, e0, Nat.lt_irrefl, c_147]; done) | simp_all) (rfl)
    · refine zw_bipush (v := -6) X dX8_faultOf_150 bk_m6 ?_
      refine zw_goto (tgt := 159) X dX8_faultOf_152 (by decide) ?_
      exact zw_iret X F dX8_faultOf_159 rfl (by first | (simp only [mFault, e0, Nat.lt_irrefl, eq_true c_147, decide_true, decide_false, Bool.and_true, Bool.true_and, Bool.and_false, Bool.false_and, Bool.or_true, Bool.true_or, Bool.or_false, Bool.false_or, Bool.not_true, Bool.not_false, if_true, if_false, ite_true, ite_false, Bool.false_eq_true, not_true_eq_false, not_false_eq_true, bI_t, bI_f, decide_eq_true_eq, reduceCtorEq]; done) | (simp [mFault, e0, Nat.lt_irrefl, eq_true c_147]; done) | simp_all) (rfl)
set_option maxRecDepth 20000 in
set_option maxHeartbeats 1000000 in
theorem t_X8_fault {σ : St} (hc : clN (σ 42 12) ≤ 60) : Ct MX8_fault [.ref 42] σ (some (.int (Y_fault σ).1)) ((Y_fault σ).2) := by
  refine ct_of (ls0 := [some (.ref 42)]) ok_MX8_fault rfl (Nat.le_of_ble_eq_true rfl) rfl ?_
  intro g X F
  refine zw_aload_0 X dX8_fault_0 ?_
  refine zw_cV_ni X dX8_fault_1 lk_X8_94 ok_MX8_faultOf vi_MX8_faultOf rm_X8_fault_X8_faultOf sh_42 rfl (Nat.le_of_ble_eq_true rfl) (t_X8_faultOf hc) ?_
  exact zw_iret X F dX8_fault_4 rfl (by first | (simp only [Y_fault, decide_true, decide_false, Bool.and_true, Bool.true_and, Bool.and_false, Bool.false_and, Bool.or_true, Bool.true_or, Bool.or_false, Bool.false_or, Bool.not_true, Bool.not_false, if_true, if_false, ite_true, ite_false, Bool.false_eq_true, not_true_eq_false, not_false_eq_true, bI_t, bI_f, decide_eq_true_eq, reduceCtorEq]; done) | (simp [Y_fault]; done) | simp_all) (by first | (simp only [Y_fault, decide_true, decide_false, Bool.and_true, Bool.true_and, Bool.and_false, Bool.false_and, Bool.or_true, Bool.true_or, Bool.or_false, Bool.false_or, Bool.not_true, Bool.not_false, if_true, if_false, ite_true, ite_false, Bool.false_eq_true, not_true_eq_false, not_false_eq_true, bI_t, bI_f, decide_eq_true_eq, reduceCtorEq]; done) | (simp [Y_fault]; done) | simp_all)
set_option maxRecDepth 20000 in
set_option maxHeartbeats 1000000 in
theorem l_X8_goRides {g : Gt} (X : CX g MX8_goRides) {N : Nat} (hN6 : N ≤ 60) : ∀ (n j : Nat) (τ : St), N + 1 ≤ j + n → τ 42 12 = nI N → PO (τ 49) N → mW (τ 49) j = 0 → j ≤ N + 3 → FnZ g MX8_goRides (some (.int (mgGo n j τ).1)) (mgGo n j τ).2 → ZW g 11 [some (.ref 42), some (.int (nI j)), none, none] [] τ := by
  intro n
  induction n with
  | zero =>
    intro j τ hjn h12 hPO hw hj3 F
    have hlt : ¬ nI j < τ 42 12 := by rw [h12]; exact nI_nlt (by omega) (by omega)
    refine zw_iload_1 X dX8_goRides_11 ?_
    refine zw_aload_0 X dX8_goRides_12 ?_
    refine zw_getI X dX8_goRides_13 fl_X8_85 ck_X8 sh_42 rfl ?_
    refine zw_icmpge_t (tgt := 185) X dX8_goRides_16 (by decide) hlt ?_
    refine zw_bipush (v := -6) X dX8_goRides_185 bk_m6 ?_
    exact zw_iret X F dX8_goRides_187 rfl rfl rfl
  | succ n ih =>
    intro j τ hjn h12 hPO hw hj3 F
    by_cases hj : j < N
    · have hlt : nI j < τ 42 12 := by rw [h12]; exact nI_lt hj (by omega)
      refine zw_iload_1 X dX8_goRides_11 ?_
      refine zw_aload_0 X dX8_goRides_12 ?_
      refine zw_getI X dX8_goRides_13 fl_X8_85 ck_X8 sh_42 rfl ?_
      refine zw_icmpge_f (tgt := 185) X dX8_goRides_16 (by decide) hlt ?_
      refine zw_aload_0 X dX8_goRides_19 ?_
      refine zw_iconst (v := 0) X dX8_goRides_20 ik_0 ?_
      refine zw_put X dX8_goRides_21 fl_X8_131 ck_X8 ft_8_21 sh_42 rfl ?_
      have q49 : mg0 τ 49 = τ 49 := ups_other (by decide)
      show ZW g 24 _ _ (mg0 τ)
      refine zw_aload_0 X dX8_goRides_24 ?_
      refine zw_getR X dX8_goRides_25 fl_X8_35 ck_X8 sh_42 rfl ?_
      refine zw_iload_1 X dX8_goRides_28 ?_
      refine zw_iald X dX8_goRides_29 sh_49 (vp_in_nI (show j < 60 by omega) (by decide)) ?_
      rw [q49, nI_clamp (show j < 2 ^ 31 by omega)]
      refine zw_bipush (v := 46) X dX8_goRides_30 bk_46 ?_
      refine zw_icmpne (tgt := 72) X dX8_goRides_32 (by decide) (fun c_32 => ?_) (fun c_32 => ?_)
      · obtain ⟨hL, hw1, hj1⟩ := PO_head hPO hj hw c_32
        have hV : vp_in (τ 49 j - 65) 6 := let_in hL
        refine zw_aload_0 X dX8_goRides_72 ?_
        refine zw_getR X dX8_goRides_73 fl_X8_35 ck_X8 sh_42 rfl ?_
        refine zw_iload_1 X dX8_goRides_76 ?_
        refine zw_iald X dX8_goRides_77 sh_49 (vp_in_nI (show j < 60 by omega) (by decide)) ?_
        rw [q49, nI_clamp (show j < 2 ^ 31 by omega)]
        refine zw_bipush (v := 65) X dX8_goRides_78 bk_65 ?_
        refine zw_isub X dX8_goRides_80 ?_
        refine zw_istore_2 X dX8_goRides_81 ?_
        refine zw_aload_0 X dX8_goRides_82 ?_
        refine zw_getR X dX8_goRides_83 fl_X8_35 ck_X8 sh_42 rfl ?_
        refine zw_iload_1 X dX8_goRides_86 ?_
        refine zw_iconst (v := 1) X dX8_goRides_87 ik_1 ?_
        refine zw_iadd X dX8_goRides_88 ?_
        refine zw_iald X dX8_goRides_89 sh_49 (by rw [nI_1]; exact vp_in_nI (show j + 1 < 60 by omega) (by decide)) ?_
        rw [q49, nI_1, nI_clamp (show j + 1 < 2 ^ 31 by omega)]
        refine zw_istore_3 X dX8_goRides_90 ?_
        refine zw_iload_3 X dX8_goRides_91 ?_
        refine zw_cS_ii X dX8_goRides_92 lk_X8_91 ok_MX8_isDigit st_MX8_isDigit rm_X8_goRides_X8_isDigit (Nat.le_of_ble_eq_true rfl) t_X8_isDigit ?_
        refine zw_ifeqB (tgt := 129) X dX8_goRides_95 (by decide) (fun c_95 => ?_) (fun c_95 => ?_)
        · have hw2 := PO_act hw1 c_95
          refine zw_aload_0 X dX8_goRides_129 ?_
          refine zw_aload_0 X dX8_goRides_130 ?_
          refine zw_iload_2 X dX8_goRides_131 ?_
          refine zw_iload_3 X dX8_goRides_132 ?_
          refine zw_cV_iii X dX8_goRides_133 lk_X8_137 ok_MX8_whyNot vi_MX8_whyNot rm_X8_goRides_X8_whyNot sh_42 rfl (Nat.le_of_ble_eq_true rfl) (t_X8_whyNot hV) ?_
          refine zw_put X dX8_goRides_136 fl_X8_131 ck_X8 ft_8_21 sh_42 rfl ?_
          refine zw_aload_0 X dX8_goRides_139 ?_
          refine zw_getI X dX8_goRides_140 fl_X8_131 ck_X8 sh_42 rfl ?_
          refine zw_ifne (tgt := 157) X dX8_goRides_143 (by decide) (fun c_143 => ?_) (fun c_143 => ?_)
          · refine zw_iinc_1_p2 X dX8_goRides_157 ?_
            refine zw_wld (σ' := mgS τ j) (by first | (simp only [mgS, mgD, mgD1, mgB, mgA, mgA1, mgW, mgH, c_32, c_95, c_143, decide_true, decide_false, Bool.and_true, Bool.true_and, Bool.and_false, Bool.false_and, Bool.or_true, Bool.true_or, Bool.or_false, Bool.false_or, Bool.not_true, Bool.not_false, if_true, if_false, ite_true, ite_false, Bool.false_eq_true, not_true_eq_false, not_false_eq_true, bI_t, bI_f, decide_eq_true_eq, reduceCtorEq]; done) | (simp [mgS, mgD, mgD1, mgB, mgA, mgA1, mgW, mgH, c_32, c_95, c_143]; done) | simp_all) ?_
            refine zw_aload_0 X dX8_goRides_160 ?_
            refine zw_getI X dX8_goRides_161 fl_X8_131 ck_X8 sh_42 rfl ?_
            refine zw_ifle (tgt := 172) X dX8_goRides_164 (by decide) (fun c_164 => ?_) (fun c_164 => ?_)
            · refine zw_aload_0 X dX8_goRides_172 ?_
              refine zw_dup_r X dX8_goRides_173 ?_
              refine zw_getI X dX8_goRides_174 fl_X8_128 ck_X8 sh_42 rfl ?_
              refine zw_iconst (v := 1) X dX8_goRides_177 ik_1 ?_
              refine zw_iadd X dX8_goRides_178 ?_
              refine zw_put X dX8_goRides_179 fl_X8_128 ck_X8 ft_8_22 sh_42 rfl ?_
              refine zw_goto (tgt := 11) X dX8_goRides_182 (by decide) ?_
              refine zw_fg_2 ?_
              refine zw_fg_3 ?_
              have hm : mgL τ j = 2 := by simp only [mgL, mgH, c_32, c_95, if_false, Bool.false_eq_true]
              rw [show nI j + 2 = nI (j + 2) from nI_add j 2]
              refine ih (j + 2) (mgN τ j) (by omega) (by rw [show mgN τ j 42 12 = τ 42 12 from (ups_j (by decide)).trans (mgS_12 τ j)]; exact h12) (by rw [show mgN τ j 49 = τ 49 from (ups_other (by decide)).trans (mgS_49 τ j)]; exact hPO) (by rw [show mgN τ j 49 = τ 49 from (ups_other (by decide)).trans (mgS_49 τ j)]; exact hw2) (by omega) ?_
              rw [← hm, ← mgGo_on (n := n) hlt c_164]
              exact F
            · refine zw_aload_0 X dX8_goRides_167 ?_
              refine zw_getI X dX8_goRides_168 fl_X8_128 ck_X8 sh_42 rfl ?_
              exact zw_iret X F dX8_goRides_171 rfl (by rw [mgGo_hit hlt c_164]) (by rw [mgGo_hit hlt c_164])
          · refine zw_iload_3 X dX8_goRides_146 ?_
            refine zw_bipush (v := 99) X dX8_goRides_147 bk_99 ?_
            refine zw_icmpne (tgt := 157) X dX8_goRides_149 (by decide) (fun c_149 => ?_) (fun c_149 => ?_)
            · refine zw_iinc_1_p2 X dX8_goRides_157 ?_
              refine zw_wld (σ' := mgS τ j) (by first | (simp only [mgS, mgD, mgD1, mgB, mgA, mgA1, mgW, mgH, c_32, c_95, eq_true c_143, c_149, decide_true, decide_false, Bool.and_true, Bool.true_and, Bool.and_false, Bool.false_and, Bool.or_true, Bool.true_or, Bool.or_false, Bool.false_or, Bool.not_true, Bool.not_false, if_true, if_false, ite_true, ite_false, Bool.false_eq_true, not_true_eq_false, not_false_eq_true, bI_t, bI_f, decide_eq_true_eq, reduceCtorEq]; done) | (simp [mgS, mgD, mgD1, mgB, mgA, mgA1, mgW, mgH, c_32, c_95, eq_true c_143, c_149]; done) | simp_all) ?_
              refine zw_aload_0 X dX8_goRides_160 ?_
              refine zw_getI X dX8_goRides_161 fl_X8_131 ck_X8 sh_42 rfl ?_
              refine zw_ifle (tgt := 172) X dX8_goRides_164 (by decide) (fun c_164 => ?_) (fun c_164 => ?_)
              · refine zw_aload_0 X dX8_goRides_172 ?_
                refine zw_dup_r X dX8_goRides_173 ?_
                refine zw_getI X dX8_goRides_174 fl_X8_128 ck_X8 sh_42 rfl ?_
                refine zw_iconst (v := 1) X dX8_goRides_177 ik_1 ?_
                refine zw_iadd X dX8_goRides_178 ?_
                refine zw_put X dX8_goRides_179 fl_X8_128 ck_X8 ft_8_22 sh_42 rfl ?_
                refine zw_goto (tgt := 11) X dX8_goRides_182 (by decide) ?_
                refine zw_fg_2 ?_
                refine zw_fg_3 ?_
                have hm : mgL τ j = 2 := by simp only [mgL, mgH, c_32, c_95, if_false, Bool.false_eq_true]
                rw [show nI j + 2 = nI (j + 2) from nI_add j 2]
                refine ih (j + 2) (mgN τ j) (by omega) (by rw [show mgN τ j 42 12 = τ 42 12 from (ups_j (by decide)).trans (mgS_12 τ j)]; exact h12) (by rw [show mgN τ j 49 = τ 49 from (ups_other (by decide)).trans (mgS_49 τ j)]; exact hPO) (by rw [show mgN τ j 49 = τ 49 from (ups_other (by decide)).trans (mgS_49 τ j)]; exact hw2) (by omega) ?_
                rw [← hm, ← mgGo_on (n := n) hlt c_164]
                exact F
              · refine zw_aload_0 X dX8_goRides_167 ?_
                refine zw_getI X dX8_goRides_168 fl_X8_128 ck_X8 sh_42 rfl ?_
                exact zw_iret X F dX8_goRides_171 rfl (by rw [mgGo_hit hlt c_164]) (by rw [mgGo_hit hlt c_164])
            · refine zw_aload_0 X dX8_goRides_152 ?_
              refine zw_iload_2 X dX8_goRides_153 ?_
              refine zw_cV_iv X dX8_goRides_154 lk_X8_141 ok_MX8_cough vi_MX8_cough rm_X8_goRides_X8_cough sh_42 rfl (Nat.le_of_ble_eq_true rfl) (t_X8_cough hV) ?_
              refine zw_iinc_1_p2 X dX8_goRides_157 ?_
              refine zw_wld (σ' := mgS τ j) (by first | (simp only [mgS, mgD, mgD1, mgB, mgA, mgA1, mgW, mgH, c_32, c_95, eq_true c_143, eq_true c_149, decide_true, decide_false, Bool.and_true, Bool.true_and, Bool.and_false, Bool.false_and, Bool.or_true, Bool.true_or, Bool.or_false, Bool.false_or, Bool.not_true, Bool.not_false, if_true, if_false, ite_true, ite_false, Bool.false_eq_true, not_true_eq_false, not_false_eq_true, bI_t, bI_f, decide_eq_true_eq, reduceCtorEq]; done) | (simp [mgS, mgD, mgD1, mgB, mgA, mgA1, mgW, mgH, c_32, c_95, eq_true c_143, eq_true c_149]; done) | simp_all) ?_
              refine zw_aload_0 X dX8_goRides_160 ?_
              refine zw_getI X dX8_goRides_161 fl_X8_131 ck_X8 sh_42 rfl ?_
              refine zw_ifle (tgt := 172) X dX8_goRides_164 (by decide) (fun c_164 => ?_) (fun c_164 => ?_)
              · refine zw_aload_0 X dX8_goRides_172 ?_
                refine zw_dup_r X dX8_goRides_173 ?_
                refine zw_getI X dX8_goRides_174 fl_X8_128 ck_X8 sh_42 rfl ?_
                refine zw_iconst (v := 1) X dX8_goRides_177 ik_1 ?_
                refine zw_iadd X dX8_goRides_178 ?_
                refine zw_put X dX8_goRides_179 fl_X8_128 ck_X8 ft_8_22 sh_42 rfl ?_
                refine zw_goto (tgt := 11) X dX8_goRides_182 (by decide) ?_
                refine zw_fg_2 ?_
                refine zw_fg_3 ?_
                have hm : mgL τ j = 2 := by simp only [mgL, mgH, c_32, c_95, if_false, Bool.false_eq_true]
                rw [show nI j + 2 = nI (j + 2) from nI_add j 2]
                refine ih (j + 2) (mgN τ j) (by omega) (by rw [show mgN τ j 42 12 = τ 42 12 from (ups_j (by decide)).trans (mgS_12 τ j)]; exact h12) (by rw [show mgN τ j 49 = τ 49 from (ups_other (by decide)).trans (mgS_49 τ j)]; exact hPO) (by rw [show mgN τ j 49 = τ 49 from (ups_other (by decide)).trans (mgS_49 τ j)]; exact hw2) (by omega) ?_
                rw [← hm, ← mgGo_on (n := n) hlt c_164]
                exact F
              · refine zw_aload_0 X dX8_goRides_167 ?_
                refine zw_getI X dX8_goRides_168 fl_X8_128 ck_X8 sh_42 rfl ?_
                exact zw_iret X F dX8_goRides_171 rfl (by rw [mgGo_hit hlt c_164]) (by rw [mgGo_hit hlt c_164])
        · obtain ⟨hj2, hw3⟩ := PO_dig hPO hj1 hw1 c_95
          refine zw_aload_0 X dX8_goRides_98 ?_
          refine zw_getR X dX8_goRides_99 fl_X8_41 ck_X8 sh_42 rfl ?_
          refine zw_iload_2 X dX8_goRides_102 ?_
          refine zw_bipush (v := 10) X dX8_goRides_103 bk_10 ?_
          refine zw_iload_3 X dX8_goRides_105 ?_
          refine zw_bipush (v := 48) X dX8_goRides_106 bk_48 ?_
          refine zw_isub X dX8_goRides_108 ?_
          refine zw_imul X dX8_goRides_109 ?_
          refine zw_aload_0 X dX8_goRides_110 ?_
          refine zw_getR X dX8_goRides_111 fl_X8_35 ck_X8 sh_42 rfl ?_
          refine zw_iload_1 X dX8_goRides_114 ?_
          refine zw_iconst (v := 2) X dX8_goRides_115 ik_2 ?_
          refine zw_iadd X dX8_goRides_116 ?_
          refine zw_iald X dX8_goRides_117 sh_49 (by rw [show nI j + 2 = nI (j + 2) from nI_add j 2]; exact vp_in_nI (show j + 2 < 60 by omega) (by decide)) ?_
          rw [q49, show nI j + 2 = nI (j + 2) from nI_add j 2, nI_clamp (show j + 2 < 2 ^ 31 by omega)]
          refine zw_iadd X dX8_goRides_118 ?_
          refine zw_bipush (v := 48) X dX8_goRides_119 bk_48 ?_
          refine zw_isub X dX8_goRides_121 ?_
          refine zw_iast X dX8_goRides_122 sh_51 hV ?_
          refine zw_iinc_1_p3 X dX8_goRides_123 ?_
          refine zw_goto (tgt := 160) X dX8_goRides_126 (by decide) ?_
          refine zw_wld (σ' := mgS τ j) (by first | (simp only [mgS, mgD, mgD1, mgB, mgA, mgA1, mgW, mgH, c_32, c_95, decide_true, decide_false, Bool.and_true, Bool.true_and, Bool.and_false, Bool.false_and, Bool.or_true, Bool.true_or, Bool.or_false, Bool.false_or, Bool.not_true, Bool.not_false, if_true, if_false, ite_true, ite_false, Bool.false_eq_true, not_true_eq_false, not_false_eq_true, bI_t, bI_f, decide_eq_true_eq, reduceCtorEq]; done) | (simp [mgS, mgD, mgD1, mgB, mgA, mgA1, mgW, mgH, c_32, c_95]; done) | simp_all) ?_
          refine zw_aload_0 X dX8_goRides_160 ?_
          refine zw_getI X dX8_goRides_161 fl_X8_131 ck_X8 sh_42 rfl ?_
          refine zw_ifle (tgt := 172) X dX8_goRides_164 (by decide) (fun c_164 => ?_) (fun c_164 => ?_)
          · refine zw_aload_0 X dX8_goRides_172 ?_
            refine zw_dup_r X dX8_goRides_173 ?_
            refine zw_getI X dX8_goRides_174 fl_X8_128 ck_X8 sh_42 rfl ?_
            refine zw_iconst (v := 1) X dX8_goRides_177 ik_1 ?_
            refine zw_iadd X dX8_goRides_178 ?_
            refine zw_put X dX8_goRides_179 fl_X8_128 ck_X8 ft_8_22 sh_42 rfl ?_
            refine zw_goto (tgt := 11) X dX8_goRides_182 (by decide) ?_
            refine zw_fg_2 ?_
            refine zw_fg_3 ?_
            have hm : mgL τ j = 3 := by simp only [mgL, mgH, c_32, c_95, if_true, if_false]
            rw [show nI j + 3 = nI (j + 3) from nI_add j 3]
            refine ih (j + 3) (mgN τ j) (by omega) (by rw [show mgN τ j 42 12 = τ 42 12 from (ups_j (by decide)).trans (mgS_12 τ j)]; exact h12) (by rw [show mgN τ j 49 = τ 49 from (ups_other (by decide)).trans (mgS_49 τ j)]; exact hPO) (by rw [show mgN τ j 49 = τ 49 from (ups_other (by decide)).trans (mgS_49 τ j)]; exact hw3) (by omega) ?_
            rw [← hm, ← mgGo_on (n := n) hlt c_164]
            exact F
          · refine zw_aload_0 X dX8_goRides_167 ?_
            refine zw_getI X dX8_goRides_168 fl_X8_128 ck_X8 sh_42 rfl ?_
            exact zw_iret X F dX8_goRides_171 rfl (by rw [mgGo_hit hlt c_164]) (by rw [mgGo_hit hlt c_164])
      · refine zw_aload_0 X dX8_goRides_35 ?_
        refine zw_aload_0 X dX8_goRides_36 ?_
        refine zw_getI X dX8_goRides_37 fl_X8_98 ck_X8 sh_42 rfl ?_
        refine zw_aload_0 X dX8_goRides_40 ?_
        refine zw_getI X dX8_goRides_41 fl_X8_7 ck_X8 sh_42 rfl ?_
        refine zw_icmpne (tgt := 51) X dX8_goRides_44 (by decide) (fun c_44 => ?_) (fun c_44 => ?_)
        · refine zw_iconst (v := 0) X dX8_goRides_51 ik_0 ?_
          refine zw_put X dX8_goRides_52 fl_X8_131 ck_X8 ft_8_21 sh_42 rfl ?_
          refine zw_aload_0 X dX8_goRides_55 ?_
          refine zw_getI X dX8_goRides_56 fl_X8_131 ck_X8 sh_42 rfl ?_
          refine zw_ifne (tgt := 66) X dX8_goRides_59 (by decide) (fun c_59 => ?_) (fun c_59 => ?_)
          · refine zw_iinc_1_p1 X dX8_goRides_66 ?_
            refine zw_goto (tgt := 160) X dX8_goRides_69 (by decide) ?_
            refine zw_wld (σ' := mgS τ j) (by first | (simp only [mgS, mgD, mgD1, mgB, mgA, mgA1, mgW, mgH, eq_true c_32, c_44, c_59, decide_true, decide_false, Bool.and_true, Bool.true_and, Bool.and_false, Bool.false_and, Bool.or_true, Bool.true_or, Bool.or_false, Bool.false_or, Bool.not_true, Bool.not_false, if_true, if_false, ite_true, ite_false, Bool.false_eq_true, not_true_eq_false, not_false_eq_true, bI_t, bI_f, decide_eq_true_eq, reduceCtorEq]; done) | (simp [mgS, mgD, mgD1, mgB, mgA, mgA1, mgW, mgH, eq_true c_32, c_44, c_59]; done) | simp_all) ?_
            refine zw_aload_0 X dX8_goRides_160 ?_
            refine zw_getI X dX8_goRides_161 fl_X8_131 ck_X8 sh_42 rfl ?_
            refine zw_ifle (tgt := 172) X dX8_goRides_164 (by decide) (fun c_164 => ?_) (fun c_164 => ?_)
            · refine zw_aload_0 X dX8_goRides_172 ?_
              refine zw_dup_r X dX8_goRides_173 ?_
              refine zw_getI X dX8_goRides_174 fl_X8_128 ck_X8 sh_42 rfl ?_
              refine zw_iconst (v := 1) X dX8_goRides_177 ik_1 ?_
              refine zw_iadd X dX8_goRides_178 ?_
              refine zw_put X dX8_goRides_179 fl_X8_128 ck_X8 ft_8_22 sh_42 rfl ?_
              refine zw_goto (tgt := 11) X dX8_goRides_182 (by decide) ?_
              refine zw_fg_2 ?_
              refine zw_fg_3 ?_
              have hm : mgL τ j = 1 := by simp only [mgL, eq_true c_32, if_true]
              rw [show nI j + 1 = nI (j + 1) from nI_1 j]
              refine ih (j + 1) (mgN τ j) (by omega) (by rw [show mgN τ j 42 12 = τ 42 12 from (ups_j (by decide)).trans (mgS_12 τ j)]; exact h12) (by rw [show mgN τ j 49 = τ 49 from (ups_other (by decide)).trans (mgS_49 τ j)]; exact hPO) (by rw [show mgN τ j 49 = τ 49 from (ups_other (by decide)).trans (mgS_49 τ j)]; exact PO_dot hw c_32) (by omega) ?_
              rw [← hm, ← mgGo_on (n := n) hlt c_164]
              exact F
            · refine zw_aload_0 X dX8_goRides_167 ?_
              refine zw_getI X dX8_goRides_168 fl_X8_128 ck_X8 sh_42 rfl ?_
              exact zw_iret X F dX8_goRides_171 rfl (by rw [mgGo_hit hlt c_164]) (by rw [mgGo_hit hlt c_164])
          · refine zw_aload_0 X dX8_goRides_62 ?_
            refine zw_cV_nv X dX8_goRides_63 lk_X8_134 ok_MX8_pass vi_MX8_pass rm_X8_goRides_X8_pass sh_42 rfl (Nat.le_of_ble_eq_true rfl) t_X8_pass ?_
            refine zw_iinc_1_p1 X dX8_goRides_66 ?_
            refine zw_goto (tgt := 160) X dX8_goRides_69 (by decide) ?_
            refine zw_wld (σ' := mgS τ j) (by first | (simp only [mgS, mgD, mgD1, mgB, mgA, mgA1, mgW, mgH, eq_true c_32, c_44, eq_true c_59, decide_true, decide_false, Bool.and_true, Bool.true_and, Bool.and_false, Bool.false_and, Bool.or_true, Bool.true_or, Bool.or_false, Bool.false_or, Bool.not_true, Bool.not_false, if_true, if_false, ite_true, ite_false, Bool.false_eq_true, not_true_eq_false, not_false_eq_true, bI_t, bI_f, decide_eq_true_eq, reduceCtorEq]; done) | (simp [mgS, mgD, mgD1, mgB, mgA, mgA1, mgW, mgH, eq_true c_32, c_44, eq_true c_59]; done) | simp_all) ?_
            refine zw_aload_0 X dX8_goRides_160 ?_
            refine zw_getI X dX8_goRides_161 fl_X8_131 ck_X8 sh_42 rfl ?_
            refine zw_ifle (tgt := 172) X dX8_goRides_164 (by decide) (fun c_164 => ?_) (fun c_164 => ?_)
            · refine zw_aload_0 X dX8_goRides_172 ?_
              refine zw_dup_r X dX8_goRides_173 ?_
              refine zw_getI X dX8_goRides_174 fl_X8_128 ck_X8 sh_42 rfl ?_
              refine zw_iconst (v := 1) X dX8_goRides_177 ik_1 ?_
              refine zw_iadd X dX8_goRides_178 ?_
              refine zw_put X dX8_goRides_179 fl_X8_128 ck_X8 ft_8_22 sh_42 rfl ?_
              refine zw_goto (tgt := 11) X dX8_goRides_182 (by decide) ?_
              refine zw_fg_2 ?_
              refine zw_fg_3 ?_
              have hm : mgL τ j = 1 := by simp only [mgL, eq_true c_32, if_true]
              rw [show nI j + 1 = nI (j + 1) from nI_1 j]
              refine ih (j + 1) (mgN τ j) (by omega) (by rw [show mgN τ j 42 12 = τ 42 12 from (ups_j (by decide)).trans (mgS_12 τ j)]; exact h12) (by rw [show mgN τ j 49 = τ 49 from (ups_other (by decide)).trans (mgS_49 τ j)]; exact hPO) (by rw [show mgN τ j 49 = τ 49 from (ups_other (by decide)).trans (mgS_49 τ j)]; exact PO_dot hw c_32) (by omega) ?_
              rw [← hm, ← mgGo_on (n := n) hlt c_164]
              exact F
            · refine zw_aload_0 X dX8_goRides_167 ?_
              refine zw_getI X dX8_goRides_168 fl_X8_128 ck_X8 sh_42 rfl ?_
              exact zw_iret X F dX8_goRides_171 rfl (by rw [mgGo_hit hlt c_164]) (by rw [mgGo_hit hlt c_164])
        · refine zw_iconst (v := 3) X dX8_goRides_47 ik_3 ?_
          refine zw_goto (tgt := 52) X dX8_goRides_48 (by decide) ?_
          refine zw_put X dX8_goRides_52 fl_X8_131 ck_X8 ft_8_21 sh_42 rfl ?_
          refine zw_aload_0 X dX8_goRides_55 ?_
          refine zw_getI X dX8_goRides_56 fl_X8_131 ck_X8 sh_42 rfl ?_
          refine zw_ifne (tgt := 66) X dX8_goRides_59 (by decide) (fun c_59 => ?_) (fun c_59 => ?_)
          · refine zw_iinc_1_p1 X dX8_goRides_66 ?_
            refine zw_goto (tgt := 160) X dX8_goRides_69 (by decide) ?_
            refine zw_wld (σ' := mgS τ j) (by first | (simp only [mgS, mgD, mgD1, mgB, mgA, mgA1, mgW, mgH, eq_true c_32, eq_true c_44, c_59, decide_true, decide_false, Bool.and_true, Bool.true_and, Bool.and_false, Bool.false_and, Bool.or_true, Bool.true_or, Bool.or_false, Bool.false_or, Bool.not_true, Bool.not_false, if_true, if_false, ite_true, ite_false, Bool.false_eq_true, not_true_eq_false, not_false_eq_true, bI_t, bI_f, decide_eq_true_eq, reduceCtorEq]; done) | (simp [mgS, mgD, mgD1, mgB, mgA, mgA1, mgW, mgH, eq_true c_32, eq_true c_44, c_59]; done) | simp_all) ?_
            refine zw_aload_0 X dX8_goRides_160 ?_
            refine zw_getI X dX8_goRides_161 fl_X8_131 ck_X8 sh_42 rfl ?_
            refine zw_ifle (tgt := 172) X dX8_goRides_164 (by decide) (fun c_164 => ?_) (fun c_164 => ?_)
            · refine zw_aload_0 X dX8_goRides_172 ?_
              refine zw_dup_r X dX8_goRides_173 ?_
              refine zw_getI X dX8_goRides_174 fl_X8_128 ck_X8 sh_42 rfl ?_
              refine zw_iconst (v := 1) X dX8_goRides_177 ik_1 ?_
              refine zw_iadd X dX8_goRides_178 ?_
              refine zw_put X dX8_goRides_179 fl_X8_128 ck_X8 ft_8_22 sh_42 rfl ?_
              refine zw_goto (tgt := 11) X dX8_goRides_182 (by decide) ?_
              refine zw_fg_2 ?_
              refine zw_fg_3 ?_
              have hm : mgL τ j = 1 := by simp only [mgL, eq_true c_32, if_true]
              rw [show nI j + 1 = nI (j + 1) from nI_1 j]
              refine ih (j + 1) (mgN τ j) (by omega) (by rw [show mgN τ j 42 12 = τ 42 12 from (ups_j (by decide)).trans (mgS_12 τ j)]; exact h12) (by rw [show mgN τ j 49 = τ 49 from (ups_other (by decide)).trans (mgS_49 τ j)]; exact hPO) (by rw [show mgN τ j 49 = τ 49 from (ups_other (by decide)).trans (mgS_49 τ j)]; exact PO_dot hw c_32) (by omega) ?_
              rw [← hm, ← mgGo_on (n := n) hlt c_164]
              exact F
            · refine zw_aload_0 X dX8_goRides_167 ?_
              refine zw_getI X dX8_goRides_168 fl_X8_128 ck_X8 sh_42 rfl ?_
              exact zw_iret X F dX8_goRides_171 rfl (by rw [mgGo_hit hlt c_164]) (by rw [mgGo_hit hlt c_164])
          · refine zw_aload_0 X dX8_goRides_62 ?_
            refine zw_cV_nv X dX8_goRides_63 lk_X8_134 ok_MX8_pass vi_MX8_pass rm_X8_goRides_X8_pass sh_42 rfl (Nat.le_of_ble_eq_true rfl) t_X8_pass ?_
            refine zw_iinc_1_p1 X dX8_goRides_66 ?_
            refine zw_goto (tgt := 160) X dX8_goRides_69 (by decide) ?_
            refine zw_wld (σ' := mgS τ j) (by first | (simp only [mgS, mgD, mgD1, mgB, mgA, mgA1, mgW, mgH, eq_true c_32, eq_true c_44, eq_true c_59, decide_true, decide_false, Bool.and_true, Bool.true_and, Bool.and_false, Bool.false_and, Bool.or_true, Bool.true_or, Bool.or_false, Bool.false_or, Bool.not_true, Bool.not_false, if_true, if_false, ite_true, ite_false, Bool.false_eq_true, not_true_eq_false, not_false_eq_true, bI_t, bI_f, decide_eq_true_eq, reduceCtorEq]; done) | (simp [mgS, mgD, mgD1, mgB, mgA, mgA1, mgW, mgH, eq_true c_32, eq_true c_44, eq_true c_59]; done) | simp_all) ?_
            refine zw_aload_0 X dX8_goRides_160 ?_
            refine zw_getI X dX8_goRides_161 fl_X8_131 ck_X8 sh_42 rfl ?_
            refine zw_ifle (tgt := 172) X dX8_goRides_164 (by decide) (fun c_164 => ?_) (fun c_164 => ?_)
            · refine zw_aload_0 X dX8_goRides_172 ?_
              refine zw_dup_r X dX8_goRides_173 ?_
              refine zw_getI X dX8_goRides_174 fl_X8_128 ck_X8 sh_42 rfl ?_
              refine zw_iconst (v := 1) X dX8_goRides_177 ik_1 ?_
              refine zw_iadd X dX8_goRides_178 ?_
              refine zw_put X dX8_goRides_179 fl_X8_128 ck_X8 ft_8_22 sh_42 rfl ?_
              refine zw_goto (tgt := 11) X dX8_goRides_182 (by decide) ?_
              refine zw_fg_2 ?_
              refine zw_fg_3 ?_
              have hm : mgL τ j = 1 := by simp only [mgL, eq_true c_32, if_true]
              rw [show nI j + 1 = nI (j + 1) from nI_1 j]
              refine ih (j + 1) (mgN τ j) (by omega) (by rw [show mgN τ j 42 12 = τ 42 12 from (ups_j (by decide)).trans (mgS_12 τ j)]; exact h12) (by rw [show mgN τ j 49 = τ 49 from (ups_other (by decide)).trans (mgS_49 τ j)]; exact hPO) (by rw [show mgN τ j 49 = τ 49 from (ups_other (by decide)).trans (mgS_49 τ j)]; exact PO_dot hw c_32) (by omega) ?_
              rw [← hm, ← mgGo_on (n := n) hlt c_164]
              exact F
            · refine zw_aload_0 X dX8_goRides_167 ?_
              refine zw_getI X dX8_goRides_168 fl_X8_128 ck_X8 sh_42 rfl ?_
              exact zw_iret X F dX8_goRides_171 rfl (by rw [mgGo_hit hlt c_164]) (by rw [mgGo_hit hlt c_164])
    · have hlt : ¬ nI j < τ 42 12 := by rw [h12]; exact nI_nlt (by omega) (by omega)
      refine zw_iload_1 X dX8_goRides_11 ?_
      refine zw_aload_0 X dX8_goRides_12 ?_
      refine zw_getI X dX8_goRides_13 fl_X8_85 ck_X8 sh_42 rfl ?_
      refine zw_icmpge_t (tgt := 185) X dX8_goRides_16 (by decide) hlt ?_
      refine zw_bipush (v := -6) X dX8_goRides_185 bk_m6 ?_
      exact zw_iret X F dX8_goRides_187 rfl (by rw [mgGo_end hlt]) (by rw [mgGo_end hlt])
set_option maxRecDepth 20000 in
set_option maxHeartbeats 1000000 in
theorem t_X8_goRides {σ : St} {N : Nat} (hN : σ 42 12 = nI N) (hN6 : N ≤ 60) (hPO : PO (σ 49) N) : Ct MX8_goRides [.ref 42] σ (some (.int ((mgAll σ).1))) ((mgAll σ).2) := by
  refine ct_of (ls0 := [some (.ref 42), none, none, none]) ok_MX8_goRides rfl (Nat.le_of_ble_eq_true rfl) rfl ?_
  intro g X F
  refine zw_aload_0 X dX8_goRides_0 ?_
  refine zw_cV_nv X dX8_goRides_1 lk_X8_125 ok_MX8_asNow vi_MX8_asNow rm_X8_goRides_X8_asNow sh_42 rfl (Nat.le_of_ble_eq_true rfl) t_X8_asNow ?_
  refine zw_aload_0 X dX8_goRides_4 ?_
  refine zw_iconst (v := 0) X dX8_goRides_5 ik_0 ?_
  refine zw_put X dX8_goRides_6 fl_X8_128 ck_X8 ft_8_22 sh_42 rfl ?_
  refine zw_iconst (v := 0) X dX8_goRides_9 ik_0 ?_
  refine zw_istore_1 X dX8_goRides_10 ?_
  have e12 : ups (mNow σ) 42 22 0 42 12 = σ 42 12 := (ups_j (by decide)).trans (mNow_42 σ (by decide) (by decide) (by decide))
  have e49 : ups (mNow σ) 42 22 0 49 = σ 49 := (ups_other (by decide)).trans (mNow_ne σ (by decide) (by decide) (by decide) (by decide) (by decide))
  exact l_X8_goRides X hN6 61 0 _ (by omega) (e12.trans hN) (by rw [e49]; exact hPO) rfl (by omega) F
theorem hc_of {x : Int32} {N B : Nat} (h : x = nI N) (hB : N ≤ B) (hB2 : B < 2 ^ 31) : clN x ≤ B := by rw [h]; show (nI N).toNatClampNeg ≤ B; rw [nI_clamp (by omega)]; exact hB
set_option maxRecDepth 20000 in
set_option maxHeartbeats 1000000 in
theorem t_X8_judge {σ : St} {w : Int32} {N : Nat} (hN : σ 42 12 = nI N) (hN6 : N ≤ 60) : Ct MX8_judge [.ref 42, .int w] σ (some (.int (Y_judge σ w).1)) ((Y_judge σ w).2) := by
  refine ct_of (ls0 := [some (.ref 42), some (.int w), none]) ok_MX8_judge rfl (Nat.le_of_ble_eq_true rfl) rfl ?_
  intro g X F
  refine zw_iload_1 X dX8_judge_0 ?_
  refine zw_iconst (v := 0) X dX8_judge_1 ik_0 ?_
  refine zw_iconst (v := 1) X dX8_judge_2 ik_1 ?_
  refine zw_cS_iiii X dX8_judge_3 lk_X8_60 ok_MX8_in st_MX8_in rm_X8_judge_X8_in (Nat.le_of_ble_eq_true rfl) t_X8_in ?_
  refine zw_ifneB (tgt := 12) X dX8_judge_6 (by decide) (fun c_6 => ?_) (fun c_6 => ?_)
  · refine zw_aload_0 X dX8_judge_12 ?_
    refine zw_cV_ni X dX8_judge_13 lk_X8_94 ok_MX8_faultOf vi_MX8_faultOf rm_X8_judge_X8_faultOf sh_42 rfl (Nat.le_of_ble_eq_true rfl) (t_X8_faultOf (hc_of hN hN6 (by decide))) ?_
    refine zw_iflt (tgt := 22) X dX8_judge_16 (by decide) (fun c_16 => ?_) (fun c_16 => ?_)
    · refine zw_aload_0 X dX8_judge_22 ?_
      refine zw_cV_ni X dX8_judge_23 lk_X8_145 ok_MX8_goRides vi_MX8_goRides rm_X8_judge_X8_goRides sh_42 rfl (Nat.le_of_ble_eq_true rfl) (t_X8_goRides hN hN6 (PO_of hN hN6 c_16)) ?_
      refine zw_istore_2 X dX8_judge_26 ?_
      refine zw_iload_2 X dX8_judge_27 ?_
      refine zw_iflt (tgt := 35) X dX8_judge_28 (by decide) (fun c_28 => ?_) (fun c_28 => ?_)
      · refine zw_iload_2 X dX8_judge_35 ?_
        refine zw_goto (tgt := 43) X dX8_judge_36 (by decide) ?_
        exact zw_iret X F dX8_judge_43 rfl (by first | (simp only [Y_judge, c_6, c_16, c_28, decide_true, decide_false, Bool.and_true, Bool.true_and, Bool.and_false, Bool.false_and, Bool.or_true, Bool.true_or, Bool.or_false, Bool.false_or, Bool.not_true, Bool.not_false, if_true, if_false, ite_true, ite_false, Bool.false_eq_true, not_true_eq_false, not_false_eq_true, bI_t, bI_f, decide_eq_true_eq, reduceCtorEq]; done) | (simp [Y_judge, c_6, c_16, c_28]; done) | simp_all) (by first | (simp only [Y_judge, c_6, c_16, c_28, decide_true, decide_false, Bool.and_true, Bool.true_and, Bool.and_false, Bool.false_and, Bool.or_true, Bool.true_or, Bool.or_false, Bool.false_or, Bool.not_true, Bool.not_false, if_true, if_false, ite_true, ite_false, Bool.false_eq_true, not_true_eq_false, not_false_eq_true, bI_t, bI_f, decide_eq_true_eq, reduceCtorEq]; done) | (simp [Y_judge, c_6, c_16, c_28]; done) | simp_all)
      · refine zw_iload_1 X dX8_judge_31 ?_
        refine zw_ifne (tgt := 39) X dX8_judge_32 (by decide) (fun c_32 => ?_) (fun c_32 => ?_)
        · refine zw_aload_0 X dX8_judge_39 ?_
          refine zw_getI X dX8_judge_40 fl_X8_131 ck_X8 sh_42 rfl ?_
          exact zw_iret X F dX8_judge_43 rfl (by first | (simp only [Y_judge, c_6, c_16, c_28, c_32, decide_true, decide_false, Bool.and_true, Bool.true_and, Bool.and_false, Bool.false_and, Bool.or_true, Bool.true_or, Bool.or_false, Bool.false_or, Bool.not_true, Bool.not_false, if_true, if_false, ite_true, ite_false, Bool.false_eq_true, not_true_eq_false, not_false_eq_true, bI_t, bI_f, decide_eq_true_eq, reduceCtorEq]; done) | (simp [Y_judge, c_6, c_16, c_28, c_32]; done) | simp_all) (by first | (simp only [Y_judge, c_6, c_16, c_28, c_32, decide_true, decide_false, Bool.and_true, Bool.true_and, Bool.and_false, Bool.false_and, Bool.or_true, Bool.true_or, Bool.or_false, Bool.false_or, Bool.not_true, Bool.not_false, if_true, if_false, ite_true, ite_false, Bool.false_eq_true, not_true_eq_false, not_false_eq_true, bI_t, bI_f, decide_eq_true_eq, reduceCtorEq]; done) | (simp [Y_judge, c_6, c_16, c_28, c_32]; done) | simp_all)
        · refine zw_iload_2 X dX8_judge_35 ?_
          refine zw_goto (tgt := 43) X dX8_judge_36 (by decide) ?_
          exact zw_iret X F dX8_judge_43 rfl (by first | (simp only [Y_judge, c_6, c_16, c_28, eq_true c_32, decide_true, decide_false, Bool.and_true, Bool.true_and, Bool.and_false, Bool.false_and, Bool.or_true, Bool.true_or, Bool.or_false, Bool.false_or, Bool.not_true, Bool.not_false, if_true, if_false, ite_true, ite_false, Bool.false_eq_true, not_true_eq_false, not_false_eq_true, bI_t, bI_f, decide_eq_true_eq, reduceCtorEq]; done) | (simp [Y_judge, c_6, c_16, c_28, eq_true c_32]; done) | simp_all) (by first | (simp only [Y_judge, c_6, c_16, c_28, eq_true c_32, decide_true, decide_false, Bool.and_true, Bool.true_and, Bool.and_false, Bool.false_and, Bool.or_true, Bool.true_or, Bool.or_false, Bool.false_or, Bool.not_true, Bool.not_false, if_true, if_false, ite_true, ite_false, Bool.false_eq_true, not_true_eq_false, not_false_eq_true, bI_t, bI_f, decide_eq_true_eq, reduceCtorEq]; done) | (simp [Y_judge, c_6, c_16, c_28, eq_true c_32]; done) | simp_all)
    · refine zw_bipush (v := -5) X dX8_judge_19 bk_m5 ?_
      exact zw_iret X F dX8_judge_21 rfl (by first | (simp only [Y_judge, c_6, c_16, decide_true, decide_false, Bool.and_true, Bool.true_and, Bool.and_false, Bool.false_and, Bool.or_true, Bool.true_or, Bool.or_false, Bool.false_or, Bool.not_true, Bool.not_false, if_true, if_false, ite_true, ite_false, Bool.false_eq_true, not_true_eq_false, not_false_eq_true, bI_t, bI_f, decide_eq_true_eq, reduceCtorEq]; done) | (simp [Y_judge, c_6, c_16]; done) | simp_all) (by first | (simp only [Y_judge, c_6, c_16, decide_true, decide_false, Bool.and_true, Bool.true_and, Bool.and_false, Bool.false_and, Bool.or_true, Bool.true_or, Bool.or_false, Bool.false_or, Bool.not_true, Bool.not_false, if_true, if_false, ite_true, ite_false, Bool.false_eq_true, not_true_eq_false, not_false_eq_true, bI_t, bI_f, decide_eq_true_eq, reduceCtorEq]; done) | (simp [Y_judge, c_6, c_16]; done) | simp_all)
  · refine zw_bipush (v := -2) X dX8_judge_9 bk_m2 ?_
    exact zw_iret X F dX8_judge_11 rfl (by first | (simp only [Y_judge, c_6, decide_true, decide_false, Bool.and_true, Bool.true_and, Bool.and_false, Bool.false_and, Bool.or_true, Bool.true_or, Bool.or_false, Bool.false_or, Bool.not_true, Bool.not_false, if_true, if_false, ite_true, ite_false, Bool.false_eq_true, not_true_eq_false, not_false_eq_true, bI_t, bI_f, decide_eq_true_eq, reduceCtorEq]; done) | (simp [Y_judge, c_6]; done) | simp_all) (by first | (simp only [Y_judge, c_6, decide_true, decide_false, Bool.and_true, Bool.true_and, Bool.and_false, Bool.false_and, Bool.or_true, Bool.true_or, Bool.or_false, Bool.false_or, Bool.not_true, Bool.not_false, if_true, if_false, ite_true, ite_false, Bool.false_eq_true, not_true_eq_false, not_false_eq_true, bI_t, bI_f, decide_eq_true_eq, reduceCtorEq]; done) | (simp [Y_judge, c_6]; done) | simp_all)
set_option maxRecDepth 20000 in
set_option maxHeartbeats 1000000 in
theorem t_X8_barOfRides {σ : St} {N : Nat} (hN : σ 42 12 = nI N) (hN6 : N ≤ 60) : Ct MX8_barOfRides [.ref 42] σ (some (.int ((mBar σ).1))) ((mBar σ).2) := by
  refine ct_of (ls0 := [some (.ref 42)]) ok_MX8_barOfRides rfl (Nat.le_of_ble_eq_true rfl) rfl ?_
  intro g X F
  refine zw_aload_0 X dX8_barOfRides_0 ?_
  refine zw_cV_ni X dX8_barOfRides_1 lk_X8_94 ok_MX8_faultOf vi_MX8_faultOf rm_X8_barOfRides_X8_faultOf sh_42 rfl (Nat.le_of_ble_eq_true rfl) (t_X8_faultOf (hc_of hN hN6 (by decide))) ?_
  refine zw_ifge (tgt := 14) X dX8_barOfRides_4 (by decide) (fun c_4 => ?_) (fun c_4 => ?_)
  · refine zw_bipush (v := -5) X dX8_barOfRides_14 bk_m5 ?_
    refine zw_goto (tgt := 20) X dX8_barOfRides_16 (by decide) ?_
    exact zw_iret X F dX8_barOfRides_20 rfl (by first | (simp only [mBar, c_4, decide_true, decide_false, Bool.and_true, Bool.true_and, Bool.and_false, Bool.false_and, Bool.or_true, Bool.true_or, Bool.or_false, Bool.false_or, Bool.not_true, Bool.not_false, if_true, if_false, ite_true, ite_false, Bool.false_eq_true, not_true_eq_false, not_false_eq_true, bI_t, bI_f, decide_eq_true_eq, reduceCtorEq]; done) | (simp [mBar, c_4]; done) | simp_all) (by first | (simp only [mBar, c_4, decide_true, decide_false, Bool.and_true, Bool.true_and, Bool.and_false, Bool.false_and, Bool.or_true, Bool.true_or, Bool.or_false, Bool.false_or, Bool.not_true, Bool.not_false, if_true, if_false, ite_true, ite_false, Bool.false_eq_true, not_true_eq_false, not_false_eq_true, bI_t, bI_f, decide_eq_true_eq, reduceCtorEq]; done) | (simp [mBar, c_4]; done) | simp_all)
  · refine zw_aload_0 X dX8_barOfRides_7 ?_
    refine zw_cV_ni X dX8_barOfRides_8 lk_X8_145 ok_MX8_goRides vi_MX8_goRides rm_X8_barOfRides_X8_goRides sh_42 rfl (Nat.le_of_ble_eq_true rfl) (t_X8_goRides hN hN6 (PO_of hN hN6 c_4)) ?_
    refine zw_iflt (tgt := 19) X dX8_barOfRides_11 (by decide) (fun c_11 => ?_) (fun c_11 => ?_)
    · refine zw_iconst (v := 0) X dX8_barOfRides_19 ik_0 ?_
      exact zw_iret X F dX8_barOfRides_20 rfl (by first | (simp only [mBar, c_4, c_11, decide_true, decide_false, Bool.and_true, Bool.true_and, Bool.and_false, Bool.false_and, Bool.or_true, Bool.true_or, Bool.or_false, Bool.false_or, Bool.not_true, Bool.not_false, if_true, if_false, ite_true, ite_false, Bool.false_eq_true, not_true_eq_false, not_false_eq_true, bI_t, bI_f, decide_eq_true_eq, reduceCtorEq]; done) | (simp [mBar, c_4, c_11]; done) | simp_all) (by first | (simp only [mBar, c_4, c_11, decide_true, decide_false, Bool.and_true, Bool.true_and, Bool.and_false, Bool.false_and, Bool.or_true, Bool.true_or, Bool.or_false, Bool.false_or, Bool.not_true, Bool.not_false, if_true, if_false, ite_true, ite_false, Bool.false_eq_true, not_true_eq_false, not_false_eq_true, bI_t, bI_f, decide_eq_true_eq, reduceCtorEq]; done) | (simp [mBar, c_4, c_11]; done) | simp_all)
    · refine zw_bipush (v := -5) X dX8_barOfRides_14 bk_m5 ?_
      refine zw_goto (tgt := 20) X dX8_barOfRides_16 (by decide) ?_
      exact zw_iret X F dX8_barOfRides_20 rfl (by first | (simp only [mBar, c_4, c_11, decide_true, decide_false, Bool.and_true, Bool.true_and, Bool.and_false, Bool.false_and, Bool.or_true, Bool.true_or, Bool.or_false, Bool.false_or, Bool.not_true, Bool.not_false, if_true, if_false, ite_true, ite_false, Bool.false_eq_true, not_true_eq_false, not_false_eq_true, bI_t, bI_f, decide_eq_true_eq, reduceCtorEq]; done) | (simp [mBar, c_4, c_11]; done) | simp_all) (by first | (simp only [mBar, c_4, c_11, decide_true, decide_false, Bool.and_true, Bool.true_and, Bool.and_false, Bool.false_and, Bool.or_true, Bool.true_or, Bool.or_false, Bool.false_or, Bool.not_true, Bool.not_false, if_true, if_false, ite_true, ite_false, Bool.false_eq_true, not_true_eq_false, not_false_eq_true, bI_t, bI_f, decide_eq_true_eq, reduceCtorEq]; done) | (simp [mBar, c_4, c_11]; done) | simp_all)
set_option maxRecDepth 20000 in
set_option maxHeartbeats 1000000 in
theorem t_X8_done {σ : St} {N : Nat} (hN : σ 42 12 = nI N) (hN6 : N ≤ 60) : Ct MX8_done [.ref 42] σ (some (.int (Y_done σ).1)) ((Y_done σ).2) := by
  refine ct_of (ls0 := [some (.ref 42), none]) ok_MX8_done rfl (Nat.le_of_ble_eq_true rfl) rfl ?_
  intro g X F
  refine zw_aload_0 X dX8_done_0 ?_
  refine zw_cV_ni X dX8_done_1 lk_X8_148 ok_MX8_barOfRides vi_MX8_barOfRides rm_X8_done_X8_barOfRides sh_42 rfl (Nat.le_of_ble_eq_true rfl) (t_X8_barOfRides hN hN6) ?_
  refine zw_ifge (tgt := 10) X dX8_done_4 (by decide) (fun c_4 => ?_) (fun c_4 => ?_)
  · refine zw_iconst (v := 0) X dX8_done_10 ik_0 ?_
    refine zw_istore_1 X dX8_done_11 ?_
    refine zloop (α := St) (S := fun zn za => ∀ (s12 : St) (v12_1 : Int32), s12 = za → v12_1 = nI zn → ZW g 12 [some (.ref 42), some (.int v12_1)] [] s12) (N := 6) (f := mdst) (a0 := ((mBar σ).2)) (fun n12 a12 hn12 ha12 ih12 s12 v12_1 hs12 hv12_1 => ?_) (fun a12 ha12 s12 v12_1 hs12 hv12_1 => ?_) _ _ rfl rfl
    · subst hs12 hv12_1
      refine zw_iload_1 X dX8_done_12 ?_
      refine zw_bipush (v := 6) X dX8_done_13 bk_6 ?_
      refine zw_icmpge_f (tgt := 48) X dX8_done_15 (by decide) (nI_lt hn12 (by decide)) ?_
      refine zw_aload_0 X dX8_done_18 ?_
      refine zw_getR X dX8_done_19 fl_X8_23 ck_X8 sh_42 rfl ?_
      refine zw_iload_1 X dX8_done_22 ?_
      refine zw_aload_0 X dX8_done_23 ?_
      refine zw_getR X dX8_done_24 fl_X8_38 ck_X8 sh_42 rfl ?_
      refine zw_iload_1 X dX8_done_27 ?_
      refine zw_ialdN X dX8_done_28 sh_50 hn12 (by decide) ?_
      refine zw_iastN X dX8_done_29 sh_46 hn12 (by decide) ?_
      refine zw_aload_0 X dX8_done_30 ?_
      refine zw_getR X dX8_done_31 fl_X8_26 ck_X8 sh_42 rfl ?_
      refine zw_iload_1 X dX8_done_34 ?_
      refine zw_aload_0 X dX8_done_35 ?_
      refine zw_getR X dX8_done_36 fl_X8_41 ck_X8 sh_42 rfl ?_
      refine zw_iload_1 X dX8_done_39 ?_
      refine zw_ialdN X dX8_done_40 sh_51 hn12 (by decide) ?_
      refine zw_iastN X dX8_done_41 sh_47 hn12 (by decide) ?_
      refine zw_iinc_1_p1 X dX8_done_42 ?_
      refine zw_goto (tgt := 12) X dX8_done_45 (by decide) ?_
      exact ih12 _ _ (by first | (simp only [mdst, cpA, c_4, decide_true, decide_false, Bool.and_true, Bool.true_and, Bool.and_false, Bool.false_and, Bool.or_true, Bool.true_or, Bool.or_false, Bool.false_or, Bool.not_true, Bool.not_false, if_true, if_false, ite_true, ite_false, Bool.false_eq_true, not_true_eq_false, not_false_eq_true, bI_t, bI_f, decide_eq_true_eq, reduceCtorEq]; done) | (simp [mdst, cpA, c_4]; done) | simp_all) (nI_1 n12)
    · subst hs12 hv12_1
      refine zw_iload_1 X dX8_done_12 ?_
      refine zw_bipush (v := 6) X dX8_done_13 bk_6 ?_
      refine zw_icmpge_t (tgt := 48) X dX8_done_15 (by decide) (by decide) ?_
      refine zw_aload_0 X dX8_done_48 ?_
      refine zw_aload_0 X dX8_done_49 ?_
      refine zw_getI X dX8_done_50 fl_X8_98 ck_X8 sh_42 rfl ?_
      refine zw_put X dX8_done_53 fl_X8_64 ck_X8 ft_8_8 sh_42 rfl ?_
      refine zw_aload_0 X dX8_done_56 ?_
      refine zw_aload_0 X dX8_done_57 ?_
      refine zw_getI X dX8_done_58 fl_X8_104 ck_X8 sh_42 rfl ?_
      refine zw_put X dX8_done_61 fl_X8_101 ck_X8 ft_8_9 sh_42 rfl ?_
      refine zw_aload_0 X dX8_done_64 ?_
      refine zw_iconst (v := 0) X dX8_done_65 ik_0 ?_
      refine zw_put X dX8_done_66 fl_X8_85 ck_X8 ft_8_12 sh_42 rfl ?_
      refine zw_aload_0 X dX8_done_69 ?_
      refine zw_getI X dX8_done_70 fl_X8_128 ck_X8 sh_42 rfl ?_
      exact zw_iret X F dX8_done_73 rfl (by simp only [Y_done, md4, md3, md2, md1, ← ha12, c_4, decide_true, decide_false, Bool.and_true, Bool.true_and, Bool.and_false, Bool.false_and, Bool.or_true, Bool.true_or, Bool.or_false, Bool.false_or, Bool.not_true, Bool.not_false, if_true, if_false, ite_true, ite_false, Bool.false_eq_true, not_true_eq_false, not_false_eq_true, bI_t, bI_f, decide_eq_true_eq, reduceCtorEq]) (by simp only [Y_done, md4, md3, md2, md1, ← ha12, c_4, decide_true, decide_false, Bool.and_true, Bool.true_and, Bool.and_false, Bool.false_and, Bool.or_true, Bool.true_or, Bool.or_false, Bool.false_or, Bool.not_true, Bool.not_false, if_true, if_false, ite_true, ite_false, Bool.false_eq_true, not_true_eq_false, not_false_eq_true, bI_t, bI_f, decide_eq_true_eq, reduceCtorEq])
  · refine zw_bipush (v := -5) X dX8_done_7 bk_m5 ?_
    exact zw_iret X F dX8_done_9 rfl (by first | (simp only [Y_done, c_4, decide_true, decide_false, Bool.and_true, Bool.true_and, Bool.and_false, Bool.false_and, Bool.or_true, Bool.true_or, Bool.or_false, Bool.false_or, Bool.not_true, Bool.not_false, if_true, if_false, ite_true, ite_false, Bool.false_eq_true, not_true_eq_false, not_false_eq_true, bI_t, bI_f, decide_eq_true_eq, reduceCtorEq]; done) | (simp [Y_done, c_4]; done) | simp_all) (by first | (simp only [Y_done, c_4, decide_true, decide_false, Bool.and_true, Bool.true_and, Bool.and_false, Bool.false_and, Bool.or_true, Bool.true_or, Bool.or_false, Bool.false_or, Bool.not_true, Bool.not_false, if_true, if_false, ite_true, ite_false, Bool.false_eq_true, not_true_eq_false, not_false_eq_true, bI_t, bI_f, decide_eq_true_eq, reduceCtorEq]; done) | (simp [Y_done, c_4]; done) | simp_all)
set_option maxRecDepth 20000 in
set_option maxHeartbeats 1000000 in
theorem t_X8_behind {σ : St} {w : Int32} {N : Nat} (hN : σ 42 12 = nI N) (hN6 : N ≤ 60) : Ct MX8_behind [.ref 42, .int w] σ (some (.int (Y_beh σ w).1)) ((Y_beh σ w).2) := by
  refine ct_of (ls0 := [some (.ref 42), some (.int w)]) ok_MX8_behind rfl (Nat.le_of_ble_eq_true rfl) rfl ?_
  intro g X F
  refine zw_iload_1 X dX8_behind_0 ?_
  refine zw_iconst (v := 0) X dX8_behind_1 ik_0 ?_
  refine zw_bipush (v := 8) X dX8_behind_2 bk_8 ?_
  refine zw_cS_iiii X dX8_behind_4 lk_X8_60 ok_MX8_in st_MX8_in rm_X8_behind_X8_in (Nat.le_of_ble_eq_true rfl) t_X8_in ?_
  refine zw_ifneB (tgt := 13) X dX8_behind_7 (by decide) (fun c_7 => ?_) (fun c_7 => ?_)
  · refine zw_aload_0 X dX8_behind_13 ?_
    refine zw_cV_ni X dX8_behind_14 lk_X8_148 ok_MX8_barOfRides vi_MX8_barOfRides rm_X8_behind_X8_barOfRides sh_42 rfl (Nat.le_of_ble_eq_true rfl) (t_X8_barOfRides hN hN6) ?_
    refine zw_ifge (tgt := 23) X dX8_behind_17 (by decide) (fun c_17 => ?_) (fun c_17 => ?_)
    · refine zw_iload_1 X dX8_behind_23 ?_
      refine zw_bipush (v := 6) X dX8_behind_24 bk_6 ?_
      refine zw_icmpge (tgt := 38) X dX8_behind_26 (by decide) (fun c_26 => ?_) (fun c_26 => ?_)
      · refine zw_iload_1 X dX8_behind_38 ?_
        refine zw_bipush (v := 6) X dX8_behind_39 bk_6 ?_
        refine zw_icmpne (tgt := 51) X dX8_behind_41 (by decide) (fun c_41 => ?_) (fun c_41 => ?_)
        · refine zw_iload_1 X dX8_behind_51 ?_
          refine zw_bipush (v := 7) X dX8_behind_52 bk_7 ?_
          refine zw_icmpne (tgt := 64) X dX8_behind_54 (by decide) (fun c_54 => ?_) (fun c_54 => ?_)
          · refine zw_aload_0 X dX8_behind_64 ?_
            refine zw_getI X dX8_behind_65 fl_X8_107 ck_X8 sh_42 rfl ?_
            exact zw_iret X F dX8_behind_68 rfl (by first | (simp only [Y_beh, c_7, c_17, c_26, c_41, c_54, decide_true, decide_false, Bool.and_true, Bool.true_and, Bool.and_false, Bool.false_and, Bool.or_true, Bool.true_or, Bool.or_false, Bool.false_or, Bool.not_true, Bool.not_false, if_true, if_false, ite_true, ite_false, Bool.false_eq_true, not_true_eq_false, not_false_eq_true, bI_t, bI_f, decide_eq_true_eq, reduceCtorEq]; done) | (simp [Y_beh, c_7, c_17, c_26, c_41, c_54]; done) | simp_all) (by first | (simp only [Y_beh, c_7, c_17, c_26, c_41, c_54, decide_true, decide_false, Bool.and_true, Bool.true_and, Bool.and_false, Bool.false_and, Bool.or_true, Bool.true_or, Bool.or_false, Bool.false_or, Bool.not_true, Bool.not_false, if_true, if_false, ite_true, ite_false, Bool.false_eq_true, not_true_eq_false, not_false_eq_true, bI_t, bI_f, decide_eq_true_eq, reduceCtorEq]; done) | (simp [Y_beh, c_7, c_17, c_26, c_41, c_54]; done) | simp_all)
          · refine zw_aload_0 X dX8_behind_57 ?_
            refine zw_getI X dX8_behind_58 fl_X8_98 ck_X8 sh_42 rfl ?_
            refine zw_goto (tgt := 68) X dX8_behind_61 (by decide) ?_
            exact zw_iret X F dX8_behind_68 rfl (by first | (simp only [Y_beh, c_7, c_17, c_26, c_41, eq_true c_54, decide_true, decide_false, Bool.and_true, Bool.true_and, Bool.and_false, Bool.false_and, Bool.or_true, Bool.true_or, Bool.or_false, Bool.false_or, Bool.not_true, Bool.not_false, if_true, if_false, ite_true, ite_false, Bool.false_eq_true, not_true_eq_false, not_false_eq_true, bI_t, bI_f, decide_eq_true_eq, reduceCtorEq]; done) | (simp [Y_beh, c_7, c_17, c_26, c_41, eq_true c_54]; done) | simp_all) (by first | (simp only [Y_beh, c_7, c_17, c_26, c_41, eq_true c_54, decide_true, decide_false, Bool.and_true, Bool.true_and, Bool.and_false, Bool.false_and, Bool.or_true, Bool.true_or, Bool.or_false, Bool.false_or, Bool.not_true, Bool.not_false, if_true, if_false, ite_true, ite_false, Bool.false_eq_true, not_true_eq_false, not_false_eq_true, bI_t, bI_f, decide_eq_true_eq, reduceCtorEq]; done) | (simp [Y_beh, c_7, c_17, c_26, c_41, eq_true c_54]; done) | simp_all)
        · refine zw_aload_0 X dX8_behind_44 ?_
          refine zw_getI X dX8_behind_45 fl_X8_104 ck_X8 sh_42 rfl ?_
          refine zw_goto (tgt := 68) X dX8_behind_48 (by decide) ?_
          exact zw_iret X F dX8_behind_68 rfl (by first | (simp only [Y_beh, c_7, c_17, c_26, eq_true c_41, decide_true, decide_false, Bool.and_true, Bool.true_and, Bool.and_false, Bool.false_and, Bool.or_true, Bool.true_or, Bool.or_false, Bool.false_or, Bool.not_true, Bool.not_false, if_true, if_false, ite_true, ite_false, Bool.false_eq_true, not_true_eq_false, not_false_eq_true, bI_t, bI_f, decide_eq_true_eq, reduceCtorEq]; done) | (simp [Y_beh, c_7, c_17, c_26, eq_true c_41]; done) | simp_all) (by first | (simp only [Y_beh, c_7, c_17, c_26, eq_true c_41, decide_true, decide_false, Bool.and_true, Bool.true_and, Bool.and_false, Bool.false_and, Bool.or_true, Bool.true_or, Bool.or_false, Bool.false_or, Bool.not_true, Bool.not_false, if_true, if_false, ite_true, ite_false, Bool.false_eq_true, not_true_eq_false, not_false_eq_true, bI_t, bI_f, decide_eq_true_eq, reduceCtorEq]; done) | (simp [Y_beh, c_7, c_17, c_26, eq_true c_41]; done) | simp_all)
      · refine zw_aload_0 X dX8_behind_29 ?_
        refine zw_getR X dX8_behind_30 fl_X8_38 ck_X8 sh_42 rfl ?_
        refine zw_iload_1 X dX8_behind_33 ?_
        refine zw_iald X dX8_behind_34 sh_50 (beh_in c_7 c_26) ?_
        refine zw_goto (tgt := 68) X dX8_behind_35 (by decide) ?_
        exact zw_iret X F dX8_behind_68 rfl (by first | (simp only [Y_beh, c_7, c_17, c_26, decide_true, decide_false, Bool.and_true, Bool.true_and, Bool.and_false, Bool.false_and, Bool.or_true, Bool.true_or, Bool.or_false, Bool.false_or, Bool.not_true, Bool.not_false, if_true, if_false, ite_true, ite_false, Bool.false_eq_true, not_true_eq_false, not_false_eq_true, bI_t, bI_f, decide_eq_true_eq, reduceCtorEq]; done) | (simp [Y_beh, c_7, c_17, c_26]; done) | simp_all) (by first | (simp only [Y_beh, c_7, c_17, c_26, decide_true, decide_false, Bool.and_true, Bool.true_and, Bool.and_false, Bool.false_and, Bool.or_true, Bool.true_or, Bool.or_false, Bool.false_or, Bool.not_true, Bool.not_false, if_true, if_false, ite_true, ite_false, Bool.false_eq_true, not_true_eq_false, not_false_eq_true, bI_t, bI_f, decide_eq_true_eq, reduceCtorEq]; done) | (simp [Y_beh, c_7, c_17, c_26]; done) | simp_all)
    · refine zw_bipush (v := -5) X dX8_behind_20 bk_m5 ?_
      exact zw_iret X F dX8_behind_22 rfl (by first | (simp only [Y_beh, c_7, c_17, decide_true, decide_false, Bool.and_true, Bool.true_and, Bool.and_false, Bool.false_and, Bool.or_true, Bool.true_or, Bool.or_false, Bool.false_or, Bool.not_true, Bool.not_false, if_true, if_false, ite_true, ite_false, Bool.false_eq_true, not_true_eq_false, not_false_eq_true, bI_t, bI_f, decide_eq_true_eq, reduceCtorEq]; done) | (simp [Y_beh, c_7, c_17]; done) | simp_all) (by first | (simp only [Y_beh, c_7, c_17, decide_true, decide_false, Bool.and_true, Bool.true_and, Bool.and_false, Bool.false_and, Bool.or_true, Bool.true_or, Bool.or_false, Bool.false_or, Bool.not_true, Bool.not_false, if_true, if_false, ite_true, ite_false, Bool.false_eq_true, not_true_eq_false, not_false_eq_true, bI_t, bI_f, decide_eq_true_eq, reduceCtorEq]; done) | (simp [Y_beh, c_7, c_17]; done) | simp_all)
  · refine zw_bipush (v := -2) X dX8_behind_10 bk_m2 ?_
    exact zw_iret X F dX8_behind_12 rfl (by first | (simp only [Y_beh, c_7, decide_true, decide_false, Bool.and_true, Bool.true_and, Bool.and_false, Bool.false_and, Bool.or_true, Bool.true_or, Bool.or_false, Bool.false_or, Bool.not_true, Bool.not_false, if_true, if_false, ite_true, ite_false, Bool.false_eq_true, not_true_eq_false, not_false_eq_true, bI_t, bI_f, decide_eq_true_eq, reduceCtorEq]; done) | (simp [Y_beh, c_7]; done) | simp_all) (by first | (simp only [Y_beh, c_7, decide_true, decide_false, Bool.and_true, Bool.true_and, Bool.and_false, Bool.false_and, Bool.or_true, Bool.true_or, Bool.or_false, Bool.false_or, Bool.not_true, Bool.not_false, if_true, if_false, ite_true, ite_false, Bool.false_eq_true, not_true_eq_false, not_false_eq_true, bI_t, bI_f, decide_eq_true_eq, reduceCtorEq]; done) | (simp [Y_beh, c_7]; done) | simp_all)
set_option maxRecDepth 20000 in
set_option maxHeartbeats 1000000 in
theorem l_X8_buy {g : Gt} (X : CX g MX8_buy) {t w : Int32} (ht : vp_in t 6) : ∀ (n j : Nat) (τ : St), j + n = 100 → FnZ g MX8_buy (some (.int (Y_byR t w (mbGo t n (nI j) τ)))) (mbGo t n (nI j) τ).2 → ZW g 23 [some (.ref 42), some (.int t), some (.int w), some (.int (nI j)), none, none] [] τ := by
  intro n
  induction n with
  | zero =>
    intro j τ hjn F
    have hj : j = 100 := by omega
    subst hj
    refine zw_iload_3 X dX8_buy_23 ?_
    refine zw_bipush (v := 100) X dX8_buy_24 bk_100 ?_
    refine zw_icmpge_t (tgt := 160) X dX8_buy_26 (by decide) (by decide) ?_
    refine zw_bipush (v := -6) X dX8_buy_160 bk_m6 ?_
    exact zw_iret X F dX8_buy_162 rfl rfl rfl
  | succ n ih =>
    intro j τ hjn F
    have hbd : nI j < (100 : Int32) := nI_lt (a := j) (b := 100) (by omega) (by decide)
    refine zw_iload_3 X dX8_buy_23 ?_
    refine zw_bipush (v := 100) X dX8_buy_24 bk_100 ?_
    refine zw_icmpge_f (tgt := 160) X dX8_buy_26 (by decide) hbd ?_
    refine zw_aload_0 X dX8_buy_29 ?_
    refine zw_cV_nv X dX8_buy_30 lk_X8_125 ok_MX8_asNow vi_MX8_asNow rm_X8_buy_X8_asNow sh_42 rfl (Nat.le_of_ble_eq_true rfl) t_X8_asNow ?_
    refine zw_aload_0 X dX8_buy_33 ?_
    refine zw_getR X dX8_buy_34 fl_X8_41 ck_X8 sh_42 rfl ?_
    refine zw_iload_1 X dX8_buy_37 ?_
    refine zw_iload_3 X dX8_buy_38 ?_
    refine zw_iast X dX8_buy_39 sh_51 ht ?_
    refine zw_iconst (v := 1) X dX8_buy_40 ik_1 ?_
    refine zw_istore_4 X dX8_buy_41 ?_
    refine zw_iconst (v := 0) X dX8_buy_43 ik_0 ?_
    refine zw_istore_5 X dX8_buy_44 ?_
    refine zloop (α := Bool × Bool × St) (S := fun zn za => ∀ (v46_4 : Int32) (v46_5 : Int32) (s46 : St), v46_4 = bI za.1 → v46_5 = bI za.2.1 → s46 = za.2.2 → ZW g 46 [some (.ref 42), some (.int t), some (.int w), some (.int (nI j)), some (.int v46_4), some (.int v46_5)] [] s46) (N := (cnt ((mb0 τ t (nI j)) 42 16) ((mb0 τ t (nI j)) 42 0))) (f := (mbF t)) (a0 := ((true, false, mb0 τ t (nI j)) : Bool × Bool × St)) (fun n46 a46 hn46 ha46 ih46 v46_4 v46_5 s46 hv46_4 hv46_5 hs46 => ?_) (fun a46 ha46 v46_4 v46_5 s46 hv46_4 hv46_5 hs46 => ?_) _ _ _ rfl rfl rfl
    · subst hv46_4 hv46_5 hs46
      refine zw_aload_0 X dX8_buy_46 ?_
      refine zw_getI X dX8_buy_47 fl_X8_98 ck_X8 sh_42 rfl ?_
      refine zw_aload_0 X dX8_buy_50 ?_
      refine zw_getI X dX8_buy_51 fl_X8_7 ck_X8 sh_42 rfl ?_
      refine zw_icmpge_f (tgt := 129) X dX8_buy_54 (by decide) ((run_lt (by rw [ha46]; exact itr3_run (fun _ _ => rfl) _ _) (Nat.le_of_lt hn46)).mpr hn46) ?_
      refine zw_iload_5 X dX8_buy_57 ?_
      refine zw_ifneB (tgt := 70) X dX8_buy_59 (by decide) (fun c_59 => ?_) (fun c_59 => ?_)
      · refine zw_iconst (v := 1) X dX8_buy_70 ik_1 ?_
        refine zw_goto (tgt := 75) X dX8_buy_71 (by decide) ?_
        refine zw_istore_5 X dX8_buy_75 ?_
        refine zw_iload_4 X dX8_buy_77 ?_
        refine zw_ifeqB (tgt := 119) X dX8_buy_79 (by decide) (fun c_79 => ?_) (fun c_79 => ?_)
        · refine zw_iconst (v := 0) X dX8_buy_119 ik_0 ?_
          refine zw_istore_4 X dX8_buy_120 ?_
          refine zw_aload_0 X dX8_buy_122 ?_
          refine zw_cV_nv X dX8_buy_123 lk_X8_134 ok_MX8_pass vi_MX8_pass rm_X8_buy_X8_pass sh_42 rfl (Nat.le_of_ble_eq_true rfl) t_X8_pass ?_
          refine zw_goto (tgt := 46) X dX8_buy_126 (by decide) ?_
          exact ih46 _ _ _ (by first | (simp only [mbF, bI_0', bI_1', bI_0, bI_1, bI_inj, c_59, c_79, decide_true, decide_false, Bool.and_true, Bool.true_and, Bool.and_false, Bool.false_and, Bool.or_true, Bool.true_or, Bool.or_false, Bool.false_or, Bool.not_true, Bool.not_false, if_true, if_false, ite_true, ite_false, Bool.false_eq_true, not_true_eq_false, not_false_eq_true, bI_t, bI_f, decide_eq_true_eq, reduceCtorEq]; done) | (simp [mbF, bI_0', bI_1', bI_0, bI_1, bI_inj, c_59, c_79]; done) | simp_all) (by first | (simp only [mbF, bI_0', bI_1', bI_0, bI_1, bI_inj, c_59, c_79, decide_true, decide_false, Bool.and_true, Bool.true_and, Bool.and_false, Bool.false_and, Bool.or_true, Bool.true_or, Bool.or_false, Bool.false_or, Bool.not_true, Bool.not_false, if_true, if_false, ite_true, ite_false, Bool.false_eq_true, not_true_eq_false, not_false_eq_true, bI_t, bI_f, decide_eq_true_eq, reduceCtorEq]; done) | (simp [mbF, bI_0', bI_1', bI_0, bI_1, bI_inj, c_59, c_79]; done) | simp_all) (by first | (simp only [mbF, bI_0', bI_1', bI_0, bI_1, bI_inj, c_59, c_79, decide_true, decide_false, Bool.and_true, Bool.true_and, Bool.and_false, Bool.false_and, Bool.or_true, Bool.true_or, Bool.or_false, Bool.false_or, Bool.not_true, Bool.not_false, if_true, if_false, ite_true, ite_false, Bool.false_eq_true, not_true_eq_false, not_false_eq_true, bI_t, bI_f, decide_eq_true_eq, reduceCtorEq]; done) | (simp [mbF, bI_0', bI_1', bI_0, bI_1, bI_inj, c_59, c_79]; done) | simp_all)
        · refine zw_aload_0 X dX8_buy_82 ?_
          refine zw_iload_1 X dX8_buy_83 ?_
          refine zw_cV_ii X dX8_buy_84 lk_X8_119 ok_MX8_ridesNow vi_MX8_ridesNow rm_X8_buy_X8_ridesNow sh_42 rfl (Nat.le_of_ble_eq_true rfl) (t_X8_ridesNow ht) ?_
          refine zw_ifeqB (tgt := 115) X dX8_buy_87 (by decide) (fun c_87 => ?_) (fun c_87 => ?_)
          · refine zw_iconst (v := 1) X dX8_buy_115 ik_1 ?_
            refine zw_goto (tgt := 120) X dX8_buy_116 (by decide) ?_
            refine zw_istore_4 X dX8_buy_120 ?_
            refine zw_aload_0 X dX8_buy_122 ?_
            refine zw_cV_nv X dX8_buy_123 lk_X8_134 ok_MX8_pass vi_MX8_pass rm_X8_buy_X8_pass sh_42 rfl (Nat.le_of_ble_eq_true rfl) t_X8_pass ?_
            refine zw_goto (tgt := 46) X dX8_buy_126 (by decide) ?_
            exact ih46 _ _ _ (by first | (simp only [mbF, bI_0', bI_1', bI_0, bI_1, bI_inj, c_59, c_79, c_87, decide_true, decide_false, Bool.and_true, Bool.true_and, Bool.and_false, Bool.false_and, Bool.or_true, Bool.true_or, Bool.or_false, Bool.false_or, Bool.not_true, Bool.not_false, if_true, if_false, ite_true, ite_false, Bool.false_eq_true, not_true_eq_false, not_false_eq_true, bI_t, bI_f, decide_eq_true_eq, reduceCtorEq]; done) | (simp [mbF, bI_0', bI_1', bI_0, bI_1, bI_inj, c_59, c_79, c_87]; done) | simp_all) (by first | (simp only [mbF, bI_0', bI_1', bI_0, bI_1, bI_inj, c_59, c_79, c_87, decide_true, decide_false, Bool.and_true, Bool.true_and, Bool.and_false, Bool.false_and, Bool.or_true, Bool.true_or, Bool.or_false, Bool.false_or, Bool.not_true, Bool.not_false, if_true, if_false, ite_true, ite_false, Bool.false_eq_true, not_true_eq_false, not_false_eq_true, bI_t, bI_f, decide_eq_true_eq, reduceCtorEq]; done) | (simp [mbF, bI_0', bI_1', bI_0, bI_1, bI_inj, c_59, c_79, c_87]; done) | simp_all) (by first | (simp only [mbF, bI_0', bI_1', bI_0, bI_1, bI_inj, c_59, c_79, c_87, decide_true, decide_false, Bool.and_true, Bool.true_and, Bool.and_false, Bool.false_and, Bool.or_true, Bool.true_or, Bool.or_false, Bool.false_or, Bool.not_true, Bool.not_false, if_true, if_false, ite_true, ite_false, Bool.false_eq_true, not_true_eq_false, not_false_eq_true, bI_t, bI_f, decide_eq_true_eq, reduceCtorEq]; done) | (simp [mbF, bI_0', bI_1', bI_0, bI_1, bI_inj, c_59, c_79, c_87]; done) | simp_all)
          · refine zw_aload_0 X dX8_buy_90 ?_
            refine zw_aload_0 X dX8_buy_91 ?_
            refine zw_getI X dX8_buy_92 fl_X8_98 ck_X8 sh_42 rfl ?_
            refine zw_cV_ii X dX8_buy_95 lk_X8_113 ok_MX8_isTunnel vi_MX8_isTunnel rm_X8_buy_X8_isTunnel sh_42 rfl (Nat.le_of_ble_eq_true rfl) t_X8_isTunnel ?_
            refine zw_ifneB (tgt := 115) X dX8_buy_98 (by decide) (fun c_98 => ?_) (fun c_98 => ?_)
            · refine zw_iconst (v := 1) X dX8_buy_115 ik_1 ?_
              refine zw_goto (tgt := 120) X dX8_buy_116 (by decide) ?_
              refine zw_istore_4 X dX8_buy_120 ?_
              refine zw_aload_0 X dX8_buy_122 ?_
              refine zw_cV_nv X dX8_buy_123 lk_X8_134 ok_MX8_pass vi_MX8_pass rm_X8_buy_X8_pass sh_42 rfl (Nat.le_of_ble_eq_true rfl) t_X8_pass ?_
              refine zw_goto (tgt := 46) X dX8_buy_126 (by decide) ?_
              exact ih46 _ _ _ (by first | (simp only [mbF, bI_0', bI_1', bI_0, bI_1, bI_inj, c_59, c_79, c_87, c_98, decide_true, decide_false, Bool.and_true, Bool.true_and, Bool.and_false, Bool.false_and, Bool.or_true, Bool.true_or, Bool.or_false, Bool.false_or, Bool.not_true, Bool.not_false, if_true, if_false, ite_true, ite_false, Bool.false_eq_true, not_true_eq_false, not_false_eq_true, bI_t, bI_f, decide_eq_true_eq, reduceCtorEq]; done) | (simp [mbF, bI_0', bI_1', bI_0, bI_1, bI_inj, c_59, c_79, c_87, c_98]; done) | simp_all) (by first | (simp only [mbF, bI_0', bI_1', bI_0, bI_1, bI_inj, c_59, c_79, c_87, c_98, decide_true, decide_false, Bool.and_true, Bool.true_and, Bool.and_false, Bool.false_and, Bool.or_true, Bool.true_or, Bool.or_false, Bool.false_or, Bool.not_true, Bool.not_false, if_true, if_false, ite_true, ite_false, Bool.false_eq_true, not_true_eq_false, not_false_eq_true, bI_t, bI_f, decide_eq_true_eq, reduceCtorEq]; done) | (simp [mbF, bI_0', bI_1', bI_0, bI_1, bI_inj, c_59, c_79, c_87, c_98]; done) | simp_all) (by first | (simp only [mbF, bI_0', bI_1', bI_0, bI_1, bI_inj, c_59, c_79, c_87, c_98, decide_true, decide_false, Bool.and_true, Bool.true_and, Bool.and_false, Bool.false_and, Bool.or_true, Bool.true_or, Bool.or_false, Bool.false_or, Bool.not_true, Bool.not_false, if_true, if_false, ite_true, ite_false, Bool.false_eq_true, not_true_eq_false, not_false_eq_true, bI_t, bI_f, decide_eq_true_eq, reduceCtorEq]; done) | (simp [mbF, bI_0', bI_1', bI_0, bI_1, bI_inj, c_59, c_79, c_87, c_98]; done) | simp_all)
            · refine zw_aload_0 X dX8_buy_101 ?_
              refine zw_aload_0 X dX8_buy_102 ?_
              refine zw_getR X dX8_buy_103 fl_X8_20 ck_X8 sh_42 rfl ?_
              refine zw_iload_1 X dX8_buy_106 ?_
              refine zw_iald X dX8_buy_107 sh_45 ht ?_
              refine zw_cV_ii X dX8_buy_108 lk_X8_116 ok_MX8_holder vi_MX8_holder rm_X8_buy_X8_holder sh_42 rfl (Nat.le_of_ble_eq_true rfl) t_X8_holder ?_
              refine zw_iload_1 X dX8_buy_111 ?_
              refine zw_icmpne (tgt := 119) X dX8_buy_112 (by decide) (fun c_112 => ?_) (fun c_112 => ?_)
              · refine zw_iconst (v := 0) X dX8_buy_119 ik_0 ?_
                refine zw_istore_4 X dX8_buy_120 ?_
                refine zw_aload_0 X dX8_buy_122 ?_
                refine zw_cV_nv X dX8_buy_123 lk_X8_134 ok_MX8_pass vi_MX8_pass rm_X8_buy_X8_pass sh_42 rfl (Nat.le_of_ble_eq_true rfl) t_X8_pass ?_
                refine zw_goto (tgt := 46) X dX8_buy_126 (by decide) ?_
                exact ih46 _ _ _ (by first | (simp only [mbF, bI_0', bI_1', bI_0, bI_1, bI_inj, c_59, c_79, c_87, c_98, c_112, decide_true, decide_false, Bool.and_true, Bool.true_and, Bool.and_false, Bool.false_and, Bool.or_true, Bool.true_or, Bool.or_false, Bool.false_or, Bool.not_true, Bool.not_false, if_true, if_false, ite_true, ite_false, Bool.false_eq_true, not_true_eq_false, not_false_eq_true, bI_t, bI_f, decide_eq_true_eq, reduceCtorEq]; done) | (simp [mbF, bI_0', bI_1', bI_0, bI_1, bI_inj, c_59, c_79, c_87, c_98, c_112]; done) | simp_all) (by first | (simp only [mbF, bI_0', bI_1', bI_0, bI_1, bI_inj, c_59, c_79, c_87, c_98, c_112, decide_true, decide_false, Bool.and_true, Bool.true_and, Bool.and_false, Bool.false_and, Bool.or_true, Bool.true_or, Bool.or_false, Bool.false_or, Bool.not_true, Bool.not_false, if_true, if_false, ite_true, ite_false, Bool.false_eq_true, not_true_eq_false, not_false_eq_true, bI_t, bI_f, decide_eq_true_eq, reduceCtorEq]; done) | (simp [mbF, bI_0', bI_1', bI_0, bI_1, bI_inj, c_59, c_79, c_87, c_98, c_112]; done) | simp_all) (by first | (simp only [mbF, bI_0', bI_1', bI_0, bI_1, bI_inj, c_59, c_79, c_87, c_98, c_112, decide_true, decide_false, Bool.and_true, Bool.true_and, Bool.and_false, Bool.false_and, Bool.or_true, Bool.true_or, Bool.or_false, Bool.false_or, Bool.not_true, Bool.not_false, if_true, if_false, ite_true, ite_false, Bool.false_eq_true, not_true_eq_false, not_false_eq_true, bI_t, bI_f, decide_eq_true_eq, reduceCtorEq]; done) | (simp [mbF, bI_0', bI_1', bI_0, bI_1, bI_inj, c_59, c_79, c_87, c_98, c_112]; done) | simp_all)
              · refine zw_iconst (v := 1) X dX8_buy_115 ik_1 ?_
                refine zw_goto (tgt := 120) X dX8_buy_116 (by decide) ?_
                refine zw_istore_4 X dX8_buy_120 ?_
                refine zw_aload_0 X dX8_buy_122 ?_
                refine zw_cV_nv X dX8_buy_123 lk_X8_134 ok_MX8_pass vi_MX8_pass rm_X8_buy_X8_pass sh_42 rfl (Nat.le_of_ble_eq_true rfl) t_X8_pass ?_
                refine zw_goto (tgt := 46) X dX8_buy_126 (by decide) ?_
                exact ih46 _ _ _ (by first | (simp only [mbF, bI_0', bI_1', bI_0, bI_1, bI_inj, c_59, c_79, c_87, c_98, eq_true c_112, decide_true, decide_false, Bool.and_true, Bool.true_and, Bool.and_false, Bool.false_and, Bool.or_true, Bool.true_or, Bool.or_false, Bool.false_or, Bool.not_true, Bool.not_false, if_true, if_false, ite_true, ite_false, Bool.false_eq_true, not_true_eq_false, not_false_eq_true, bI_t, bI_f, decide_eq_true_eq, reduceCtorEq]; done) | (simp [mbF, bI_0', bI_1', bI_0, bI_1, bI_inj, c_59, c_79, c_87, c_98, eq_true c_112]; done) | simp_all) (by first | (simp only [mbF, bI_0', bI_1', bI_0, bI_1, bI_inj, c_59, c_79, c_87, c_98, eq_true c_112, decide_true, decide_false, Bool.and_true, Bool.true_and, Bool.and_false, Bool.false_and, Bool.or_true, Bool.true_or, Bool.or_false, Bool.false_or, Bool.not_true, Bool.not_false, if_true, if_false, ite_true, ite_false, Bool.false_eq_true, not_true_eq_false, not_false_eq_true, bI_t, bI_f, decide_eq_true_eq, reduceCtorEq]; done) | (simp [mbF, bI_0', bI_1', bI_0, bI_1, bI_inj, c_59, c_79, c_87, c_98, eq_true c_112]; done) | simp_all) (by first | (simp only [mbF, bI_0', bI_1', bI_0, bI_1, bI_inj, c_59, c_79, c_87, c_98, eq_true c_112, decide_true, decide_false, Bool.and_true, Bool.true_and, Bool.and_false, Bool.false_and, Bool.or_true, Bool.true_or, Bool.or_false, Bool.false_or, Bool.not_true, Bool.not_false, if_true, if_false, ite_true, ite_false, Bool.false_eq_true, not_true_eq_false, not_false_eq_true, bI_t, bI_f, decide_eq_true_eq, reduceCtorEq]; done) | (simp [mbF, bI_0', bI_1', bI_0, bI_1, bI_inj, c_59, c_79, c_87, c_98, eq_true c_112]; done) | simp_all)
      · refine zw_aload_0 X dX8_buy_62 ?_
        refine zw_iload_1 X dX8_buy_63 ?_
        refine zw_cV_ii X dX8_buy_64 lk_X8_119 ok_MX8_ridesNow vi_MX8_ridesNow rm_X8_buy_X8_ridesNow sh_42 rfl (Nat.le_of_ble_eq_true rfl) (t_X8_ridesNow ht) ?_
        refine zw_ifeqB (tgt := 74) X dX8_buy_67 (by decide) (fun c_67 => ?_) (fun c_67 => ?_)
        · refine zw_iconst (v := 0) X dX8_buy_74 ik_0 ?_
          refine zw_istore_5 X dX8_buy_75 ?_
          refine zw_iload_4 X dX8_buy_77 ?_
          refine zw_ifeqB (tgt := 119) X dX8_buy_79 (by decide) (fun c_79 => ?_) (fun c_79 => ?_)
          · refine zw_iconst (v := 0) X dX8_buy_119 ik_0 ?_
            refine zw_istore_4 X dX8_buy_120 ?_
            refine zw_aload_0 X dX8_buy_122 ?_
            refine zw_cV_nv X dX8_buy_123 lk_X8_134 ok_MX8_pass vi_MX8_pass rm_X8_buy_X8_pass sh_42 rfl (Nat.le_of_ble_eq_true rfl) t_X8_pass ?_
            refine zw_goto (tgt := 46) X dX8_buy_126 (by decide) ?_
            exact ih46 _ _ _ (by first | (simp only [mbF, bI_0', bI_1', bI_0, bI_1, bI_inj, c_59, c_67, c_79, decide_true, decide_false, Bool.and_true, Bool.true_and, Bool.and_false, Bool.false_and, Bool.or_true, Bool.true_or, Bool.or_false, Bool.false_or, Bool.not_true, Bool.not_false, if_true, if_false, ite_true, ite_false, Bool.false_eq_true, not_true_eq_false, not_false_eq_true, bI_t, bI_f, decide_eq_true_eq, reduceCtorEq]; done) | (simp [mbF, bI_0', bI_1', bI_0, bI_1, bI_inj, c_59, c_67, c_79]; done) | simp_all) (by first | (simp only [mbF, bI_0', bI_1', bI_0, bI_1, bI_inj, c_59, c_67, c_79, decide_true, decide_false, Bool.and_true, Bool.true_and, Bool.and_false, Bool.false_and, Bool.or_true, Bool.true_or, Bool.or_false, Bool.false_or, Bool.not_true, Bool.not_false, if_true, if_false, ite_true, ite_false, Bool.false_eq_true, not_true_eq_false, not_false_eq_true, bI_t, bI_f, decide_eq_true_eq, reduceCtorEq]; done) | (simp [mbF, bI_0', bI_1', bI_0, bI_1, bI_inj, c_59, c_67, c_79]; done) | simp_all) (by first | (simp only [mbF, bI_0', bI_1', bI_0, bI_1, bI_inj, c_59, c_67, c_79, decide_true, decide_false, Bool.and_true, Bool.true_and, Bool.and_false, Bool.false_and, Bool.or_true, Bool.true_or, Bool.or_false, Bool.false_or, Bool.not_true, Bool.not_false, if_true, if_false, ite_true, ite_false, Bool.false_eq_true, not_true_eq_false, not_false_eq_true, bI_t, bI_f, decide_eq_true_eq, reduceCtorEq]; done) | (simp [mbF, bI_0', bI_1', bI_0, bI_1, bI_inj, c_59, c_67, c_79]; done) | simp_all)
          · refine zw_aload_0 X dX8_buy_82 ?_
            refine zw_iload_1 X dX8_buy_83 ?_
            refine zw_cV_ii X dX8_buy_84 lk_X8_119 ok_MX8_ridesNow vi_MX8_ridesNow rm_X8_buy_X8_ridesNow sh_42 rfl (Nat.le_of_ble_eq_true rfl) (t_X8_ridesNow ht) ?_
            refine zw_ifeqB (tgt := 115) X dX8_buy_87 (by decide) (fun c_87 => ?_) (fun c_87 => ?_)
            · refine zw_iconst (v := 1) X dX8_buy_115 ik_1 ?_
              refine zw_goto (tgt := 120) X dX8_buy_116 (by decide) ?_
              refine zw_istore_4 X dX8_buy_120 ?_
              refine zw_aload_0 X dX8_buy_122 ?_
              refine zw_cV_nv X dX8_buy_123 lk_X8_134 ok_MX8_pass vi_MX8_pass rm_X8_buy_X8_pass sh_42 rfl (Nat.le_of_ble_eq_true rfl) t_X8_pass ?_
              refine zw_goto (tgt := 46) X dX8_buy_126 (by decide) ?_
              exact ih46 _ _ _ (by first | (simp only [mbF, bI_0', bI_1', bI_0, bI_1, bI_inj, c_59, c_67, c_79, c_87, decide_true, decide_false, Bool.and_true, Bool.true_and, Bool.and_false, Bool.false_and, Bool.or_true, Bool.true_or, Bool.or_false, Bool.false_or, Bool.not_true, Bool.not_false, if_true, if_false, ite_true, ite_false, Bool.false_eq_true, not_true_eq_false, not_false_eq_true, bI_t, bI_f, decide_eq_true_eq, reduceCtorEq]; done) | (simp [mbF, bI_0', bI_1', bI_0, bI_1, bI_inj, c_59, c_67, c_79, c_87]; done) | simp_all) (by first | (simp only [mbF, bI_0', bI_1', bI_0, bI_1, bI_inj, c_59, c_67, c_79, c_87, decide_true, decide_false, Bool.and_true, Bool.true_and, Bool.and_false, Bool.false_and, Bool.or_true, Bool.true_or, Bool.or_false, Bool.false_or, Bool.not_true, Bool.not_false, if_true, if_false, ite_true, ite_false, Bool.false_eq_true, not_true_eq_false, not_false_eq_true, bI_t, bI_f, decide_eq_true_eq, reduceCtorEq]; done) | (simp [mbF, bI_0', bI_1', bI_0, bI_1, bI_inj, c_59, c_67, c_79, c_87]; done) | simp_all) (by first | (simp only [mbF, bI_0', bI_1', bI_0, bI_1, bI_inj, c_59, c_67, c_79, c_87, decide_true, decide_false, Bool.and_true, Bool.true_and, Bool.and_false, Bool.false_and, Bool.or_true, Bool.true_or, Bool.or_false, Bool.false_or, Bool.not_true, Bool.not_false, if_true, if_false, ite_true, ite_false, Bool.false_eq_true, not_true_eq_false, not_false_eq_true, bI_t, bI_f, decide_eq_true_eq, reduceCtorEq]; done) | (simp [mbF, bI_0', bI_1', bI_0, bI_1, bI_inj, c_59, c_67, c_79, c_87]; done) | simp_all)
            · refine zw_aload_0 X dX8_buy_90 ?_
              refine zw_aload_0 X dX8_buy_91 ?_
              refine zw_getI X dX8_buy_92 fl_X8_98 ck_X8 sh_42 rfl ?_
              refine zw_cV_ii X dX8_buy_95 lk_X8_113 ok_MX8_isTunnel vi_MX8_isTunnel rm_X8_buy_X8_isTunnel sh_42 rfl (Nat.le_of_ble_eq_true rfl) t_X8_isTunnel ?_
              refine zw_ifneB (tgt := 115) X dX8_buy_98 (by decide) (fun c_98 => ?_) (fun c_98 => ?_)
              · refine zw_iconst (v := 1) X dX8_buy_115 ik_1 ?_
                refine zw_goto (tgt := 120) X dX8_buy_116 (by decide) ?_
                refine zw_istore_4 X dX8_buy_120 ?_
                refine zw_aload_0 X dX8_buy_122 ?_
                refine zw_cV_nv X dX8_buy_123 lk_X8_134 ok_MX8_pass vi_MX8_pass rm_X8_buy_X8_pass sh_42 rfl (Nat.le_of_ble_eq_true rfl) t_X8_pass ?_
                refine zw_goto (tgt := 46) X dX8_buy_126 (by decide) ?_
                exact ih46 _ _ _ (by first | (simp only [mbF, bI_0', bI_1', bI_0, bI_1, bI_inj, c_59, c_67, c_79, c_87, c_98, decide_true, decide_false, Bool.and_true, Bool.true_and, Bool.and_false, Bool.false_and, Bool.or_true, Bool.true_or, Bool.or_false, Bool.false_or, Bool.not_true, Bool.not_false, if_true, if_false, ite_true, ite_false, Bool.false_eq_true, not_true_eq_false, not_false_eq_true, bI_t, bI_f, decide_eq_true_eq, reduceCtorEq]; done) | (simp [mbF, bI_0', bI_1', bI_0, bI_1, bI_inj, c_59, c_67, c_79, c_87, c_98]; done) | simp_all) (by first | (simp only [mbF, bI_0', bI_1', bI_0, bI_1, bI_inj, c_59, c_67, c_79, c_87, c_98, decide_true, decide_false, Bool.and_true, Bool.true_and, Bool.and_false, Bool.false_and, Bool.or_true, Bool.true_or, Bool.or_false, Bool.false_or, Bool.not_true, Bool.not_false, if_true, if_false, ite_true, ite_false, Bool.false_eq_true, not_true_eq_false, not_false_eq_true, bI_t, bI_f, decide_eq_true_eq, reduceCtorEq]; done) | (simp [mbF, bI_0', bI_1', bI_0, bI_1, bI_inj, c_59, c_67, c_79, c_87, c_98]; done) | simp_all) (by first | (simp only [mbF, bI_0', bI_1', bI_0, bI_1, bI_inj, c_59, c_67, c_79, c_87, c_98, decide_true, decide_false, Bool.and_true, Bool.true_and, Bool.and_false, Bool.false_and, Bool.or_true, Bool.true_or, Bool.or_false, Bool.false_or, Bool.not_true, Bool.not_false, if_true, if_false, ite_true, ite_false, Bool.false_eq_true, not_true_eq_false, not_false_eq_true, bI_t, bI_f, decide_eq_true_eq, reduceCtorEq]; done) | (simp [mbF, bI_0', bI_1', bI_0, bI_1, bI_inj, c_59, c_67, c_79, c_87, c_98]; done) | simp_all)
              · refine zw_aload_0 X dX8_buy_101 ?_
                refine zw_aload_0 X dX8_buy_102 ?_
                refine zw_getR X dX8_buy_103 fl_X8_20 ck_X8 sh_42 rfl ?_
                refine zw_iload_1 X dX8_buy_106 ?_
                refine zw_iald X dX8_buy_107 sh_45 ht ?_
                refine zw_cV_ii X dX8_buy_108 lk_X8_116 ok_MX8_holder vi_MX8_holder rm_X8_buy_X8_holder sh_42 rfl (Nat.le_of_ble_eq_true rfl) t_X8_holder ?_
                refine zw_iload_1 X dX8_buy_111 ?_
                refine zw_icmpne (tgt := 119) X dX8_buy_112 (by decide) (fun c_112 => ?_) (fun c_112 => ?_)
                · refine zw_iconst (v := 0) X dX8_buy_119 ik_0 ?_
                  refine zw_istore_4 X dX8_buy_120 ?_
                  refine zw_aload_0 X dX8_buy_122 ?_
                  refine zw_cV_nv X dX8_buy_123 lk_X8_134 ok_MX8_pass vi_MX8_pass rm_X8_buy_X8_pass sh_42 rfl (Nat.le_of_ble_eq_true rfl) t_X8_pass ?_
                  refine zw_goto (tgt := 46) X dX8_buy_126 (by decide) ?_
                  exact ih46 _ _ _ (by first | (simp only [mbF, bI_0', bI_1', bI_0, bI_1, bI_inj, c_59, c_67, c_79, c_87, c_98, c_112, decide_true, decide_false, Bool.and_true, Bool.true_and, Bool.and_false, Bool.false_and, Bool.or_true, Bool.true_or, Bool.or_false, Bool.false_or, Bool.not_true, Bool.not_false, if_true, if_false, ite_true, ite_false, Bool.false_eq_true, not_true_eq_false, not_false_eq_true, bI_t, bI_f, decide_eq_true_eq, reduceCtorEq]; done) | (simp [mbF, bI_0', bI_1', bI_0, bI_1, bI_inj, c_59, c_67, c_79, c_87, c_98, c_112]; done) | simp_all) (by first | (simp only [mbF, bI_0', bI_1', bI_0, bI_1, bI_inj, c_59, c_67, c_79, c_87, c_98, c_112, decide_true, decide_false, Bool.and_true, Bool.true_and, Bool.and_false, Bool.false_and, Bool.or_true, Bool.true_or, Bool.or_false, Bool.false_or, Bool.not_true, Bool.not_false, if_true, if_false, ite_true, ite_false, Bool.false_eq_true, not_true_eq_false, not_false_eq_true, bI_t, bI_f, decide_eq_true_eq, reduceCtorEq]; done) | (simp [mbF, bI_0', bI_1', bI_0, bI_1, bI_inj, c_59, c_67, c_79, c_87, c_98, c_112]; done) | simp_all) (by first | (simp only [mbF, bI_0', bI_1', bI_0, bI_1, bI_inj, c_59, c_67, c_79, c_87, c_98, c_112, decide_true, decide_false, Bool.and_true, Bool.true_and, Bool.and_false, Bool.false_and, Bool.or_true, Bool.true_or, Bool.or_false, Bool.false_or, Bool.not_true, Bool.not_false, if_true, if_false, ite_true, ite_false, Bool.false_eq_true, not_true_eq_false, not_false_eq_true, bI_t, bI_f, decide_eq_true_eq, reduceCtorEq]; done) | (simp [mbF, bI_0', bI_1', bI_0, bI_1, bI_inj, c_59, c_67, c_79, c_87, c_98, c_112]; done) | simp_all)
                · refine zw_iconst (v := 1) X dX8_buy_115 ik_1 ?_
                  refine zw_goto (tgt := 120) X dX8_buy_116 (by decide) ?_
                  refine zw_istore_4 X dX8_buy_120 ?_
                  refine zw_aload_0 X dX8_buy_122 ?_
                  refine zw_cV_nv X dX8_buy_123 lk_X8_134 ok_MX8_pass vi_MX8_pass rm_X8_buy_X8_pass sh_42 rfl (Nat.le_of_ble_eq_true rfl) t_X8_pass ?_
                  refine zw_goto (tgt := 46) X dX8_buy_126 (by decide) ?_
                  exact ih46 _ _ _ (by first | (simp only [mbF, bI_0', bI_1', bI_0, bI_1, bI_inj, c_59, c_67, c_79, c_87, c_98, eq_true c_112, decide_true, decide_false, Bool.and_true, Bool.true_and, Bool.and_false, Bool.false_and, Bool.or_true, Bool.true_or, Bool.or_false, Bool.false_or, Bool.not_true, Bool.not_false, if_true, if_false, ite_true, ite_false, Bool.false_eq_true, not_true_eq_false, not_false_eq_true, bI_t, bI_f, decide_eq_true_eq, reduceCtorEq]; done) | (simp [mbF, bI_0', bI_1', bI_0, bI_1, bI_inj, c_59, c_67, c_79, c_87, c_98, eq_true c_112]; done) | simp_all) (by first | (simp only [mbF, bI_0', bI_1', bI_0, bI_1, bI_inj, c_59, c_67, c_79, c_87, c_98, eq_true c_112, decide_true, decide_false, Bool.and_true, Bool.true_and, Bool.and_false, Bool.false_and, Bool.or_true, Bool.true_or, Bool.or_false, Bool.false_or, Bool.not_true, Bool.not_false, if_true, if_false, ite_true, ite_false, Bool.false_eq_true, not_true_eq_false, not_false_eq_true, bI_t, bI_f, decide_eq_true_eq, reduceCtorEq]; done) | (simp [mbF, bI_0', bI_1', bI_0, bI_1, bI_inj, c_59, c_67, c_79, c_87, c_98, eq_true c_112]; done) | simp_all) (by first | (simp only [mbF, bI_0', bI_1', bI_0, bI_1, bI_inj, c_59, c_67, c_79, c_87, c_98, eq_true c_112, decide_true, decide_false, Bool.and_true, Bool.true_and, Bool.and_false, Bool.false_and, Bool.or_true, Bool.true_or, Bool.or_false, Bool.false_or, Bool.not_true, Bool.not_false, if_true, if_false, ite_true, ite_false, Bool.false_eq_true, not_true_eq_false, not_false_eq_true, bI_t, bI_f, decide_eq_true_eq, reduceCtorEq]; done) | (simp [mbF, bI_0', bI_1', bI_0, bI_1, bI_inj, c_59, c_67, c_79, c_87, c_98, eq_true c_112]; done) | simp_all)
        · refine zw_iconst (v := 1) X dX8_buy_70 ik_1 ?_
          refine zw_goto (tgt := 75) X dX8_buy_71 (by decide) ?_
          refine zw_istore_5 X dX8_buy_75 ?_
          refine zw_iload_4 X dX8_buy_77 ?_
          refine zw_ifeqB (tgt := 119) X dX8_buy_79 (by decide) (fun c_79 => ?_) (fun c_79 => ?_)
          · refine zw_iconst (v := 0) X dX8_buy_119 ik_0 ?_
            refine zw_istore_4 X dX8_buy_120 ?_
            refine zw_aload_0 X dX8_buy_122 ?_
            refine zw_cV_nv X dX8_buy_123 lk_X8_134 ok_MX8_pass vi_MX8_pass rm_X8_buy_X8_pass sh_42 rfl (Nat.le_of_ble_eq_true rfl) t_X8_pass ?_
            refine zw_goto (tgt := 46) X dX8_buy_126 (by decide) ?_
            exact ih46 _ _ _ (by first | (simp only [mbF, bI_0', bI_1', bI_0, bI_1, bI_inj, c_59, c_67, c_79, decide_true, decide_false, Bool.and_true, Bool.true_and, Bool.and_false, Bool.false_and, Bool.or_true, Bool.true_or, Bool.or_false, Bool.false_or, Bool.not_true, Bool.not_false, if_true, if_false, ite_true, ite_false, Bool.false_eq_true, not_true_eq_false, not_false_eq_true, bI_t, bI_f, decide_eq_true_eq, reduceCtorEq]; done) | (simp [mbF, bI_0', bI_1', bI_0, bI_1, bI_inj, c_59, c_67, c_79]; done) | simp_all) (by first | (simp only [mbF, bI_0', bI_1', bI_0, bI_1, bI_inj, c_59, c_67, c_79, decide_true, decide_false, Bool.and_true, Bool.true_and, Bool.and_false, Bool.false_and, Bool.or_true, Bool.true_or, Bool.or_false, Bool.false_or, Bool.not_true, Bool.not_false, if_true, if_false, ite_true, ite_false, Bool.false_eq_true, not_true_eq_false, not_false_eq_true, bI_t, bI_f, decide_eq_true_eq, reduceCtorEq]; done) | (simp [mbF, bI_0', bI_1', bI_0, bI_1, bI_inj, c_59, c_67, c_79]; done) | simp_all) (by first | (simp only [mbF, bI_0', bI_1', bI_0, bI_1, bI_inj, c_59, c_67, c_79, decide_true, decide_false, Bool.and_true, Bool.true_and, Bool.and_false, Bool.false_and, Bool.or_true, Bool.true_or, Bool.or_false, Bool.false_or, Bool.not_true, Bool.not_false, if_true, if_false, ite_true, ite_false, Bool.false_eq_true, not_true_eq_false, not_false_eq_true, bI_t, bI_f, decide_eq_true_eq, reduceCtorEq]; done) | (simp [mbF, bI_0', bI_1', bI_0, bI_1, bI_inj, c_59, c_67, c_79]; done) | simp_all)
          · refine zw_aload_0 X dX8_buy_82 ?_
            refine zw_iload_1 X dX8_buy_83 ?_
            refine zw_cV_ii X dX8_buy_84 lk_X8_119 ok_MX8_ridesNow vi_MX8_ridesNow rm_X8_buy_X8_ridesNow sh_42 rfl (Nat.le_of_ble_eq_true rfl) (t_X8_ridesNow ht) ?_
            refine zw_ifeqB (tgt := 115) X dX8_buy_87 (by decide) (fun c_87 => ?_) (fun c_87 => ?_)
            · refine zw_iconst (v := 1) X dX8_buy_115 ik_1 ?_
              refine zw_goto (tgt := 120) X dX8_buy_116 (by decide) ?_
              refine zw_istore_4 X dX8_buy_120 ?_
              refine zw_aload_0 X dX8_buy_122 ?_
              refine zw_cV_nv X dX8_buy_123 lk_X8_134 ok_MX8_pass vi_MX8_pass rm_X8_buy_X8_pass sh_42 rfl (Nat.le_of_ble_eq_true rfl) t_X8_pass ?_
              refine zw_goto (tgt := 46) X dX8_buy_126 (by decide) ?_
              exact ih46 _ _ _ (by first | (simp only [mbF, bI_0', bI_1', bI_0, bI_1, bI_inj, c_59, c_67, c_79, c_87, decide_true, decide_false, Bool.and_true, Bool.true_and, Bool.and_false, Bool.false_and, Bool.or_true, Bool.true_or, Bool.or_false, Bool.false_or, Bool.not_true, Bool.not_false, if_true, if_false, ite_true, ite_false, Bool.false_eq_true, not_true_eq_false, not_false_eq_true, bI_t, bI_f, decide_eq_true_eq, reduceCtorEq]; done) | (simp [mbF, bI_0', bI_1', bI_0, bI_1, bI_inj, c_59, c_67, c_79, c_87]; done) | simp_all) (by first | (simp only [mbF, bI_0', bI_1', bI_0, bI_1, bI_inj, c_59, c_67, c_79, c_87, decide_true, decide_false, Bool.and_true, Bool.true_and, Bool.and_false, Bool.false_and, Bool.or_true, Bool.true_or, Bool.or_false, Bool.false_or, Bool.not_true, Bool.not_false, if_true, if_false, ite_true, ite_false, Bool.false_eq_true, not_true_eq_false, not_false_eq_true, bI_t, bI_f, decide_eq_true_eq, reduceCtorEq]; done) | (simp [mbF, bI_0', bI_1', bI_0, bI_1, bI_inj, c_59, c_67, c_79, c_87]; done) | simp_all) (by first | (simp only [mbF, bI_0', bI_1', bI_0, bI_1, bI_inj, c_59, c_67, c_79, c_87, decide_true, decide_false, Bool.and_true, Bool.true_and, Bool.and_false, Bool.false_and, Bool.or_true, Bool.true_or, Bool.or_false, Bool.false_or, Bool.not_true, Bool.not_false, if_true, if_false, ite_true, ite_false, Bool.false_eq_true, not_true_eq_false, not_false_eq_true, bI_t, bI_f, decide_eq_true_eq, reduceCtorEq]; done) | (simp [mbF, bI_0', bI_1', bI_0, bI_1, bI_inj, c_59, c_67, c_79, c_87]; done) | simp_all)
            · refine zw_aload_0 X dX8_buy_90 ?_
              refine zw_aload_0 X dX8_buy_91 ?_
              refine zw_getI X dX8_buy_92 fl_X8_98 ck_X8 sh_42 rfl ?_
              refine zw_cV_ii X dX8_buy_95 lk_X8_113 ok_MX8_isTunnel vi_MX8_isTunnel rm_X8_buy_X8_isTunnel sh_42 rfl (Nat.le_of_ble_eq_true rfl) t_X8_isTunnel ?_
              refine zw_ifneB (tgt := 115) X dX8_buy_98 (by decide) (fun c_98 => ?_) (fun c_98 => ?_)
              · refine zw_iconst (v := 1) X dX8_buy_115 ik_1 ?_
                refine zw_goto (tgt := 120) X dX8_buy_116 (by decide) ?_
                refine zw_istore_4 X dX8_buy_120 ?_
                refine zw_aload_0 X dX8_buy_122 ?_
                refine zw_cV_nv X dX8_buy_123 lk_X8_134 ok_MX8_pass vi_MX8_pass rm_X8_buy_X8_pass sh_42 rfl (Nat.le_of_ble_eq_true rfl) t_X8_pass ?_
                refine zw_goto (tgt := 46) X dX8_buy_126 (by decide) ?_
                exact ih46 _ _ _ (by first | (simp only [mbF, bI_0', bI_1', bI_0, bI_1, bI_inj, c_59, c_67, c_79, c_87, c_98, decide_true, decide_false, Bool.and_true, Bool.true_and, Bool.and_false, Bool.false_and, Bool.or_true, Bool.true_or, Bool.or_false, Bool.false_or, Bool.not_true, Bool.not_false, if_true, if_false, ite_true, ite_false, Bool.false_eq_true, not_true_eq_false, not_false_eq_true, bI_t, bI_f, decide_eq_true_eq, reduceCtorEq]; done) | (simp [mbF, bI_0', bI_1', bI_0, bI_1, bI_inj, c_59, c_67, c_79, c_87, c_98]; done) | simp_all) (by first | (simp only [mbF, bI_0', bI_1', bI_0, bI_1, bI_inj, c_59, c_67, c_79, c_87, c_98, decide_true, decide_false, Bool.and_true, Bool.true_and, Bool.and_false, Bool.false_and, Bool.or_true, Bool.true_or, Bool.or_false, Bool.false_or, Bool.not_true, Bool.not_false, if_true, if_false, ite_true, ite_false, Bool.false_eq_true, not_true_eq_false, not_false_eq_true, bI_t, bI_f, decide_eq_true_eq, reduceCtorEq]; done) | (simp [mbF, bI_0', bI_1', bI_0, bI_1, bI_inj, c_59, c_67, c_79, c_87, c_98]; done) | simp_all) (by first | (simp only [mbF, bI_0', bI_1', bI_0, bI_1, bI_inj, c_59, c_67, c_79, c_87, c_98, decide_true, decide_false, Bool.and_true, Bool.true_and, Bool.and_false, Bool.false_and, Bool.or_true, Bool.true_or, Bool.or_false, Bool.false_or, Bool.not_true, Bool.not_false, if_true, if_false, ite_true, ite_false, Bool.false_eq_true, not_true_eq_false, not_false_eq_true, bI_t, bI_f, decide_eq_true_eq, reduceCtorEq]; done) | (simp [mbF, bI_0', bI_1', bI_0, bI_1, bI_inj, c_59, c_67, c_79, c_87, c_98]; done) | simp_all)
              · refine zw_aload_0 X dX8_buy_101 ?_
                refine zw_aload_0 X dX8_buy_102 ?_
                refine zw_getR X dX8_buy_103 fl_X8_20 ck_X8 sh_42 rfl ?_
                refine zw_iload_1 X dX8_buy_106 ?_
                refine zw_iald X dX8_buy_107 sh_45 ht ?_
                refine zw_cV_ii X dX8_buy_108 lk_X8_116 ok_MX8_holder vi_MX8_holder rm_X8_buy_X8_holder sh_42 rfl (Nat.le_of_ble_eq_true rfl) t_X8_holder ?_
                refine zw_iload_1 X dX8_buy_111 ?_
                refine zw_icmpne (tgt := 119) X dX8_buy_112 (by decide) (fun c_112 => ?_) (fun c_112 => ?_)
                · refine zw_iconst (v := 0) X dX8_buy_119 ik_0 ?_
                  refine zw_istore_4 X dX8_buy_120 ?_
                  refine zw_aload_0 X dX8_buy_122 ?_
                  refine zw_cV_nv X dX8_buy_123 lk_X8_134 ok_MX8_pass vi_MX8_pass rm_X8_buy_X8_pass sh_42 rfl (Nat.le_of_ble_eq_true rfl) t_X8_pass ?_
                  refine zw_goto (tgt := 46) X dX8_buy_126 (by decide) ?_
                  exact ih46 _ _ _ (by first | (simp only [mbF, bI_0', bI_1', bI_0, bI_1, bI_inj, c_59, c_67, c_79, c_87, c_98, c_112, decide_true, decide_false, Bool.and_true, Bool.true_and, Bool.and_false, Bool.false_and, Bool.or_true, Bool.true_or, Bool.or_false, Bool.false_or, Bool.not_true, Bool.not_false, if_true, if_false, ite_true, ite_false, Bool.false_eq_true, not_true_eq_false, not_false_eq_true, bI_t, bI_f, decide_eq_true_eq, reduceCtorEq]; done) | (simp [mbF, bI_0', bI_1', bI_0, bI_1, bI_inj, c_59, c_67, c_79, c_87, c_98, c_112]; done) | simp_all) (by first | (simp only [mbF, bI_0', bI_1', bI_0, bI_1, bI_inj, c_59, c_67, c_79, c_87, c_98, c_112, decide_true, decide_false, Bool.and_true, Bool.true_and, Bool.and_false, Bool.false_and, Bool.or_true, Bool.true_or, Bool.or_false, Bool.false_or, Bool.not_true, Bool.not_false, if_true, if_false, ite_true, ite_false, Bool.false_eq_true, not_true_eq_false, not_false_eq_true, bI_t, bI_f, decide_eq_true_eq, reduceCtorEq]; done) | (simp [mbF, bI_0', bI_1', bI_0, bI_1, bI_inj, c_59, c_67, c_79, c_87, c_98, c_112]; done) | simp_all) (by first | (simp only [mbF, bI_0', bI_1', bI_0, bI_1, bI_inj, c_59, c_67, c_79, c_87, c_98, c_112, decide_true, decide_false, Bool.and_true, Bool.true_and, Bool.and_false, Bool.false_and, Bool.or_true, Bool.true_or, Bool.or_false, Bool.false_or, Bool.not_true, Bool.not_false, if_true, if_false, ite_true, ite_false, Bool.false_eq_true, not_true_eq_false, not_false_eq_true, bI_t, bI_f, decide_eq_true_eq, reduceCtorEq]; done) | (simp [mbF, bI_0', bI_1', bI_0, bI_1, bI_inj, c_59, c_67, c_79, c_87, c_98, c_112]; done) | simp_all)
                · refine zw_iconst (v := 1) X dX8_buy_115 ik_1 ?_
                  refine zw_goto (tgt := 120) X dX8_buy_116 (by decide) ?_
                  refine zw_istore_4 X dX8_buy_120 ?_
                  refine zw_aload_0 X dX8_buy_122 ?_
                  refine zw_cV_nv X dX8_buy_123 lk_X8_134 ok_MX8_pass vi_MX8_pass rm_X8_buy_X8_pass sh_42 rfl (Nat.le_of_ble_eq_true rfl) t_X8_pass ?_
                  refine zw_goto (tgt := 46) X dX8_buy_126 (by decide) ?_
                  exact ih46 _ _ _ (by first | (simp only [mbF, bI_0', bI_1', bI_0, bI_1, bI_inj, c_59, c_67, c_79, c_87, c_98, eq_true c_112, decide_true, decide_false, Bool.and_true, Bool.true_and, Bool.and_false, Bool.false_and, Bool.or_true, Bool.true_or, Bool.or_false, Bool.false_or, Bool.not_true, Bool.not_false, if_true, if_false, ite_true, ite_false, Bool.false_eq_true, not_true_eq_false, not_false_eq_true, bI_t, bI_f, decide_eq_true_eq, reduceCtorEq]; done) | (simp [mbF, bI_0', bI_1', bI_0, bI_1, bI_inj, c_59, c_67, c_79, c_87, c_98, eq_true c_112]; done) | simp_all) (by first | (simp only [mbF, bI_0', bI_1', bI_0, bI_1, bI_inj, c_59, c_67, c_79, c_87, c_98, eq_true c_112, decide_true, decide_false, Bool.and_true, Bool.true_and, Bool.and_false, Bool.false_and, Bool.or_true, Bool.true_or, Bool.or_false, Bool.false_or, Bool.not_true, Bool.not_false, if_true, if_false, ite_true, ite_false, Bool.false_eq_true, not_true_eq_false, not_false_eq_true, bI_t, bI_f, decide_eq_true_eq, reduceCtorEq]; done) | (simp [mbF, bI_0', bI_1', bI_0, bI_1, bI_inj, c_59, c_67, c_79, c_87, c_98, eq_true c_112]; done) | simp_all) (by first | (simp only [mbF, bI_0', bI_1', bI_0, bI_1, bI_inj, c_59, c_67, c_79, c_87, c_98, eq_true c_112, decide_true, decide_false, Bool.and_true, Bool.true_and, Bool.and_false, Bool.false_and, Bool.or_true, Bool.true_or, Bool.or_false, Bool.false_or, Bool.not_true, Bool.not_false, if_true, if_false, ite_true, ite_false, Bool.false_eq_true, not_true_eq_false, not_false_eq_true, bI_t, bI_f, decide_eq_true_eq, reduceCtorEq]; done) | (simp [mbF, bI_0', bI_1', bI_0, bI_1, bI_inj, c_59, c_67, c_79, c_87, c_98, eq_true c_112]; done) | simp_all)
    · subst hv46_4 hv46_5 hs46
      have eA : mbA τ t (nI j) = a46 := ha46.symm
      refine zw_aload_0 X dX8_buy_46 ?_
      refine zw_getI X dX8_buy_47 fl_X8_98 ck_X8 sh_42 rfl ?_
      refine zw_aload_0 X dX8_buy_50 ?_
      refine zw_getI X dX8_buy_51 fl_X8_7 ck_X8 sh_42 rfl ?_
      refine zw_icmpge_t (tgt := 129) X dX8_buy_54 (by decide) (fun h => Nat.lt_irrefl _ ((run_lt (by rw [ha46]; exact itr3_run (fun _ _ => rfl) _ _) (Nat.le_refl _)).mp h)) ?_
      refine zw_iload_4 X dX8_buy_129 ?_
      refine zw_ifeqB (tgt := 154) X dX8_buy_131 (by decide) (fun c_131 => ?_) (fun c_131 => ?_)
      · refine zw_iinc_3_p1 X dX8_buy_154 ?_
        refine zw_goto (tgt := 23) X dX8_buy_157 (by decide) ?_
        refine zw_fg_4 ?_
        refine zw_fg_5 ?_
        rw [nI_1, show a46.2.2 = (mbA τ t (nI j)).2.2 by rw [eA]]
        exact ih (j + 1) _ (by omega) (mbGo_stepF F (by rw [eA]; first | (simp only [c_131, decide_true, decide_false, Bool.and_true, Bool.true_and, Bool.and_false, Bool.false_and, Bool.or_true, Bool.true_or, Bool.or_false, Bool.false_or, Bool.not_true, Bool.not_false, if_true, if_false, ite_true, ite_false, Bool.false_eq_true, not_true_eq_false, not_false_eq_true, bI_t, bI_f, decide_eq_true_eq, reduceCtorEq]; done) | (simp [c_131]; done) | simp_all))
      · refine zw_iload_5 X dX8_buy_134 ?_
        refine zw_ifeqB (tgt := 154) X dX8_buy_136 (by decide) (fun c_136 => ?_) (fun c_136 => ?_)
        · refine zw_iinc_3_p1 X dX8_buy_154 ?_
          refine zw_goto (tgt := 23) X dX8_buy_157 (by decide) ?_
          refine zw_fg_4 ?_
          refine zw_fg_5 ?_
          rw [nI_1, show a46.2.2 = (mbA τ t (nI j)).2.2 by rw [eA]]
          exact ih (j + 1) _ (by omega) (mbGo_stepF F (by rw [eA]; first | (simp only [c_131, c_136, decide_true, decide_false, Bool.and_true, Bool.true_and, Bool.and_false, Bool.false_and, Bool.or_true, Bool.true_or, Bool.or_false, Bool.false_or, Bool.not_true, Bool.not_false, if_true, if_false, ite_true, ite_false, Bool.false_eq_true, not_true_eq_false, not_false_eq_true, bI_t, bI_f, decide_eq_true_eq, reduceCtorEq]; done) | (simp [c_131, c_136]; done) | simp_all))
        · refine zw_iload_2 X dX8_buy_139 ?_
          refine zw_ifne (tgt := 147) X dX8_buy_140 (by decide) (fun c_140 => ?_) (fun c_140 => ?_)
          · refine zw_aload_0 X dX8_buy_147 ?_
            refine zw_getR X dX8_buy_148 fl_X8_44 ck_X8 sh_42 rfl ?_
            refine zw_iload_1 X dX8_buy_151 ?_
            refine zw_iald X dX8_buy_152 sh_52 ht ?_
            exact zw_iret X F dX8_buy_153 rfl (by rw [mbGo_hit (by rw [eA, c_131, c_136]; rfl), eA]; simp only [Y_byR, c_131, c_136, c_140, decide_true, decide_false, Bool.and_true, Bool.true_and, Bool.and_false, Bool.false_and, Bool.or_true, Bool.true_or, Bool.or_false, Bool.false_or, Bool.not_true, Bool.not_false, if_true, if_false, ite_true, ite_false, Bool.false_eq_true, not_true_eq_false, not_false_eq_true, bI_t, bI_f, decide_eq_true_eq, reduceCtorEq]) (by rw [mbGo_hit (by rw [eA, c_131, c_136]; rfl), eA])
          · refine zw_iload_3 X dX8_buy_143 ?_
            refine zw_goto (tgt := 153) X dX8_buy_144 (by decide) ?_
            exact zw_iret X F dX8_buy_153 rfl (by rw [mbGo_hit (by rw [eA, c_131, c_136]; rfl), eA]; simp only [Y_byR, c_131, c_136, eq_true c_140, decide_true, decide_false, Bool.and_true, Bool.true_and, Bool.and_false, Bool.false_and, Bool.or_true, Bool.true_or, Bool.or_false, Bool.false_or, Bool.not_true, Bool.not_false, if_true, if_false, ite_true, ite_false, Bool.false_eq_true, not_true_eq_false, not_false_eq_true, bI_t, bI_f, decide_eq_true_eq, reduceCtorEq]) (by rw [mbGo_hit (by rw [eA, c_131, c_136]; rfl), eA])
set_option maxRecDepth 20000 in
set_option maxHeartbeats 1000000 in
theorem t_X8_buy {σ : St} {t w : Int32} : Ct MX8_buy [.ref 42, .int t, .int w] σ (some (.int (Y_buy σ t w).1)) ((Y_buy σ t w).2) := by
  refine ct_of (ls0 := [some (.ref 42), some (.int t), some (.int w), none, none, none]) ok_MX8_buy rfl (Nat.le_of_ble_eq_true rfl) rfl ?_
  intro g X F
  refine zw_iload_1 X dX8_buy_0 ?_
  refine zw_cS_ii X dX8_buy_1 lk_X8_74 ok_MX8_isOne st_MX8_isOne rm_X8_buy_X8_isOne (Nat.le_of_ble_eq_true rfl) t_X8_isOne ?_
  refine zw_ifneB (tgt := 9) X dX8_buy_4 (by decide) (fun c_4 => ?_) (fun c_4 => ?_)
  · refine zw_iload_2 X dX8_buy_9 ?_
    refine zw_iconst (v := 0) X dX8_buy_10 ik_0 ?_
    refine zw_iconst (v := 1) X dX8_buy_11 ik_1 ?_
    refine zw_cS_iiii X dX8_buy_12 lk_X8_60 ok_MX8_in st_MX8_in rm_X8_buy_X8_in (Nat.le_of_ble_eq_true rfl) t_X8_in ?_
    refine zw_ifneB (tgt := 21) X dX8_buy_15 (by decide) (fun c_15 => ?_) (fun c_15 => ?_)
    · refine zw_iconst (v := 1) X dX8_buy_21 ik_1 ?_
      refine zw_istore_3 X dX8_buy_22 ?_
      refine l_X8_buy X (in6_of c_4) 99 1 _ rfl ?_
      simp only [Y_buy, c_4, c_15, if_true] at F
      exact F
    · refine zw_bipush (v := -2) X dX8_buy_18 bk_m2 ?_
      exact zw_iret X F dX8_buy_20 rfl (by first | (simp only [Y_buy, c_4, c_15, decide_true, decide_false, Bool.and_true, Bool.true_and, Bool.and_false, Bool.false_and, Bool.or_true, Bool.true_or, Bool.or_false, Bool.false_or, Bool.not_true, Bool.not_false, if_true, if_false, ite_true, ite_false, Bool.false_eq_true, not_true_eq_false, not_false_eq_true, bI_t, bI_f, decide_eq_true_eq, reduceCtorEq]; done) | (simp [Y_buy, c_4, c_15]; done) | simp_all) (by first | (simp only [Y_buy, c_4, c_15, decide_true, decide_false, Bool.and_true, Bool.true_and, Bool.and_false, Bool.false_and, Bool.or_true, Bool.true_or, Bool.or_false, Bool.false_or, Bool.not_true, Bool.not_false, if_true, if_false, ite_true, ite_false, Bool.false_eq_true, not_true_eq_false, not_false_eq_true, bI_t, bI_f, decide_eq_true_eq, reduceCtorEq]; done) | (simp [Y_buy, c_4, c_15]; done) | simp_all)
  · refine zw_iconst (v := -1) X dX8_buy_7 ik_m1 ?_
    exact zw_iret X F dX8_buy_8 rfl (by first | (simp only [Y_buy, c_4, decide_true, decide_false, Bool.and_true, Bool.true_and, Bool.and_false, Bool.false_and, Bool.or_true, Bool.true_or, Bool.or_false, Bool.false_or, Bool.not_true, Bool.not_false, if_true, if_false, ite_true, ite_false, Bool.false_eq_true, not_true_eq_false, not_false_eq_true, bI_t, bI_f, decide_eq_true_eq, reduceCtorEq]; done) | (simp [Y_buy, c_4]; done) | simp_all) (by first | (simp only [Y_buy, c_4, decide_true, decide_false, Bool.and_true, Bool.true_and, Bool.and_false, Bool.false_and, Bool.or_true, Bool.true_or, Bool.or_false, Bool.false_or, Bool.not_true, Bool.not_false, if_true, if_false, ite_true, ite_false, Bool.false_eq_true, not_true_eq_false, not_false_eq_true, bI_t, bI_f, decide_eq_true_eq, reduceCtorEq]; done) | (simp [Y_buy, c_4]; done) | simp_all)
set_option maxRecDepth 20000 in
set_option maxHeartbeats 1000000 in
theorem t_X8_ridesAtAll {σ : St} {k : Int32} (hk : vp_in k 6) : Ct MX8_ridesAtAll [.ref 42, .int k] σ (some (.int (bI (mAt σ k)))) (σ) := by
  refine ct_of (ls0 := [some (.ref 42), some (.int k), none, none]) ok_MX8_ridesAtAll rfl (Nat.le_of_ble_eq_true rfl) rfl ?_
  intro g X F
  refine zw_iconst (v := 0) X dX8_ridesAtAll_0 ik_0 ?_
  refine zw_istore_2 X dX8_ridesAtAll_1 ?_
  refine zw_iconst (v := 0) X dX8_ridesAtAll_2 ik_0 ?_
  refine zw_istore_3 X dX8_ridesAtAll_3 ?_
  refine zloop (α := Bool) (S := fun zn za => ∀ (v4_2 : Int32) (v4_3 : Int32), v4_2 = bI za → v4_3 = nI zn → ZW g 4 [some (.ref 42), some (.int k), some (.int v4_2), some (.int v4_3)] [] σ) (N := (clN (σ 42 0))) (f := (fun n b => b || mrd σ k (nI n))) (a0 := false) (fun n4 a4 hn4 ha4 ih4 v4_2 v4_3 hv4_2 hv4_3 => ?_) (fun a4 ha4 v4_2 v4_3 hv4_2 hv4_3 => ?_) _ _ rfl rfl
  · subst hv4_2 hv4_3
    refine zw_iload_3 X dX8_ridesAtAll_4 ?_
    refine zw_aload_0 X dX8_ridesAtAll_5 ?_
    refine zw_getI X dX8_ridesAtAll_6 fl_X8_7 ck_X8 sh_42 rfl ?_
    refine zw_icmpge_f (tgt := 37) X dX8_ridesAtAll_9 (by decide) ((clN_lt (Nat.le_of_lt hn4)).mpr hn4) ?_
    refine zw_iload_2 X dX8_ridesAtAll_12 ?_
    refine zw_ifneB (tgt := 25) X dX8_ridesAtAll_13 (by decide) (fun c_13 => ?_) (fun c_13 => ?_)
    · refine zw_iconst (v := 1) X dX8_ridesAtAll_25 ik_1 ?_
      refine zw_goto (tgt := 30) X dX8_ridesAtAll_26 (by decide) ?_
      refine zw_istore_2 X dX8_ridesAtAll_30 ?_
      refine zw_iinc_3_p1 X dX8_ridesAtAll_31 ?_
      refine zw_goto (tgt := 4) X dX8_ridesAtAll_34 (by decide) ?_
      exact ih4 _ _ (by first | (simp only [bI_0', bI_1', bI_0, bI_1, bI_inj, c_13, decide_true, decide_false, Bool.and_true, Bool.true_and, Bool.and_false, Bool.false_and, Bool.or_true, Bool.true_or, Bool.or_false, Bool.false_or, Bool.not_true, Bool.not_false, if_true, if_false, ite_true, ite_false, Bool.false_eq_true, not_true_eq_false, not_false_eq_true, bI_t, bI_f, decide_eq_true_eq, reduceCtorEq]; done) | (simp [bI_0', bI_1', bI_0, bI_1, bI_inj, c_13]; done) | simp_all) (nI_1 n4)
    · refine zw_aload_0 X dX8_ridesAtAll_16 ?_
      refine zw_iload_1 X dX8_ridesAtAll_17 ?_
      refine zw_iload_3 X dX8_ridesAtAll_18 ?_
      refine zw_cV_iii X dX8_ridesAtAll_19 lk_X8_78 ok_MX8_rides vi_MX8_rides rm_X8_ridesAtAll_X8_rides sh_42 rfl (Nat.le_of_ble_eq_true rfl) (t_X8_rides hk) ?_
      refine zw_ifeqB (tgt := 29) X dX8_ridesAtAll_22 (by decide) (fun c_22 => ?_) (fun c_22 => ?_)
      · refine zw_iconst (v := 0) X dX8_ridesAtAll_29 ik_0 ?_
        refine zw_istore_2 X dX8_ridesAtAll_30 ?_
        refine zw_iinc_3_p1 X dX8_ridesAtAll_31 ?_
        refine zw_goto (tgt := 4) X dX8_ridesAtAll_34 (by decide) ?_
        exact ih4 _ _ (by first | (simp only [bI_0', bI_1', bI_0, bI_1, bI_inj, c_13, c_22, decide_true, decide_false, Bool.and_true, Bool.true_and, Bool.and_false, Bool.false_and, Bool.or_true, Bool.true_or, Bool.or_false, Bool.false_or, Bool.not_true, Bool.not_false, if_true, if_false, ite_true, ite_false, Bool.false_eq_true, not_true_eq_false, not_false_eq_true, bI_t, bI_f, decide_eq_true_eq, reduceCtorEq]; done) | (simp [bI_0', bI_1', bI_0, bI_1, bI_inj, c_13, c_22]; done) | simp_all) (nI_1 n4)
      · refine zw_iconst (v := 1) X dX8_ridesAtAll_25 ik_1 ?_
        refine zw_goto (tgt := 30) X dX8_ridesAtAll_26 (by decide) ?_
        refine zw_istore_2 X dX8_ridesAtAll_30 ?_
        refine zw_iinc_3_p1 X dX8_ridesAtAll_31 ?_
        refine zw_goto (tgt := 4) X dX8_ridesAtAll_34 (by decide) ?_
        exact ih4 _ _ (by first | (simp only [bI_0', bI_1', bI_0, bI_1, bI_inj, c_13, c_22, decide_true, decide_false, Bool.and_true, Bool.true_and, Bool.and_false, Bool.false_and, Bool.or_true, Bool.true_or, Bool.or_false, Bool.false_or, Bool.not_true, Bool.not_false, if_true, if_false, ite_true, ite_false, Bool.false_eq_true, not_true_eq_false, not_false_eq_true, bI_t, bI_f, decide_eq_true_eq, reduceCtorEq]; done) | (simp [bI_0', bI_1', bI_0, bI_1, bI_inj, c_13, c_22]; done) | simp_all) (nI_1 n4)
  · subst hv4_2 hv4_3
    refine zw_iload_3 X dX8_ridesAtAll_4 ?_
    refine zw_aload_0 X dX8_ridesAtAll_5 ?_
    refine zw_getI X dX8_ridesAtAll_6 fl_X8_7 ck_X8 sh_42 rfl ?_
    refine zw_icmpge_t (tgt := 37) X dX8_ridesAtAll_9 (by decide) (fun h => Nat.lt_irrefl _ ((clN_lt (Nat.le_refl _)).mp h)) ?_
    refine zw_iload_2 X dX8_ridesAtAll_37 ?_
    exact zw_zret X F dX8_ridesAtAll_38 rfl (by rw [mAt, ← ha4]) (rfl)
set_option maxRecDepth 20000 in
set_option maxHeartbeats 1000000 in
theorem t_X8_rideAtOnce {σ : St} {k q : Int32} (hk : vp_in k 6) (hq : vp_in q 6) : Ct MX8_rideAtOnce [.ref 42, .int k, .int q] σ (some (.int (bI (mOnce σ k q)))) (σ) := by
  refine ct_of (ls0 := [some (.ref 42), some (.int k), some (.int q), none, none]) ok_MX8_rideAtOnce rfl (Nat.le_of_ble_eq_true rfl) rfl ?_
  intro g X F
  refine zw_iconst (v := 0) X dX8_rideAtOnce_0 ik_0 ?_
  refine zw_istore_3 X dX8_rideAtOnce_1 ?_
  refine zw_iconst (v := 0) X dX8_rideAtOnce_2 ik_0 ?_
  refine zw_istore_4 X dX8_rideAtOnce_3 ?_
  refine zloop (α := Bool) (S := fun zn za => ∀ (v5_3 : Int32) (v5_4 : Int32), v5_3 = bI za → v5_4 = nI zn → ZW g 5 [some (.ref 42), some (.int k), some (.int q), some (.int v5_3), some (.int v5_4)] [] σ) (N := (clN (σ 42 0))) (f := (fun n b => b || (mrd σ k (nI n) && mrd σ q (nI n)))) (a0 := false) (fun n5 a5 hn5 ha5 ih5 v5_3 v5_4 hv5_3 hv5_4 => ?_) (fun a5 ha5 v5_3 v5_4 hv5_3 hv5_4 => ?_) _ _ rfl rfl
  · subst hv5_3 hv5_4
    refine zw_iload_4 X dX8_rideAtOnce_5 ?_
    refine zw_aload_0 X dX8_rideAtOnce_7 ?_
    refine zw_getI X dX8_rideAtOnce_8 fl_X8_7 ck_X8 sh_42 rfl ?_
    refine zw_icmpge_f (tgt := 50) X dX8_rideAtOnce_11 (by decide) ((clN_lt (Nat.le_of_lt hn5)).mpr hn5) ?_
    refine zw_iload_3 X dX8_rideAtOnce_14 ?_
    refine zw_ifneB (tgt := 38) X dX8_rideAtOnce_15 (by decide) (fun c_15 => ?_) (fun c_15 => ?_)
    · refine zw_iconst (v := 1) X dX8_rideAtOnce_38 ik_1 ?_
      refine zw_goto (tgt := 43) X dX8_rideAtOnce_39 (by decide) ?_
      refine zw_istore_3 X dX8_rideAtOnce_43 ?_
      refine zw_iinc_4_p1 X dX8_rideAtOnce_44 ?_
      refine zw_goto (tgt := 5) X dX8_rideAtOnce_47 (by decide) ?_
      exact ih5 _ _ (by first | (simp only [bI_0', bI_1', bI_0, bI_1, bI_inj, c_15, decide_true, decide_false, Bool.and_true, Bool.true_and, Bool.and_false, Bool.false_and, Bool.or_true, Bool.true_or, Bool.or_false, Bool.false_or, Bool.not_true, Bool.not_false, if_true, if_false, ite_true, ite_false, Bool.false_eq_true, not_true_eq_false, not_false_eq_true, bI_t, bI_f, decide_eq_true_eq, reduceCtorEq]; done) | (simp [bI_0', bI_1', bI_0, bI_1, bI_inj, c_15]; done) | simp_all) (nI_1 n5)
    · refine zw_aload_0 X dX8_rideAtOnce_18 ?_
      refine zw_iload_1 X dX8_rideAtOnce_19 ?_
      refine zw_iload_4 X dX8_rideAtOnce_20 ?_
      refine zw_cV_iii X dX8_rideAtOnce_22 lk_X8_78 ok_MX8_rides vi_MX8_rides rm_X8_rideAtOnce_X8_rides sh_42 rfl (Nat.le_of_ble_eq_true rfl) (t_X8_rides hk) ?_
      refine zw_ifeqB (tgt := 42) X dX8_rideAtOnce_25 (by decide) (fun c_25 => ?_) (fun c_25 => ?_)
      · refine zw_iconst (v := 0) X dX8_rideAtOnce_42 ik_0 ?_
        refine zw_istore_3 X dX8_rideAtOnce_43 ?_
        refine zw_iinc_4_p1 X dX8_rideAtOnce_44 ?_
        refine zw_goto (tgt := 5) X dX8_rideAtOnce_47 (by decide) ?_
        exact ih5 _ _ (by first | (simp only [bI_0', bI_1', bI_0, bI_1, bI_inj, c_15, c_25, decide_true, decide_false, Bool.and_true, Bool.true_and, Bool.and_false, Bool.false_and, Bool.or_true, Bool.true_or, Bool.or_false, Bool.false_or, Bool.not_true, Bool.not_false, if_true, if_false, ite_true, ite_false, Bool.false_eq_true, not_true_eq_false, not_false_eq_true, bI_t, bI_f, decide_eq_true_eq, reduceCtorEq]; done) | (simp [bI_0', bI_1', bI_0, bI_1, bI_inj, c_15, c_25]; done) | simp_all) (nI_1 n5)
      · refine zw_aload_0 X dX8_rideAtOnce_28 ?_
        refine zw_iload_2 X dX8_rideAtOnce_29 ?_
        refine zw_iload_4 X dX8_rideAtOnce_30 ?_
        refine zw_cV_iii X dX8_rideAtOnce_32 lk_X8_78 ok_MX8_rides vi_MX8_rides rm_X8_rideAtOnce_X8_rides sh_42 rfl (Nat.le_of_ble_eq_true rfl) (t_X8_rides hq) ?_
        refine zw_ifeqB (tgt := 42) X dX8_rideAtOnce_35 (by decide) (fun c_35 => ?_) (fun c_35 => ?_)
        · refine zw_iconst (v := 0) X dX8_rideAtOnce_42 ik_0 ?_
          refine zw_istore_3 X dX8_rideAtOnce_43 ?_
          refine zw_iinc_4_p1 X dX8_rideAtOnce_44 ?_
          refine zw_goto (tgt := 5) X dX8_rideAtOnce_47 (by decide) ?_
          exact ih5 _ _ (by first | (simp only [bI_0', bI_1', bI_0, bI_1, bI_inj, c_15, c_25, c_35, decide_true, decide_false, Bool.and_true, Bool.true_and, Bool.and_false, Bool.false_and, Bool.or_true, Bool.true_or, Bool.or_false, Bool.false_or, Bool.not_true, Bool.not_false, if_true, if_false, ite_true, ite_false, Bool.false_eq_true, not_true_eq_false, not_false_eq_true, bI_t, bI_f, decide_eq_true_eq, reduceCtorEq]; done) | (simp [bI_0', bI_1', bI_0, bI_1, bI_inj, c_15, c_25, c_35]; done) | simp_all) (nI_1 n5)
        · refine zw_iconst (v := 1) X dX8_rideAtOnce_38 ik_1 ?_
          refine zw_goto (tgt := 43) X dX8_rideAtOnce_39 (by decide) ?_
          refine zw_istore_3 X dX8_rideAtOnce_43 ?_
          refine zw_iinc_4_p1 X dX8_rideAtOnce_44 ?_
          refine zw_goto (tgt := 5) X dX8_rideAtOnce_47 (by decide) ?_
          exact ih5 _ _ (by first | (simp only [bI_0', bI_1', bI_0, bI_1, bI_inj, c_15, c_25, c_35, decide_true, decide_false, Bool.and_true, Bool.true_and, Bool.and_false, Bool.false_and, Bool.or_true, Bool.true_or, Bool.or_false, Bool.false_or, Bool.not_true, Bool.not_false, if_true, if_false, ite_true, ite_false, Bool.false_eq_true, not_true_eq_false, not_false_eq_true, bI_t, bI_f, decide_eq_true_eq, reduceCtorEq]; done) | (simp [bI_0', bI_1', bI_0, bI_1, bI_inj, c_15, c_25, c_35]; done) | simp_all) (nI_1 n5)
  · subst hv5_3 hv5_4
    refine zw_iload_4 X dX8_rideAtOnce_5 ?_
    refine zw_aload_0 X dX8_rideAtOnce_7 ?_
    refine zw_getI X dX8_rideAtOnce_8 fl_X8_7 ck_X8 sh_42 rfl ?_
    refine zw_icmpge_t (tgt := 50) X dX8_rideAtOnce_11 (by decide) (fun h => Nat.lt_irrefl _ ((clN_lt (Nat.le_refl _)).mp h)) ?_
    refine zw_iload_3 X dX8_rideAtOnce_50 ?_
    exact zw_zret X F dX8_rideAtOnce_51 rfl (by rw [mOnce, ← ha5]) (rfl)
set_option maxRecDepth 20000 in
set_option maxHeartbeats 1000000 in
theorem t_X8_seats {σ : St} {ap to w : Int32} : Ct MX8_seats [.ref 42, .int ap, .int to, .int w] σ (some (.int (Y_seats σ ap to w).1)) ((Y_seats σ ap to w).2) := by
  refine ct_of (ls0 := [some (.ref 42), some (.int ap), some (.int to), some (.int w), none, none, none, none, none, none, none, none, none, none]) ok_MX8_seats rfl (Nat.le_of_ble_eq_true rfl) rfl ?_
  intro g X F
  refine zw_iload_1 X dX8_seats_0 ?_
  refine zw_iconst (v := 0) X dX8_seats_1 ik_0 ?_
  refine zw_sipush (v := 32767) X dX8_seats_2 sk_32767 ?_
  refine zw_cS_iiii X dX8_seats_5 lk_X8_60 ok_MX8_in st_MX8_in rm_X8_seats_X8_in (Nat.le_of_ble_eq_true rfl) t_X8_in ?_
  refine zw_ifeqB (tgt := 31) X dX8_seats_8 (by decide) (fun c_8 => ?_) (fun c_8 => ?_)
  · refine zw_bipush (v := -2) X dX8_seats_31 bk_m2 ?_
    exact zw_iret X F dX8_seats_33 rfl (by first | (simp only [Y_seats, c_8, decide_true, decide_false, Bool.and_true, Bool.true_and, Bool.and_false, Bool.false_and, Bool.or_true, Bool.true_or, Bool.or_false, Bool.false_or, Bool.not_true, Bool.not_false, if_true, if_false, ite_true, ite_false, Bool.false_eq_true, not_true_eq_false, not_false_eq_true, bI_t, bI_f, decide_eq_true_eq, reduceCtorEq]; done) | (simp [Y_seats, c_8]; done) | simp_all) (by first | (simp only [Y_seats, c_8, decide_true, decide_false, Bool.and_true, Bool.true_and, Bool.and_false, Bool.false_and, Bool.or_true, Bool.true_or, Bool.or_false, Bool.false_or, Bool.not_true, Bool.not_false, if_true, if_false, ite_true, ite_false, Bool.false_eq_true, not_true_eq_false, not_false_eq_true, bI_t, bI_f, decide_eq_true_eq, reduceCtorEq]; done) | (simp [Y_seats, c_8]; done) | simp_all)
  · refine zw_iload_2 X dX8_seats_11 ?_
    refine zw_iconst (v := 0) X dX8_seats_12 ik_0 ?_
    refine zw_sipush (v := 32767) X dX8_seats_13 sk_32767 ?_
    refine zw_cS_iiii X dX8_seats_16 lk_X8_60 ok_MX8_in st_MX8_in rm_X8_seats_X8_in (Nat.le_of_ble_eq_true rfl) t_X8_in ?_
    refine zw_ifeqB (tgt := 31) X dX8_seats_19 (by decide) (fun c_19 => ?_) (fun c_19 => ?_)
    · refine zw_bipush (v := -2) X dX8_seats_31 bk_m2 ?_
      exact zw_iret X F dX8_seats_33 rfl (by first | (simp only [Y_seats, c_8, c_19, decide_true, decide_false, Bool.and_true, Bool.true_and, Bool.and_false, Bool.false_and, Bool.or_true, Bool.true_or, Bool.or_false, Bool.false_or, Bool.not_true, Bool.not_false, if_true, if_false, ite_true, ite_false, Bool.false_eq_true, not_true_eq_false, not_false_eq_true, bI_t, bI_f, decide_eq_true_eq, reduceCtorEq]; done) | (simp [Y_seats, c_8, c_19]; done) | simp_all) (by first | (simp only [Y_seats, c_8, c_19, decide_true, decide_false, Bool.and_true, Bool.true_and, Bool.and_false, Bool.false_and, Bool.or_true, Bool.true_or, Bool.or_false, Bool.false_or, Bool.not_true, Bool.not_false, if_true, if_false, ite_true, ite_false, Bool.false_eq_true, not_true_eq_false, not_false_eq_true, bI_t, bI_f, decide_eq_true_eq, reduceCtorEq]; done) | (simp [Y_seats, c_8, c_19]; done) | simp_all)
    · refine zw_iload_3 X dX8_seats_22 ?_
      refine zw_iconst (v := 0) X dX8_seats_23 ik_0 ?_
      refine zw_iconst (v := 1) X dX8_seats_24 ik_1 ?_
      refine zw_cS_iiii X dX8_seats_25 lk_X8_60 ok_MX8_in st_MX8_in rm_X8_seats_X8_in (Nat.le_of_ble_eq_true rfl) t_X8_in ?_
      refine zw_ifneB (tgt := 34) X dX8_seats_28 (by decide) (fun c_28 => ?_) (fun c_28 => ?_)
      · refine zw_iconst (v := 0) X dX8_seats_34 ik_0 ?_
        refine zw_istore_4 X dX8_seats_35 ?_
        refine zw_bipush (v := -6) X dX8_seats_37 bk_m6 ?_
        refine zw_istore_5 X dX8_seats_39 ?_
        refine zw_iconst (v := 0) X dX8_seats_41 ik_0 ?_
        refine zw_istore_6 X dX8_seats_42 ?_
        refine zw_fg_7 ?_
        refine zw_fg_8 ?_
        refine zw_fg_9 ?_
        refine zw_fg_10 ?_
        refine zw_fg_11 ?_
        refine zw_fg_12 ?_
        refine zw_fg_13 ?_
        refine zloop (α := Int32 × Int32) (S := fun zn za => ∀ (v44_4 : Int32) (v44_5 : Int32) (v44_6 : Int32), v44_4 = za.1 → v44_5 = za.2 → v44_6 = nI zn → ZW g 44 [some (.ref 42), some (.int ap), some (.int to), some (.int w), some (.int v44_4), some (.int v44_5), some (.int v44_6), none, none, none, none, none, none, none] [] σ) (N := 4096) (f := (mSt σ ap to)) (a0 := ((0, -6) : Int32 × Int32)) (fun n44 a44 hn44 ha44 ih44 v44_4 v44_5 v44_6 hv44_4 hv44_5 hv44_6 => ?_) (fun a44 ha44 v44_4 v44_5 v44_6 hv44_4 hv44_5 hv44_6 => ?_) _ _ _ rfl rfl rfl
        · subst hv44_4 hv44_5 hv44_6
          refine zw_iload_6 X dX8_seats_44 ?_
          refine zw_sipush (v := 4096) X dX8_seats_46 sk_4096 ?_
          refine zw_icmpge_f (tgt := 310) X dX8_seats_49 (by decide) (nI_lt hn44 (by decide)) ?_
          refine zw_iconst (v := 1) X dX8_seats_52 ik_1 ?_
          refine zw_istore_7 X dX8_seats_53 ?_
          refine zw_iconst (v := 0) X dX8_seats_55 ik_0 ?_
          refine zw_istore_8 X dX8_seats_56 ?_
          refine zw_iconst (v := 0) X dX8_seats_58 ik_0 ?_
          refine zw_istore_9 X dX8_seats_59 ?_
          refine zw_fg_10 ?_
          refine zloop (α := Bool × Int32) (S := fun zn za => ∀ (v61_7 : Int32) (v61_8 : Int32) (v61_9 : Int32), v61_7 = bI za.1 → v61_8 = za.2 → v61_9 = nI zn → ZW g 61 [some (.ref 42), some (.int ap), some (.int to), some (.int w), some (.int a44.1), some (.int a44.2), some (.int (nI n44)), some (.int v61_7), some (.int v61_8), some (.int v61_9), none, none, none, none] [] σ) (N := 6) (f := (mA1 σ (nI n44))) (a0 := ((true, 0) : Bool × Int32)) (fun n61 a61 hn61 ha61 ih61 v61_7 v61_8 v61_9 hv61_7 hv61_8 hv61_9 => ?_) (fun a61 ha61 v61_7 v61_8 v61_9 hv61_7 hv61_8 hv61_9 => ?_) _ _ _ rfl rfl rfl
          · subst hv61_7 hv61_8 hv61_9
            refine zw_iload_9 X dX8_seats_61 ?_
            refine zw_bipush (v := 6) X dX8_seats_63 bk_6 ?_
            refine zw_icmpge_f (tgt := 129) X dX8_seats_65 (by decide) (nI_lt hn61 (by decide)) ?_
            refine zw_iload_6 X dX8_seats_68 ?_
            refine zw_iconst (v := 2) X dX8_seats_70 ik_2 ?_
            refine zw_iconst (v := 5) X dX8_seats_71 ik_5 ?_
            refine zw_iload_9 X dX8_seats_72 ?_
            refine zw_isub X dX8_seats_74 ?_
            refine zw_imul X dX8_seats_75 ?_
            refine zw_ishr X dX8_seats_76 ?_
            refine zw_iconst (v := 3) X dX8_seats_77 ik_3 ?_
            refine zw_iand X dX8_seats_78 ?_
            refine zw_istore_10 X dX8_seats_79 ?_
            refine zw_bipush (v := 10) X dX8_seats_81 bk_10 ?_
            refine zw_iload_8 X dX8_seats_83 ?_
            refine zw_imul X dX8_seats_85 ?_
            refine zw_iload_10 X dX8_seats_86 ?_
            refine zw_iadd X dX8_seats_88 ?_
            refine zw_istore_8 X dX8_seats_89 ?_
            refine zw_iload_7 X dX8_seats_91 ?_
            refine zw_ifeqB (tgt := 120) X dX8_seats_93 (by decide) (fun c_93 => ?_) (fun c_93 => ?_)
            · refine zw_iconst (v := 0) X dX8_seats_120 ik_0 ?_
              refine zw_istore_7 X dX8_seats_121 ?_
              refine zw_iinc_9_p1 X dX8_seats_123 ?_
              refine zw_goto (tgt := 61) X dX8_seats_126 (by decide) ?_
              refine zw_fg_10 ?_
              exact ih61 _ _ _ (by first | (simp only [mA1, mDg, bI_0', bI_1', bI_0, bI_1, bI_inj, c_8, c_19, c_28, c_93, decide_true, decide_false, Bool.and_true, Bool.true_and, Bool.and_false, Bool.false_and, Bool.or_true, Bool.true_or, Bool.or_false, Bool.false_or, Bool.not_true, Bool.not_false, if_true, if_false, ite_true, ite_false, Bool.false_eq_true, not_true_eq_false, not_false_eq_true, bI_t, bI_f, decide_eq_true_eq, reduceCtorEq]; done) | (simp [mA1, mDg, bI_0', bI_1', bI_0, bI_1, bI_inj, c_8, c_19, c_28, c_93]; done) | simp_all) (by first | (simp only [mA1, mDg, bI_0', bI_1', bI_0, bI_1, bI_inj, c_8, c_19, c_28, c_93, decide_true, decide_false, Bool.and_true, Bool.true_and, Bool.and_false, Bool.false_and, Bool.or_true, Bool.true_or, Bool.or_false, Bool.false_or, Bool.not_true, Bool.not_false, if_true, if_false, ite_true, ite_false, Bool.false_eq_true, not_true_eq_false, not_false_eq_true, bI_t, bI_f, decide_eq_true_eq, reduceCtorEq]; done) | (simp [mA1, mDg, bI_0', bI_1', bI_0, bI_1, bI_inj, c_8, c_19, c_28, c_93]; done) | simp_all) (nI_1 n61)
            · refine zw_aload_0 X dX8_seats_96 ?_
              refine zw_iload_9 X dX8_seats_97 ?_
              refine zw_cV_ii X dX8_seats_99 lk_X8_154 ok_MX8_ridesAtAll vi_MX8_ridesAtAll rm_X8_seats_X8_ridesAtAll sh_42 rfl (Nat.le_of_ble_eq_true rfl) (t_X8_ridesAtAll (vp_in_nI hn61 (by decide))) ?_
              refine zw_iload_10 X dX8_seats_102 ?_
              refine zw_iconst (v := 3) X dX8_seats_104 ik_3 ?_
              refine zw_icmpge (tgt := 112) X dX8_seats_105 (by decide) (fun c_105 => ?_) (fun c_105 => ?_)
              · refine zw_iconst (v := 0) X dX8_seats_112 ik_0 ?_
                refine zw_icmpne (tgt := 120) X dX8_seats_113 (by decide) (fun c_113 => ?_) (fun c_113 => ?_)
                · refine zw_iconst (v := 0) X dX8_seats_120 ik_0 ?_
                  refine zw_istore_7 X dX8_seats_121 ?_
                  refine zw_iinc_9_p1 X dX8_seats_123 ?_
                  refine zw_goto (tgt := 61) X dX8_seats_126 (by decide) ?_
                  refine zw_fg_10 ?_
                  exact ih61 _ _ _ (by first | (simp only [mA1, mDg, bI_0', bI_1', bI_0, bI_1, bI_inj, c_8, c_19, c_28, c_93, c_105, c_113, decide_true, decide_false, Bool.and_true, Bool.true_and, Bool.and_false, Bool.false_and, Bool.or_true, Bool.true_or, Bool.or_false, Bool.false_or, Bool.not_true, Bool.not_false, if_true, if_false, ite_true, ite_false, Bool.false_eq_true, not_true_eq_false, not_false_eq_true, bI_t, bI_f, decide_eq_true_eq, reduceCtorEq]; done) | (simp [mA1, mDg, bI_0', bI_1', bI_0, bI_1, bI_inj, c_8, c_19, c_28, c_93, c_105, c_113]; done) | simp_all) (by first | (simp only [mA1, mDg, bI_0', bI_1', bI_0, bI_1, bI_inj, c_8, c_19, c_28, c_93, c_105, c_113, decide_true, decide_false, Bool.and_true, Bool.true_and, Bool.and_false, Bool.false_and, Bool.or_true, Bool.true_or, Bool.or_false, Bool.false_or, Bool.not_true, Bool.not_false, if_true, if_false, ite_true, ite_false, Bool.false_eq_true, not_true_eq_false, not_false_eq_true, bI_t, bI_f, decide_eq_true_eq, reduceCtorEq]; done) | (simp [mA1, mDg, bI_0', bI_1', bI_0, bI_1, bI_inj, c_8, c_19, c_28, c_93, c_105, c_113]; done) | simp_all) (nI_1 n61)
                · refine zw_iconst (v := 1) X dX8_seats_116 ik_1 ?_
                  refine zw_goto (tgt := 121) X dX8_seats_117 (by decide) ?_
                  refine zw_istore_7 X dX8_seats_121 ?_
                  refine zw_iinc_9_p1 X dX8_seats_123 ?_
                  refine zw_goto (tgt := 61) X dX8_seats_126 (by decide) ?_
                  refine zw_fg_10 ?_
                  exact ih61 _ _ _ (by first | (simp only [mA1, mDg, bI_0', bI_1', bI_0, bI_1, bI_inj, c_8, c_19, c_28, c_93, c_105, eq_true c_113, decide_true, decide_false, Bool.and_true, Bool.true_and, Bool.and_false, Bool.false_and, Bool.or_true, Bool.true_or, Bool.or_false, Bool.false_or, Bool.not_true, Bool.not_false, if_true, if_false, ite_true, ite_false, Bool.false_eq_true, not_true_eq_false, not_false_eq_true, bI_t, bI_f, decide_eq_true_eq, reduceCtorEq]; done) | (simp [mA1, mDg, bI_0', bI_1', bI_0, bI_1, bI_inj, c_8, c_19, c_28, c_93, c_105, eq_true c_113]; done) | simp_all) (by first | (simp only [mA1, mDg, bI_0', bI_1', bI_0, bI_1, bI_inj, c_8, c_19, c_28, c_93, c_105, eq_true c_113, decide_true, decide_false, Bool.and_true, Bool.true_and, Bool.and_false, Bool.false_and, Bool.or_true, Bool.true_or, Bool.or_false, Bool.false_or, Bool.not_true, Bool.not_false, if_true, if_false, ite_true, ite_false, Bool.false_eq_true, not_true_eq_false, not_false_eq_true, bI_t, bI_f, decide_eq_true_eq, reduceCtorEq]; done) | (simp [mA1, mDg, bI_0', bI_1', bI_0, bI_1, bI_inj, c_8, c_19, c_28, c_93, c_105, eq_true c_113]; done) | simp_all) (nI_1 n61)
              · refine zw_iconst (v := 1) X dX8_seats_108 ik_1 ?_
                refine zw_goto (tgt := 113) X dX8_seats_109 (by decide) ?_
                refine zw_icmpne (tgt := 120) X dX8_seats_113 (by decide) (fun c_113 => ?_) (fun c_113 => ?_)
                · refine zw_iconst (v := 0) X dX8_seats_120 ik_0 ?_
                  refine zw_istore_7 X dX8_seats_121 ?_
                  refine zw_iinc_9_p1 X dX8_seats_123 ?_
                  refine zw_goto (tgt := 61) X dX8_seats_126 (by decide) ?_
                  refine zw_fg_10 ?_
                  exact ih61 _ _ _ (by first | (simp only [mA1, mDg, bI_0', bI_1', bI_0, bI_1, bI_inj, c_8, c_19, c_28, c_93, c_105, c_113, decide_true, decide_false, Bool.and_true, Bool.true_and, Bool.and_false, Bool.false_and, Bool.or_true, Bool.true_or, Bool.or_false, Bool.false_or, Bool.not_true, Bool.not_false, if_true, if_false, ite_true, ite_false, Bool.false_eq_true, not_true_eq_false, not_false_eq_true, bI_t, bI_f, decide_eq_true_eq, reduceCtorEq]; done) | (simp [mA1, mDg, bI_0', bI_1', bI_0, bI_1, bI_inj, c_8, c_19, c_28, c_93, c_105, c_113]; done) | simp_all) (by first | (simp only [mA1, mDg, bI_0', bI_1', bI_0, bI_1, bI_inj, c_8, c_19, c_28, c_93, c_105, c_113, decide_true, decide_false, Bool.and_true, Bool.true_and, Bool.and_false, Bool.false_and, Bool.or_true, Bool.true_or, Bool.or_false, Bool.false_or, Bool.not_true, Bool.not_false, if_true, if_false, ite_true, ite_false, Bool.false_eq_true, not_true_eq_false, not_false_eq_true, bI_t, bI_f, decide_eq_true_eq, reduceCtorEq]; done) | (simp [mA1, mDg, bI_0', bI_1', bI_0, bI_1, bI_inj, c_8, c_19, c_28, c_93, c_105, c_113]; done) | simp_all) (nI_1 n61)
                · refine zw_iconst (v := 1) X dX8_seats_116 ik_1 ?_
                  refine zw_goto (tgt := 121) X dX8_seats_117 (by decide) ?_
                  refine zw_istore_7 X dX8_seats_121 ?_
                  refine zw_iinc_9_p1 X dX8_seats_123 ?_
                  refine zw_goto (tgt := 61) X dX8_seats_126 (by decide) ?_
                  refine zw_fg_10 ?_
                  exact ih61 _ _ _ (by first | (simp only [mA1, mDg, bI_0', bI_1', bI_0, bI_1, bI_inj, c_8, c_19, c_28, c_93, c_105, eq_true c_113, decide_true, decide_false, Bool.and_true, Bool.true_and, Bool.and_false, Bool.false_and, Bool.or_true, Bool.true_or, Bool.or_false, Bool.false_or, Bool.not_true, Bool.not_false, if_true, if_false, ite_true, ite_false, Bool.false_eq_true, not_true_eq_false, not_false_eq_true, bI_t, bI_f, decide_eq_true_eq, reduceCtorEq]; done) | (simp [mA1, mDg, bI_0', bI_1', bI_0, bI_1, bI_inj, c_8, c_19, c_28, c_93, c_105, eq_true c_113]; done) | simp_all) (by first | (simp only [mA1, mDg, bI_0', bI_1', bI_0, bI_1, bI_inj, c_8, c_19, c_28, c_93, c_105, eq_true c_113, decide_true, decide_false, Bool.and_true, Bool.true_and, Bool.and_false, Bool.false_and, Bool.or_true, Bool.true_or, Bool.or_false, Bool.false_or, Bool.not_true, Bool.not_false, if_true, if_false, ite_true, ite_false, Bool.false_eq_true, not_true_eq_false, not_false_eq_true, bI_t, bI_f, decide_eq_true_eq, reduceCtorEq]; done) | (simp [mA1, mDg, bI_0', bI_1', bI_0, bI_1, bI_inj, c_8, c_19, c_28, c_93, c_105, eq_true c_113]; done) | simp_all) (nI_1 n61)
          · subst hv61_7 hv61_8 hv61_9
            have hC1 : mC1 σ (nI n44) = a61 := ha61.symm
            refine zw_iload_9 X dX8_seats_61 ?_
            refine zw_bipush (v := 6) X dX8_seats_63 bk_6 ?_
            refine zw_icmpge_t (tgt := 129) X dX8_seats_65 (by decide) (by decide) ?_
            refine zw_iconst (v := 0) X dX8_seats_129 ik_0 ?_
            refine zw_istore_9 X dX8_seats_130 ?_
            refine zw_iconst (v := 0) X dX8_seats_132 ik_0 ?_
            refine zw_istore_10 X dX8_seats_133 ?_
            have K : ZW g 270 [some (.ref 42), some (.int ap), some (.int to), some (.int w), some (.int a44.1), some (.int a44.2), some (.int (nI n44)), some (.int (bI (itr (mA3 σ ap to (nI n44)) 6 (a61.1, 0)).1)), some (.int a61.2), none, none, none, none, none] [] σ := by
              have hC2 : mC2 σ ap to (nI n44) = itr (mA3 σ ap to (nI n44)) 6 (a61.1, 0) := by rw [mC2, hC1]
              generalize itr (mA3 σ ap to (nI n44)) 6 (a61.1, 0) = a2 at hC2 ⊢
              refine zw_iload_4 X dX8_seats_270 ?_
              refine zw_iload_7 X dX8_seats_272 ?_
              refine zw_ifeqB (tgt := 281) X dX8_seats_274 (by decide) (fun c_274 => ?_) (fun c_274 => ?_)
              · refine zw_iconst (v := 0) X dX8_seats_281 ik_0 ?_
                refine zw_iadd X dX8_seats_282 ?_
                refine zw_istore_4 X dX8_seats_283 ?_
                refine zw_iload_7 X dX8_seats_285 ?_
                refine zw_ifeqB (tgt := 300) X dX8_seats_287 (by decide) (fun c_287 => ?_) (fun c_287 => ?_)
                · refine zw_iload_5 X dX8_seats_300 ?_
                  refine zw_istore_5 X dX8_seats_302 ?_
                  refine zw_iinc_6_p1 X dX8_seats_304 ?_
                  refine zw_goto (tgt := 44) X dX8_seats_307 (by decide) ?_
                  refine zw_fg_7 ?_
                  refine zw_fg_8 ?_
                  refine zw_fg_9 ?_
                  refine zw_fg_10 ?_
                  refine zw_fg_11 ?_
                  refine zw_fg_12 ?_
                  refine zw_fg_13 ?_
                  exact ih44 _ _ _ (by first | (simp only [mSt, hC1, hC2, c_274, c_287, decide_true, decide_false, Bool.and_true, Bool.true_and, Bool.and_false, Bool.false_and, Bool.or_true, Bool.true_or, Bool.or_false, Bool.false_or, Bool.not_true, Bool.not_false, if_true, if_false, ite_true, ite_false, Bool.false_eq_true, not_true_eq_false, not_false_eq_true, bI_t, bI_f, decide_eq_true_eq, reduceCtorEq]; done) | (simp [mSt, hC1, hC2, c_274, c_287]; done) | simp_all) (by first | (simp only [mSt, hC1, hC2, c_274, c_287, decide_true, decide_false, Bool.and_true, Bool.true_and, Bool.and_false, Bool.false_and, Bool.or_true, Bool.true_or, Bool.or_false, Bool.false_or, Bool.not_true, Bool.not_false, if_true, if_false, ite_true, ite_false, Bool.false_eq_true, not_true_eq_false, not_false_eq_true, bI_t, bI_f, decide_eq_true_eq, reduceCtorEq]; done) | (simp [mSt, hC1, hC2, c_274, c_287]; done) | simp_all) (nI_1 n44)
                · refine zw_iload_5 X dX8_seats_290 ?_
                  refine zw_ifge (tgt := 300) X dX8_seats_292 (by decide) (fun c_292 => ?_) (fun c_292 => ?_)
                  · refine zw_iload_5 X dX8_seats_300 ?_
                    refine zw_istore_5 X dX8_seats_302 ?_
                    refine zw_iinc_6_p1 X dX8_seats_304 ?_
                    refine zw_goto (tgt := 44) X dX8_seats_307 (by decide) ?_
                    refine zw_fg_7 ?_
                    refine zw_fg_8 ?_
                    refine zw_fg_9 ?_
                    refine zw_fg_10 ?_
                    refine zw_fg_11 ?_
                    refine zw_fg_12 ?_
                    refine zw_fg_13 ?_
                    exact ih44 _ _ _ (by first | (simp only [mSt, hC1, hC2, c_274, c_287, c_292, decide_true, decide_false, Bool.and_true, Bool.true_and, Bool.and_false, Bool.false_and, Bool.or_true, Bool.true_or, Bool.or_false, Bool.false_or, Bool.not_true, Bool.not_false, if_true, if_false, ite_true, ite_false, Bool.false_eq_true, not_true_eq_false, not_false_eq_true, bI_t, bI_f, decide_eq_true_eq, reduceCtorEq]; done) | (simp [mSt, hC1, hC2, c_274, c_287, c_292]; done) | simp_all) (by first | (simp only [mSt, hC1, hC2, c_274, c_287, c_292, decide_true, decide_false, Bool.and_true, Bool.true_and, Bool.and_false, Bool.false_and, Bool.or_true, Bool.true_or, Bool.or_false, Bool.false_or, Bool.not_true, Bool.not_false, if_true, if_false, ite_true, ite_false, Bool.false_eq_true, not_true_eq_false, not_false_eq_true, bI_t, bI_f, decide_eq_true_eq, reduceCtorEq]; done) | (simp [mSt, hC1, hC2, c_274, c_287, c_292]; done) | simp_all) (nI_1 n44)
                  · refine zw_iload_8 X dX8_seats_295 ?_
                    refine zw_goto (tgt := 302) X dX8_seats_297 (by decide) ?_
                    refine zw_istore_5 X dX8_seats_302 ?_
                    refine zw_iinc_6_p1 X dX8_seats_304 ?_
                    refine zw_goto (tgt := 44) X dX8_seats_307 (by decide) ?_
                    refine zw_fg_7 ?_
                    refine zw_fg_8 ?_
                    refine zw_fg_9 ?_
                    refine zw_fg_10 ?_
                    refine zw_fg_11 ?_
                    refine zw_fg_12 ?_
                    refine zw_fg_13 ?_
                    exact ih44 _ _ _ (by first | (simp only [mSt, hC1, hC2, c_274, c_287, c_292, decide_true, decide_false, Bool.and_true, Bool.true_and, Bool.and_false, Bool.false_and, Bool.or_true, Bool.true_or, Bool.or_false, Bool.false_or, Bool.not_true, Bool.not_false, if_true, if_false, ite_true, ite_false, Bool.false_eq_true, not_true_eq_false, not_false_eq_true, bI_t, bI_f, decide_eq_true_eq, reduceCtorEq]; done) | (simp [mSt, hC1, hC2, c_274, c_287, c_292]; done) | simp_all) (by first | (simp only [mSt, hC1, hC2, c_274, c_287, c_292, decide_true, decide_false, Bool.and_true, Bool.true_and, Bool.and_false, Bool.false_and, Bool.or_true, Bool.true_or, Bool.or_false, Bool.false_or, Bool.not_true, Bool.not_false, if_true, if_false, ite_true, ite_false, Bool.false_eq_true, not_true_eq_false, not_false_eq_true, bI_t, bI_f, decide_eq_true_eq, reduceCtorEq]; done) | (simp [mSt, hC1, hC2, c_274, c_287, c_292]; done) | simp_all) (nI_1 n44)
              · refine zw_iconst (v := 1) X dX8_seats_277 ik_1 ?_
                refine zw_goto (tgt := 282) X dX8_seats_278 (by decide) ?_
                refine zw_iadd X dX8_seats_282 ?_
                refine zw_istore_4 X dX8_seats_283 ?_
                refine zw_iload_7 X dX8_seats_285 ?_
                refine zw_ifeqB (tgt := 300) X dX8_seats_287 (by decide) (fun c_287 => ?_) (fun c_287 => ?_)
                · refine zw_iload_5 X dX8_seats_300 ?_
                  refine zw_istore_5 X dX8_seats_302 ?_
                  refine zw_iinc_6_p1 X dX8_seats_304 ?_
                  refine zw_goto (tgt := 44) X dX8_seats_307 (by decide) ?_
                  refine zw_fg_7 ?_
                  refine zw_fg_8 ?_
                  refine zw_fg_9 ?_
                  refine zw_fg_10 ?_
                  refine zw_fg_11 ?_
                  refine zw_fg_12 ?_
                  refine zw_fg_13 ?_
                  exact ih44 _ _ _ (by first | (simp only [mSt, hC1, hC2, c_274, c_287, decide_true, decide_false, Bool.and_true, Bool.true_and, Bool.and_false, Bool.false_and, Bool.or_true, Bool.true_or, Bool.or_false, Bool.false_or, Bool.not_true, Bool.not_false, if_true, if_false, ite_true, ite_false, Bool.false_eq_true, not_true_eq_false, not_false_eq_true, bI_t, bI_f, decide_eq_true_eq, reduceCtorEq]; done) | (simp [mSt, hC1, hC2, c_274, c_287]; done) | simp_all) (by first | (simp only [mSt, hC1, hC2, c_274, c_287, decide_true, decide_false, Bool.and_true, Bool.true_and, Bool.and_false, Bool.false_and, Bool.or_true, Bool.true_or, Bool.or_false, Bool.false_or, Bool.not_true, Bool.not_false, if_true, if_false, ite_true, ite_false, Bool.false_eq_true, not_true_eq_false, not_false_eq_true, bI_t, bI_f, decide_eq_true_eq, reduceCtorEq]; done) | (simp [mSt, hC1, hC2, c_274, c_287]; done) | simp_all) (nI_1 n44)
                · refine zw_iload_5 X dX8_seats_290 ?_
                  refine zw_ifge (tgt := 300) X dX8_seats_292 (by decide) (fun c_292 => ?_) (fun c_292 => ?_)
                  · refine zw_iload_5 X dX8_seats_300 ?_
                    refine zw_istore_5 X dX8_seats_302 ?_
                    refine zw_iinc_6_p1 X dX8_seats_304 ?_
                    refine zw_goto (tgt := 44) X dX8_seats_307 (by decide) ?_
                    refine zw_fg_7 ?_
                    refine zw_fg_8 ?_
                    refine zw_fg_9 ?_
                    refine zw_fg_10 ?_
                    refine zw_fg_11 ?_
                    refine zw_fg_12 ?_
                    refine zw_fg_13 ?_
                    exact ih44 _ _ _ (by first | (simp only [mSt, hC1, hC2, c_274, c_287, c_292, decide_true, decide_false, Bool.and_true, Bool.true_and, Bool.and_false, Bool.false_and, Bool.or_true, Bool.true_or, Bool.or_false, Bool.false_or, Bool.not_true, Bool.not_false, if_true, if_false, ite_true, ite_false, Bool.false_eq_true, not_true_eq_false, not_false_eq_true, bI_t, bI_f, decide_eq_true_eq, reduceCtorEq]; done) | (simp [mSt, hC1, hC2, c_274, c_287, c_292]; done) | simp_all) (by first | (simp only [mSt, hC1, hC2, c_274, c_287, c_292, decide_true, decide_false, Bool.and_true, Bool.true_and, Bool.and_false, Bool.false_and, Bool.or_true, Bool.true_or, Bool.or_false, Bool.false_or, Bool.not_true, Bool.not_false, if_true, if_false, ite_true, ite_false, Bool.false_eq_true, not_true_eq_false, not_false_eq_true, bI_t, bI_f, decide_eq_true_eq, reduceCtorEq]; done) | (simp [mSt, hC1, hC2, c_274, c_287, c_292]; done) | simp_all) (nI_1 n44)
                  · refine zw_iload_8 X dX8_seats_295 ?_
                    refine zw_goto (tgt := 302) X dX8_seats_297 (by decide) ?_
                    refine zw_istore_5 X dX8_seats_302 ?_
                    refine zw_iinc_6_p1 X dX8_seats_304 ?_
                    refine zw_goto (tgt := 44) X dX8_seats_307 (by decide) ?_
                    refine zw_fg_7 ?_
                    refine zw_fg_8 ?_
                    refine zw_fg_9 ?_
                    refine zw_fg_10 ?_
                    refine zw_fg_11 ?_
                    refine zw_fg_12 ?_
                    refine zw_fg_13 ?_
                    exact ih44 _ _ _ (by first | (simp only [mSt, hC1, hC2, c_274, c_287, c_292, decide_true, decide_false, Bool.and_true, Bool.true_and, Bool.and_false, Bool.false_and, Bool.or_true, Bool.true_or, Bool.or_false, Bool.false_or, Bool.not_true, Bool.not_false, if_true, if_false, ite_true, ite_false, Bool.false_eq_true, not_true_eq_false, not_false_eq_true, bI_t, bI_f, decide_eq_true_eq, reduceCtorEq]; done) | (simp [mSt, hC1, hC2, c_274, c_287, c_292]; done) | simp_all) (by first | (simp only [mSt, hC1, hC2, c_274, c_287, c_292, decide_true, decide_false, Bool.and_true, Bool.true_and, Bool.and_false, Bool.false_and, Bool.or_true, Bool.true_or, Bool.or_false, Bool.false_or, Bool.not_true, Bool.not_false, if_true, if_false, ite_true, ite_false, Bool.false_eq_true, not_true_eq_false, not_false_eq_true, bI_t, bI_f, decide_eq_true_eq, reduceCtorEq]; done) | (simp [mSt, hC1, hC2, c_274, c_287, c_292]; done) | simp_all) (nI_1 n44)
            refine zw_fg_11 ?_
            refine zw_fg_12 ?_
            refine zw_fg_13 ?_
            refine zloop (α := Bool × Int32) (S := fun zn za => ∀ (v135_7 : Int32) (v135_9 : Int32) (v135_10 : Int32), v135_7 = bI za.1 → v135_9 = za.2 → v135_10 = nI zn → ZW g 135 [some (.ref 42), some (.int ap), some (.int to), some (.int w), some (.int a44.1), some (.int a44.2), some (.int (nI n44)), some (.int v135_7), some (.int a61.2), some (.int v135_9), some (.int v135_10), none, none, none] [] σ) (N := 6) (f := (mA3 σ ap to (nI n44))) (a0 := ((a61.1, 0) : Bool × Int32)) (fun n135 a135 hn135 ha135 ih135 v135_7 v135_9 v135_10 hv135_7 hv135_9 hv135_10 => ?_) (fun a135 ha135 v135_7 v135_9 v135_10 hv135_7 hv135_9 hv135_10 => ?_) _ _ _ rfl rfl rfl
            · subst hv135_7 hv135_9 hv135_10
              refine zw_iload_10 X dX8_seats_135 ?_
              refine zw_bipush (v := 6) X dX8_seats_137 bk_6 ?_
              refine zw_icmpge_f (tgt := 270) X dX8_seats_139 (by decide) (nI_lt hn135 (by decide)) ?_
              refine zw_iload_7 X dX8_seats_142 ?_
              refine zw_ifeqB (tgt := 270) X dX8_seats_144 (by decide) (fun c_144 => ?_) (fun c_144 => ?_)
              · refine zw_fg_9 ?_
                refine zw_fg_10 ?_
                refine zw_fg_11 ?_
                refine zw_fg_12 ?_
                refine zw_fg_13 ?_
                have hK : itr (mA3 σ ap to (nI n44)) 6 (a61.1, 0) = a135 := by first | exact ha135.symm | (have h0 := mA3_stop ha135 c_144 (6 - n135); rwa [show n135 + (6 - n135) = 6 by omega] at h0)
                exact zw_ls (by rw [hK]) K
              · refine zw_iload_10 X dX8_seats_147 ?_
                refine zw_iconst (v := 1) X dX8_seats_149 ik_1 ?_
                refine zw_iadd X dX8_seats_150 ?_
                refine zw_istore_11 X dX8_seats_151 ?_
                refine zw_fg_12 ?_
                refine zw_fg_13 ?_
                refine zloop (α := Bool × Int32) (S := fun zn za => ∀ (v153_7 : Int32) (v153_9 : Int32) (v153_11 : Int32), v153_7 = bI za.1 → v153_9 = za.2 → v153_11 = nI (n135 + 1 + zn) → ZW g 153 [some (.ref 42), some (.int ap), some (.int to), some (.int w), some (.int a44.1), some (.int a44.2), some (.int (nI n44)), some (.int v153_7), some (.int a61.2), some (.int v153_9), some (.int (nI n135)), some (.int v153_11), none, none] [] σ) (N := (5 - n135)) (f := (mA2 σ ap to (nI n44) n135)) (a0 := a135) (fun n153 a153 hn153 ha153 ih153 v153_7 v153_9 v153_11 hv153_7 hv153_9 hv153_11 => ?_) (fun a153 ha153 v153_7 v153_9 v153_11 hv153_7 hv153_9 hv153_11 => ?_) _ _ _ rfl rfl (nI_1 n135)
                · subst hv153_7 hv153_9 hv153_11
                  refine zw_iload_11 X dX8_seats_153 ?_
                  refine zw_bipush (v := 6) X dX8_seats_155 bk_6 ?_
                  refine zw_icmpge_f (tgt := 264) X dX8_seats_157 (by decide) (nI_lt (b := 6) (by omega) (by decide)) ?_
                  refine zw_iload_6 X dX8_seats_160 ?_
                  refine zw_iconst (v := 2) X dX8_seats_162 ik_2 ?_
                  refine zw_iconst (v := 5) X dX8_seats_163 ik_5 ?_
                  refine zw_iload_10 X dX8_seats_164 ?_
                  refine zw_isub X dX8_seats_166 ?_
                  refine zw_imul X dX8_seats_167 ?_
                  refine zw_ishr X dX8_seats_168 ?_
                  refine zw_iconst (v := 3) X dX8_seats_169 ik_3 ?_
                  refine zw_iand X dX8_seats_170 ?_
                  refine zw_iload_6 X dX8_seats_171 ?_
                  refine zw_iconst (v := 2) X dX8_seats_173 ik_2 ?_
                  refine zw_iconst (v := 5) X dX8_seats_174 ik_5 ?_
                  refine zw_iload_11 X dX8_seats_175 ?_
                  refine zw_isub X dX8_seats_177 ?_
                  refine zw_imul X dX8_seats_178 ?_
                  refine zw_ishr X dX8_seats_179 ?_
                  refine zw_iconst (v := 3) X dX8_seats_180 ik_3 ?_
                  refine zw_iand X dX8_seats_181 ?_
                  refine zw_icmpne (tgt := 189) X dX8_seats_182 (by decide) (fun c_182 => ?_) (fun c_182 => ?_)
                  · refine zw_iconst (v := 0) X dX8_seats_189 ik_0 ?_
                    refine zw_istore_12 X dX8_seats_190 ?_
                    refine zw_iload_12 X dX8_seats_192 ?_
                    refine zw_ifeq_t (tgt := 212) X dX8_seats_194 (by decide) (by decide) ?_
                    refine zw_iconst (v := 0) X dX8_seats_212 ik_0 ?_
                    refine zw_istore_13 X dX8_seats_213 ?_
                    refine zw_iload_7 X dX8_seats_215 ?_
                    refine zw_ifeqB (tgt := 252) X dX8_seats_217 (by decide) (fun c_217 => ?_) (fun c_217 => ?_)
                    · refine zw_iconst (v := 0) X dX8_seats_252 ik_0 ?_
                      refine zw_istore_7 X dX8_seats_253 ?_
                      refine zw_iinc_9_p1 X dX8_seats_255 ?_
                      refine zw_iinc_11_p1 X dX8_seats_258 ?_
                      refine zw_goto (tgt := 153) X dX8_seats_261 (by decide) ?_
                      refine zw_fg_12 ?_
                      refine zw_fg_13 ?_
                      exact ih153 _ _ _ (by first | (simp only [mA2, mMeet, mDg, bI_0', bI_1', bI_0, bI_1, bI_inj, c_144, c_182, c_217, decide_true, decide_false, Bool.and_true, Bool.true_and, Bool.and_false, Bool.false_and, Bool.or_true, Bool.true_or, Bool.or_false, Bool.false_or, Bool.not_true, Bool.not_false, if_true, if_false, ite_true, ite_false, Bool.false_eq_true, not_true_eq_false, not_false_eq_true, bI_t, bI_f, decide_eq_true_eq, reduceCtorEq]; done) | (simp [mA2, mMeet, mDg, bI_0', bI_1', bI_0, bI_1, bI_inj, c_144, c_182, c_217]; done) | simp_all) (by first | (simp only [mA2, mMeet, mDg, bI_0', bI_1', bI_0, bI_1, bI_inj, c_144, c_182, c_217, decide_true, decide_false, Bool.and_true, Bool.true_and, Bool.and_false, Bool.false_and, Bool.or_true, Bool.true_or, Bool.or_false, Bool.false_or, Bool.not_true, Bool.not_false, if_true, if_false, ite_true, ite_false, Bool.false_eq_true, not_true_eq_false, not_false_eq_true, bI_t, bI_f, decide_eq_true_eq, reduceCtorEq]; done) | (simp [mA2, mMeet, mDg, bI_0', bI_1', bI_0, bI_1, bI_inj, c_144, c_182, c_217]; done) | simp_all) (nI_1 _)
                    · refine zw_iload_1 X dX8_seats_220 ?_
                      refine zw_iload_9 X dX8_seats_221 ?_
                      refine zw_cS_iii X dX8_seats_223 lk_X8_110 ok_MX8_has st_MX8_has rm_X8_seats_X8_has (Nat.le_of_ble_eq_true rfl) t_X8_has ?_
                      refine zw_ifeqB (tgt := 234) X dX8_seats_226 (by decide) (fun c_226 => ?_) (fun c_226 => ?_)
                      · refine zw_iload_2 X dX8_seats_234 ?_
                        refine zw_iload_9 X dX8_seats_235 ?_
                        refine zw_cS_iii X dX8_seats_237 lk_X8_110 ok_MX8_has st_MX8_has rm_X8_seats_X8_has (Nat.le_of_ble_eq_true rfl) t_X8_has ?_
                        refine zw_ifeqB (tgt := 248) X dX8_seats_240 (by decide) (fun c_240 => ?_) (fun c_240 => ?_)
                        · refine zw_iconst (v := 1) X dX8_seats_248 ik_1 ?_
                          refine zw_goto (tgt := 253) X dX8_seats_249 (by decide) ?_
                          refine zw_istore_7 X dX8_seats_253 ?_
                          refine zw_iinc_9_p1 X dX8_seats_255 ?_
                          refine zw_iinc_11_p1 X dX8_seats_258 ?_
                          refine zw_goto (tgt := 153) X dX8_seats_261 (by decide) ?_
                          refine zw_fg_12 ?_
                          refine zw_fg_13 ?_
                          exact ih153 _ _ _ (by first | (simp only [mA2, mMeet, mDg, bI_0', bI_1', bI_0, bI_1, bI_inj, c_144, c_182, c_217, c_226, c_240, decide_true, decide_false, Bool.and_true, Bool.true_and, Bool.and_false, Bool.false_and, Bool.or_true, Bool.true_or, Bool.or_false, Bool.false_or, Bool.not_true, Bool.not_false, if_true, if_false, ite_true, ite_false, Bool.false_eq_true, not_true_eq_false, not_false_eq_true, bI_t, bI_f, decide_eq_true_eq, reduceCtorEq]; done) | (simp [mA2, mMeet, mDg, bI_0', bI_1', bI_0, bI_1, bI_inj, c_144, c_182, c_217, c_226, c_240]; done) | simp_all) (by first | (simp only [mA2, mMeet, mDg, bI_0', bI_1', bI_0, bI_1, bI_inj, c_144, c_182, c_217, c_226, c_240, decide_true, decide_false, Bool.and_true, Bool.true_and, Bool.and_false, Bool.false_and, Bool.or_true, Bool.true_or, Bool.or_false, Bool.false_or, Bool.not_true, Bool.not_false, if_true, if_false, ite_true, ite_false, Bool.false_eq_true, not_true_eq_false, not_false_eq_true, bI_t, bI_f, decide_eq_true_eq, reduceCtorEq]; done) | (simp [mA2, mMeet, mDg, bI_0', bI_1', bI_0, bI_1, bI_inj, c_144, c_182, c_217, c_226, c_240]; done) | simp_all) (nI_1 _)
                        · refine zw_iload_13 X dX8_seats_243 ?_
                          refine zw_ifeq_t (tgt := 252) X dX8_seats_245 (by decide) (by decide) ?_
                          refine zw_iconst (v := 0) X dX8_seats_252 ik_0 ?_
                          refine zw_istore_7 X dX8_seats_253 ?_
                          refine zw_iinc_9_p1 X dX8_seats_255 ?_
                          refine zw_iinc_11_p1 X dX8_seats_258 ?_
                          refine zw_goto (tgt := 153) X dX8_seats_261 (by decide) ?_
                          refine zw_fg_12 ?_
                          refine zw_fg_13 ?_
                          exact ih153 _ _ _ (by first | (simp only [mA2, mMeet, mDg, bI_0', bI_1', bI_0, bI_1, bI_inj, c_144, c_182, c_217, c_226, c_240, decide_true, decide_false, Bool.and_true, Bool.true_and, Bool.and_false, Bool.false_and, Bool.or_true, Bool.true_or, Bool.or_false, Bool.false_or, Bool.not_true, Bool.not_false, if_true, if_false, ite_true, ite_false, Bool.false_eq_true, not_true_eq_false, not_false_eq_true, bI_t, bI_f, decide_eq_true_eq, reduceCtorEq]; done) | (simp [mA2, mMeet, mDg, bI_0', bI_1', bI_0, bI_1, bI_inj, c_144, c_182, c_217, c_226, c_240]; done) | simp_all) (by first | (simp only [mA2, mMeet, mDg, bI_0', bI_1', bI_0, bI_1, bI_inj, c_144, c_182, c_217, c_226, c_240, decide_true, decide_false, Bool.and_true, Bool.true_and, Bool.and_false, Bool.false_and, Bool.or_true, Bool.true_or, Bool.or_false, Bool.false_or, Bool.not_true, Bool.not_false, if_true, if_false, ite_true, ite_false, Bool.false_eq_true, not_true_eq_false, not_false_eq_true, bI_t, bI_f, decide_eq_true_eq, reduceCtorEq]; done) | (simp [mA2, mMeet, mDg, bI_0', bI_1', bI_0, bI_1, bI_inj, c_144, c_182, c_217, c_226, c_240]; done) | simp_all) (nI_1 _)
                      · refine zw_iload_13 X dX8_seats_229 ?_
                        refine zw_ifne_f (tgt := 252) X dX8_seats_231 (by decide) (by decide) ?_
                        refine zw_iload_2 X dX8_seats_234 ?_
                        refine zw_iload_9 X dX8_seats_235 ?_
                        refine zw_cS_iii X dX8_seats_237 lk_X8_110 ok_MX8_has st_MX8_has rm_X8_seats_X8_has (Nat.le_of_ble_eq_true rfl) t_X8_has ?_
                        refine zw_ifeqB (tgt := 248) X dX8_seats_240 (by decide) (fun c_240 => ?_) (fun c_240 => ?_)
                        · refine zw_iconst (v := 1) X dX8_seats_248 ik_1 ?_
                          refine zw_goto (tgt := 253) X dX8_seats_249 (by decide) ?_
                          refine zw_istore_7 X dX8_seats_253 ?_
                          refine zw_iinc_9_p1 X dX8_seats_255 ?_
                          refine zw_iinc_11_p1 X dX8_seats_258 ?_
                          refine zw_goto (tgt := 153) X dX8_seats_261 (by decide) ?_
                          refine zw_fg_12 ?_
                          refine zw_fg_13 ?_
                          exact ih153 _ _ _ (by first | (simp only [mA2, mMeet, mDg, bI_0', bI_1', bI_0, bI_1, bI_inj, c_144, c_182, c_217, c_226, c_240, decide_true, decide_false, Bool.and_true, Bool.true_and, Bool.and_false, Bool.false_and, Bool.or_true, Bool.true_or, Bool.or_false, Bool.false_or, Bool.not_true, Bool.not_false, if_true, if_false, ite_true, ite_false, Bool.false_eq_true, not_true_eq_false, not_false_eq_true, bI_t, bI_f, decide_eq_true_eq, reduceCtorEq]; done) | (simp [mA2, mMeet, mDg, bI_0', bI_1', bI_0, bI_1, bI_inj, c_144, c_182, c_217, c_226, c_240]; done) | simp_all) (by first | (simp only [mA2, mMeet, mDg, bI_0', bI_1', bI_0, bI_1, bI_inj, c_144, c_182, c_217, c_226, c_240, decide_true, decide_false, Bool.and_true, Bool.true_and, Bool.and_false, Bool.false_and, Bool.or_true, Bool.true_or, Bool.or_false, Bool.false_or, Bool.not_true, Bool.not_false, if_true, if_false, ite_true, ite_false, Bool.false_eq_true, not_true_eq_false, not_false_eq_true, bI_t, bI_f, decide_eq_true_eq, reduceCtorEq]; done) | (simp [mA2, mMeet, mDg, bI_0', bI_1', bI_0, bI_1, bI_inj, c_144, c_182, c_217, c_226, c_240]; done) | simp_all) (nI_1 _)
                        · refine zw_iload_13 X dX8_seats_243 ?_
                          refine zw_ifeq_t (tgt := 252) X dX8_seats_245 (by decide) (by decide) ?_
                          refine zw_iconst (v := 0) X dX8_seats_252 ik_0 ?_
                          refine zw_istore_7 X dX8_seats_253 ?_
                          refine zw_iinc_9_p1 X dX8_seats_255 ?_
                          refine zw_iinc_11_p1 X dX8_seats_258 ?_
                          refine zw_goto (tgt := 153) X dX8_seats_261 (by decide) ?_
                          refine zw_fg_12 ?_
                          refine zw_fg_13 ?_
                          exact ih153 _ _ _ (by first | (simp only [mA2, mMeet, mDg, bI_0', bI_1', bI_0, bI_1, bI_inj, c_144, c_182, c_217, c_226, c_240, decide_true, decide_false, Bool.and_true, Bool.true_and, Bool.and_false, Bool.false_and, Bool.or_true, Bool.true_or, Bool.or_false, Bool.false_or, Bool.not_true, Bool.not_false, if_true, if_false, ite_true, ite_false, Bool.false_eq_true, not_true_eq_false, not_false_eq_true, bI_t, bI_f, decide_eq_true_eq, reduceCtorEq]; done) | (simp [mA2, mMeet, mDg, bI_0', bI_1', bI_0, bI_1, bI_inj, c_144, c_182, c_217, c_226, c_240]; done) | simp_all) (by first | (simp only [mA2, mMeet, mDg, bI_0', bI_1', bI_0, bI_1, bI_inj, c_144, c_182, c_217, c_226, c_240, decide_true, decide_false, Bool.and_true, Bool.true_and, Bool.and_false, Bool.false_and, Bool.or_true, Bool.true_or, Bool.or_false, Bool.false_or, Bool.not_true, Bool.not_false, if_true, if_false, ite_true, ite_false, Bool.false_eq_true, not_true_eq_false, not_false_eq_true, bI_t, bI_f, decide_eq_true_eq, reduceCtorEq]; done) | (simp [mA2, mMeet, mDg, bI_0', bI_1', bI_0, bI_1, bI_inj, c_144, c_182, c_217, c_226, c_240]; done) | simp_all) (nI_1 _)
                  · refine zw_iconst (v := 1) X dX8_seats_185 ik_1 ?_
                    refine zw_goto (tgt := 190) X dX8_seats_186 (by decide) ?_
                    refine zw_istore_12 X dX8_seats_190 ?_
                    refine zw_iload_12 X dX8_seats_192 ?_
                    refine zw_ifeq_f (tgt := 212) X dX8_seats_194 (by decide) (by decide) ?_
                    refine zw_aload_0 X dX8_seats_197 ?_
                    refine zw_iload_10 X dX8_seats_198 ?_
                    refine zw_iload_11 X dX8_seats_200 ?_
                    refine zw_cV_iii X dX8_seats_202 lk_X8_157 ok_MX8_rideAtOnce vi_MX8_rideAtOnce rm_X8_seats_X8_rideAtOnce sh_42 rfl (Nat.le_of_ble_eq_true rfl) (t_X8_rideAtOnce (vp_in_nI hn135 (by decide)) (vp_in_nI (show n135 + 1 + n153 < 6 by omega) (by decide))) ?_
                    refine zw_ifeqB (tgt := 212) X dX8_seats_205 (by decide) (fun c_205 => ?_) (fun c_205 => ?_)
                    · refine zw_iconst (v := 0) X dX8_seats_212 ik_0 ?_
                      refine zw_istore_13 X dX8_seats_213 ?_
                      refine zw_iload_7 X dX8_seats_215 ?_
                      refine zw_ifeqB (tgt := 252) X dX8_seats_217 (by decide) (fun c_217 => ?_) (fun c_217 => ?_)
                      · refine zw_iconst (v := 0) X dX8_seats_252 ik_0 ?_
                        refine zw_istore_7 X dX8_seats_253 ?_
                        refine zw_iinc_9_p1 X dX8_seats_255 ?_
                        refine zw_iinc_11_p1 X dX8_seats_258 ?_
                        refine zw_goto (tgt := 153) X dX8_seats_261 (by decide) ?_
                        refine zw_fg_12 ?_
                        refine zw_fg_13 ?_
                        exact ih153 _ _ _ (by first | (simp only [mA2, mMeet, mDg, bI_0', bI_1', bI_0, bI_1, bI_inj, c_144, eq_true c_182, c_205, c_217, decide_true, decide_false, Bool.and_true, Bool.true_and, Bool.and_false, Bool.false_and, Bool.or_true, Bool.true_or, Bool.or_false, Bool.false_or, Bool.not_true, Bool.not_false, if_true, if_false, ite_true, ite_false, Bool.false_eq_true, not_true_eq_false, not_false_eq_true, bI_t, bI_f, decide_eq_true_eq, reduceCtorEq]; done) | (simp [mA2, mMeet, mDg, bI_0', bI_1', bI_0, bI_1, bI_inj, c_144, eq_true c_182, c_205, c_217]; done) | simp_all) (by first | (simp only [mA2, mMeet, mDg, bI_0', bI_1', bI_0, bI_1, bI_inj, c_144, eq_true c_182, c_205, c_217, decide_true, decide_false, Bool.and_true, Bool.true_and, Bool.and_false, Bool.false_and, Bool.or_true, Bool.true_or, Bool.or_false, Bool.false_or, Bool.not_true, Bool.not_false, if_true, if_false, ite_true, ite_false, Bool.false_eq_true, not_true_eq_false, not_false_eq_true, bI_t, bI_f, decide_eq_true_eq, reduceCtorEq]; done) | (simp [mA2, mMeet, mDg, bI_0', bI_1', bI_0, bI_1, bI_inj, c_144, eq_true c_182, c_205, c_217]; done) | simp_all) (nI_1 _)
                      · refine zw_iload_1 X dX8_seats_220 ?_
                        refine zw_iload_9 X dX8_seats_221 ?_
                        refine zw_cS_iii X dX8_seats_223 lk_X8_110 ok_MX8_has st_MX8_has rm_X8_seats_X8_has (Nat.le_of_ble_eq_true rfl) t_X8_has ?_
                        refine zw_ifeqB (tgt := 234) X dX8_seats_226 (by decide) (fun c_226 => ?_) (fun c_226 => ?_)
                        · refine zw_iload_2 X dX8_seats_234 ?_
                          refine zw_iload_9 X dX8_seats_235 ?_
                          refine zw_cS_iii X dX8_seats_237 lk_X8_110 ok_MX8_has st_MX8_has rm_X8_seats_X8_has (Nat.le_of_ble_eq_true rfl) t_X8_has ?_
                          refine zw_ifeqB (tgt := 248) X dX8_seats_240 (by decide) (fun c_240 => ?_) (fun c_240 => ?_)
                          · refine zw_iconst (v := 1) X dX8_seats_248 ik_1 ?_
                            refine zw_goto (tgt := 253) X dX8_seats_249 (by decide) ?_
                            refine zw_istore_7 X dX8_seats_253 ?_
                            refine zw_iinc_9_p1 X dX8_seats_255 ?_
                            refine zw_iinc_11_p1 X dX8_seats_258 ?_
                            refine zw_goto (tgt := 153) X dX8_seats_261 (by decide) ?_
                            refine zw_fg_12 ?_
                            refine zw_fg_13 ?_
                            exact ih153 _ _ _ (by first | (simp only [mA2, mMeet, mDg, bI_0', bI_1', bI_0, bI_1, bI_inj, c_144, eq_true c_182, c_205, c_217, c_226, c_240, decide_true, decide_false, Bool.and_true, Bool.true_and, Bool.and_false, Bool.false_and, Bool.or_true, Bool.true_or, Bool.or_false, Bool.false_or, Bool.not_true, Bool.not_false, if_true, if_false, ite_true, ite_false, Bool.false_eq_true, not_true_eq_false, not_false_eq_true, bI_t, bI_f, decide_eq_true_eq, reduceCtorEq]; done) | (simp [mA2, mMeet, mDg, bI_0', bI_1', bI_0, bI_1, bI_inj, c_144, eq_true c_182, c_205, c_217, c_226, c_240]; done) | simp_all) (by first | (simp only [mA2, mMeet, mDg, bI_0', bI_1', bI_0, bI_1, bI_inj, c_144, eq_true c_182, c_205, c_217, c_226, c_240, decide_true, decide_false, Bool.and_true, Bool.true_and, Bool.and_false, Bool.false_and, Bool.or_true, Bool.true_or, Bool.or_false, Bool.false_or, Bool.not_true, Bool.not_false, if_true, if_false, ite_true, ite_false, Bool.false_eq_true, not_true_eq_false, not_false_eq_true, bI_t, bI_f, decide_eq_true_eq, reduceCtorEq]; done) | (simp [mA2, mMeet, mDg, bI_0', bI_1', bI_0, bI_1, bI_inj, c_144, eq_true c_182, c_205, c_217, c_226, c_240]; done) | simp_all) (nI_1 _)
                          · refine zw_iload_13 X dX8_seats_243 ?_
                            refine zw_ifeq_t (tgt := 252) X dX8_seats_245 (by decide) (by decide) ?_
                            refine zw_iconst (v := 0) X dX8_seats_252 ik_0 ?_
                            refine zw_istore_7 X dX8_seats_253 ?_
                            refine zw_iinc_9_p1 X dX8_seats_255 ?_
                            refine zw_iinc_11_p1 X dX8_seats_258 ?_
                            refine zw_goto (tgt := 153) X dX8_seats_261 (by decide) ?_
                            refine zw_fg_12 ?_
                            refine zw_fg_13 ?_
                            exact ih153 _ _ _ (by first | (simp only [mA2, mMeet, mDg, bI_0', bI_1', bI_0, bI_1, bI_inj, c_144, eq_true c_182, c_205, c_217, c_226, c_240, decide_true, decide_false, Bool.and_true, Bool.true_and, Bool.and_false, Bool.false_and, Bool.or_true, Bool.true_or, Bool.or_false, Bool.false_or, Bool.not_true, Bool.not_false, if_true, if_false, ite_true, ite_false, Bool.false_eq_true, not_true_eq_false, not_false_eq_true, bI_t, bI_f, decide_eq_true_eq, reduceCtorEq]; done) | (simp [mA2, mMeet, mDg, bI_0', bI_1', bI_0, bI_1, bI_inj, c_144, eq_true c_182, c_205, c_217, c_226, c_240]; done) | simp_all) (by first | (simp only [mA2, mMeet, mDg, bI_0', bI_1', bI_0, bI_1, bI_inj, c_144, eq_true c_182, c_205, c_217, c_226, c_240, decide_true, decide_false, Bool.and_true, Bool.true_and, Bool.and_false, Bool.false_and, Bool.or_true, Bool.true_or, Bool.or_false, Bool.false_or, Bool.not_true, Bool.not_false, if_true, if_false, ite_true, ite_false, Bool.false_eq_true, not_true_eq_false, not_false_eq_true, bI_t, bI_f, decide_eq_true_eq, reduceCtorEq]; done) | (simp [mA2, mMeet, mDg, bI_0', bI_1', bI_0, bI_1, bI_inj, c_144, eq_true c_182, c_205, c_217, c_226, c_240]; done) | simp_all) (nI_1 _)
                        · refine zw_iload_13 X dX8_seats_229 ?_
                          refine zw_ifne_f (tgt := 252) X dX8_seats_231 (by decide) (by decide) ?_
                          refine zw_iload_2 X dX8_seats_234 ?_
                          refine zw_iload_9 X dX8_seats_235 ?_
                          refine zw_cS_iii X dX8_seats_237 lk_X8_110 ok_MX8_has st_MX8_has rm_X8_seats_X8_has (Nat.le_of_ble_eq_true rfl) t_X8_has ?_
                          refine zw_ifeqB (tgt := 248) X dX8_seats_240 (by decide) (fun c_240 => ?_) (fun c_240 => ?_)
                          · refine zw_iconst (v := 1) X dX8_seats_248 ik_1 ?_
                            refine zw_goto (tgt := 253) X dX8_seats_249 (by decide) ?_
                            refine zw_istore_7 X dX8_seats_253 ?_
                            refine zw_iinc_9_p1 X dX8_seats_255 ?_
                            refine zw_iinc_11_p1 X dX8_seats_258 ?_
                            refine zw_goto (tgt := 153) X dX8_seats_261 (by decide) ?_
                            refine zw_fg_12 ?_
                            refine zw_fg_13 ?_
                            exact ih153 _ _ _ (by first | (simp only [mA2, mMeet, mDg, bI_0', bI_1', bI_0, bI_1, bI_inj, c_144, eq_true c_182, c_205, c_217, c_226, c_240, decide_true, decide_false, Bool.and_true, Bool.true_and, Bool.and_false, Bool.false_and, Bool.or_true, Bool.true_or, Bool.or_false, Bool.false_or, Bool.not_true, Bool.not_false, if_true, if_false, ite_true, ite_false, Bool.false_eq_true, not_true_eq_false, not_false_eq_true, bI_t, bI_f, decide_eq_true_eq, reduceCtorEq]; done) | (simp [mA2, mMeet, mDg, bI_0', bI_1', bI_0, bI_1, bI_inj, c_144, eq_true c_182, c_205, c_217, c_226, c_240]; done) | simp_all) (by first | (simp only [mA2, mMeet, mDg, bI_0', bI_1', bI_0, bI_1, bI_inj, c_144, eq_true c_182, c_205, c_217, c_226, c_240, decide_true, decide_false, Bool.and_true, Bool.true_and, Bool.and_false, Bool.false_and, Bool.or_true, Bool.true_or, Bool.or_false, Bool.false_or, Bool.not_true, Bool.not_false, if_true, if_false, ite_true, ite_false, Bool.false_eq_true, not_true_eq_false, not_false_eq_true, bI_t, bI_f, decide_eq_true_eq, reduceCtorEq]; done) | (simp [mA2, mMeet, mDg, bI_0', bI_1', bI_0, bI_1, bI_inj, c_144, eq_true c_182, c_205, c_217, c_226, c_240]; done) | simp_all) (nI_1 _)
                          · refine zw_iload_13 X dX8_seats_243 ?_
                            refine zw_ifeq_t (tgt := 252) X dX8_seats_245 (by decide) (by decide) ?_
                            refine zw_iconst (v := 0) X dX8_seats_252 ik_0 ?_
                            refine zw_istore_7 X dX8_seats_253 ?_
                            refine zw_iinc_9_p1 X dX8_seats_255 ?_
                            refine zw_iinc_11_p1 X dX8_seats_258 ?_
                            refine zw_goto (tgt := 153) X dX8_seats_261 (by decide) ?_
                            refine zw_fg_12 ?_
                            refine zw_fg_13 ?_
                            exact ih153 _ _ _ (by first | (simp only [mA2, mMeet, mDg, bI_0', bI_1', bI_0, bI_1, bI_inj, c_144, eq_true c_182, c_205, c_217, c_226, c_240, decide_true, decide_false, Bool.and_true, Bool.true_and, Bool.and_false, Bool.false_and, Bool.or_true, Bool.true_or, Bool.or_false, Bool.false_or, Bool.not_true, Bool.not_false, if_true, if_false, ite_true, ite_false, Bool.false_eq_true, not_true_eq_false, not_false_eq_true, bI_t, bI_f, decide_eq_true_eq, reduceCtorEq]; done) | (simp [mA2, mMeet, mDg, bI_0', bI_1', bI_0, bI_1, bI_inj, c_144, eq_true c_182, c_205, c_217, c_226, c_240]; done) | simp_all) (by first | (simp only [mA2, mMeet, mDg, bI_0', bI_1', bI_0, bI_1, bI_inj, c_144, eq_true c_182, c_205, c_217, c_226, c_240, decide_true, decide_false, Bool.and_true, Bool.true_and, Bool.and_false, Bool.false_and, Bool.or_true, Bool.true_or, Bool.or_false, Bool.false_or, Bool.not_true, Bool.not_false, if_true, if_false, ite_true, ite_false, Bool.false_eq_true, not_true_eq_false, not_false_eq_true, bI_t, bI_f, decide_eq_true_eq, reduceCtorEq]; done) | (simp [mA2, mMeet, mDg, bI_0', bI_1', bI_0, bI_1, bI_inj, c_144, eq_true c_182, c_205, c_217, c_226, c_240]; done) | simp_all) (nI_1 _)
                    · refine zw_iconst (v := 1) X dX8_seats_208 ik_1 ?_
                      refine zw_goto (tgt := 213) X dX8_seats_209 (by decide) ?_
                      refine zw_istore_13 X dX8_seats_213 ?_
                      refine zw_iload_7 X dX8_seats_215 ?_
                      refine zw_ifeqB (tgt := 252) X dX8_seats_217 (by decide) (fun c_217 => ?_) (fun c_217 => ?_)
                      · refine zw_iconst (v := 0) X dX8_seats_252 ik_0 ?_
                        refine zw_istore_7 X dX8_seats_253 ?_
                        refine zw_iinc_9_p1 X dX8_seats_255 ?_
                        refine zw_iinc_11_p1 X dX8_seats_258 ?_
                        refine zw_goto (tgt := 153) X dX8_seats_261 (by decide) ?_
                        refine zw_fg_12 ?_
                        refine zw_fg_13 ?_
                        exact ih153 _ _ _ (by first | (simp only [mA2, mMeet, mDg, bI_0', bI_1', bI_0, bI_1, bI_inj, c_144, eq_true c_182, c_205, c_217, decide_true, decide_false, Bool.and_true, Bool.true_and, Bool.and_false, Bool.false_and, Bool.or_true, Bool.true_or, Bool.or_false, Bool.false_or, Bool.not_true, Bool.not_false, if_true, if_false, ite_true, ite_false, Bool.false_eq_true, not_true_eq_false, not_false_eq_true, bI_t, bI_f, decide_eq_true_eq, reduceCtorEq]; done) | (simp [mA2, mMeet, mDg, bI_0', bI_1', bI_0, bI_1, bI_inj, c_144, eq_true c_182, c_205, c_217]; done) | simp_all) (by first | (simp only [mA2, mMeet, mDg, bI_0', bI_1', bI_0, bI_1, bI_inj, c_144, eq_true c_182, c_205, c_217, decide_true, decide_false, Bool.and_true, Bool.true_and, Bool.and_false, Bool.false_and, Bool.or_true, Bool.true_or, Bool.or_false, Bool.false_or, Bool.not_true, Bool.not_false, if_true, if_false, ite_true, ite_false, Bool.false_eq_true, not_true_eq_false, not_false_eq_true, bI_t, bI_f, decide_eq_true_eq, reduceCtorEq]; done) | (simp [mA2, mMeet, mDg, bI_0', bI_1', bI_0, bI_1, bI_inj, c_144, eq_true c_182, c_205, c_217]; done) | simp_all) (nI_1 _)
                      · refine zw_iload_1 X dX8_seats_220 ?_
                        refine zw_iload_9 X dX8_seats_221 ?_
                        refine zw_cS_iii X dX8_seats_223 lk_X8_110 ok_MX8_has st_MX8_has rm_X8_seats_X8_has (Nat.le_of_ble_eq_true rfl) t_X8_has ?_
                        refine zw_ifeqB (tgt := 234) X dX8_seats_226 (by decide) (fun c_226 => ?_) (fun c_226 => ?_)
                        · refine zw_iload_2 X dX8_seats_234 ?_
                          refine zw_iload_9 X dX8_seats_235 ?_
                          refine zw_cS_iii X dX8_seats_237 lk_X8_110 ok_MX8_has st_MX8_has rm_X8_seats_X8_has (Nat.le_of_ble_eq_true rfl) t_X8_has ?_
                          refine zw_ifeqB (tgt := 248) X dX8_seats_240 (by decide) (fun c_240 => ?_) (fun c_240 => ?_)
                          · refine zw_iconst (v := 1) X dX8_seats_248 ik_1 ?_
                            refine zw_goto (tgt := 253) X dX8_seats_249 (by decide) ?_
                            refine zw_istore_7 X dX8_seats_253 ?_
                            refine zw_iinc_9_p1 X dX8_seats_255 ?_
                            refine zw_iinc_11_p1 X dX8_seats_258 ?_
                            refine zw_goto (tgt := 153) X dX8_seats_261 (by decide) ?_
                            refine zw_fg_12 ?_
                            refine zw_fg_13 ?_
                            exact ih153 _ _ _ (by first | (simp only [mA2, mMeet, mDg, bI_0', bI_1', bI_0, bI_1, bI_inj, c_144, eq_true c_182, c_205, c_217, c_226, c_240, decide_true, decide_false, Bool.and_true, Bool.true_and, Bool.and_false, Bool.false_and, Bool.or_true, Bool.true_or, Bool.or_false, Bool.false_or, Bool.not_true, Bool.not_false, if_true, if_false, ite_true, ite_false, Bool.false_eq_true, not_true_eq_false, not_false_eq_true, bI_t, bI_f, decide_eq_true_eq, reduceCtorEq]; done) | (simp [mA2, mMeet, mDg, bI_0', bI_1', bI_0, bI_1, bI_inj, c_144, eq_true c_182, c_205, c_217, c_226, c_240]; done) | simp_all) (by first | (simp only [mA2, mMeet, mDg, bI_0', bI_1', bI_0, bI_1, bI_inj, c_144, eq_true c_182, c_205, c_217, c_226, c_240, decide_true, decide_false, Bool.and_true, Bool.true_and, Bool.and_false, Bool.false_and, Bool.or_true, Bool.true_or, Bool.or_false, Bool.false_or, Bool.not_true, Bool.not_false, if_true, if_false, ite_true, ite_false, Bool.false_eq_true, not_true_eq_false, not_false_eq_true, bI_t, bI_f, decide_eq_true_eq, reduceCtorEq]; done) | (simp [mA2, mMeet, mDg, bI_0', bI_1', bI_0, bI_1, bI_inj, c_144, eq_true c_182, c_205, c_217, c_226, c_240]; done) | simp_all) (nI_1 _)
                          · refine zw_iload_13 X dX8_seats_243 ?_
                            refine zw_ifeq_f (tgt := 252) X dX8_seats_245 (by decide) (by decide) ?_
                            refine zw_iconst (v := 1) X dX8_seats_248 ik_1 ?_
                            refine zw_goto (tgt := 253) X dX8_seats_249 (by decide) ?_
                            refine zw_istore_7 X dX8_seats_253 ?_
                            refine zw_iinc_9_p1 X dX8_seats_255 ?_
                            refine zw_iinc_11_p1 X dX8_seats_258 ?_
                            refine zw_goto (tgt := 153) X dX8_seats_261 (by decide) ?_
                            refine zw_fg_12 ?_
                            refine zw_fg_13 ?_
                            exact ih153 _ _ _ (by first | (simp only [mA2, mMeet, mDg, bI_0', bI_1', bI_0, bI_1, bI_inj, c_144, eq_true c_182, c_205, c_217, c_226, c_240, decide_true, decide_false, Bool.and_true, Bool.true_and, Bool.and_false, Bool.false_and, Bool.or_true, Bool.true_or, Bool.or_false, Bool.false_or, Bool.not_true, Bool.not_false, if_true, if_false, ite_true, ite_false, Bool.false_eq_true, not_true_eq_false, not_false_eq_true, bI_t, bI_f, decide_eq_true_eq, reduceCtorEq]; done) | (simp [mA2, mMeet, mDg, bI_0', bI_1', bI_0, bI_1, bI_inj, c_144, eq_true c_182, c_205, c_217, c_226, c_240]; done) | simp_all) (by first | (simp only [mA2, mMeet, mDg, bI_0', bI_1', bI_0, bI_1, bI_inj, c_144, eq_true c_182, c_205, c_217, c_226, c_240, decide_true, decide_false, Bool.and_true, Bool.true_and, Bool.and_false, Bool.false_and, Bool.or_true, Bool.true_or, Bool.or_false, Bool.false_or, Bool.not_true, Bool.not_false, if_true, if_false, ite_true, ite_false, Bool.false_eq_true, not_true_eq_false, not_false_eq_true, bI_t, bI_f, decide_eq_true_eq, reduceCtorEq]; done) | (simp [mA2, mMeet, mDg, bI_0', bI_1', bI_0, bI_1, bI_inj, c_144, eq_true c_182, c_205, c_217, c_226, c_240]; done) | simp_all) (nI_1 _)
                        · refine zw_iload_13 X dX8_seats_229 ?_
                          refine zw_ifne_t (tgt := 252) X dX8_seats_231 (by decide) (by decide) ?_
                          refine zw_iconst (v := 0) X dX8_seats_252 ik_0 ?_
                          refine zw_istore_7 X dX8_seats_253 ?_
                          refine zw_iinc_9_p1 X dX8_seats_255 ?_
                          refine zw_iinc_11_p1 X dX8_seats_258 ?_
                          refine zw_goto (tgt := 153) X dX8_seats_261 (by decide) ?_
                          refine zw_fg_12 ?_
                          refine zw_fg_13 ?_
                          exact ih153 _ _ _ (by first | (simp only [mA2, mMeet, mDg, bI_0', bI_1', bI_0, bI_1, bI_inj, c_144, eq_true c_182, c_205, c_217, c_226, decide_true, decide_false, Bool.and_true, Bool.true_and, Bool.and_false, Bool.false_and, Bool.or_true, Bool.true_or, Bool.or_false, Bool.false_or, Bool.not_true, Bool.not_false, if_true, if_false, ite_true, ite_false, Bool.false_eq_true, not_true_eq_false, not_false_eq_true, bI_t, bI_f, decide_eq_true_eq, reduceCtorEq]; done) | (simp [mA2, mMeet, mDg, bI_0', bI_1', bI_0, bI_1, bI_inj, c_144, eq_true c_182, c_205, c_217, c_226]; done) | simp_all) (by first | (simp only [mA2, mMeet, mDg, bI_0', bI_1', bI_0, bI_1, bI_inj, c_144, eq_true c_182, c_205, c_217, c_226, decide_true, decide_false, Bool.and_true, Bool.true_and, Bool.and_false, Bool.false_and, Bool.or_true, Bool.true_or, Bool.or_false, Bool.false_or, Bool.not_true, Bool.not_false, if_true, if_false, ite_true, ite_false, Bool.false_eq_true, not_true_eq_false, not_false_eq_true, bI_t, bI_f, decide_eq_true_eq, reduceCtorEq]; done) | (simp [mA2, mMeet, mDg, bI_0', bI_1', bI_0, bI_1, bI_inj, c_144, eq_true c_182, c_205, c_217, c_226]; done) | simp_all) (nI_1 _)
                · subst hv153_7 hv153_9 hv153_11
                  refine zw_iload_11 X dX8_seats_153 ?_
                  refine zw_bipush (v := 6) X dX8_seats_155 bk_6 ?_
                  refine zw_icmpge_t (tgt := 264) X dX8_seats_157 (by decide) (nI_nlt (a := n135 + 1 + (5 - n135)) (b := 6) (by omega) (by omega)) ?_
                  refine zw_iinc_10_p1 X dX8_seats_264 ?_
                  refine zw_goto (tgt := 135) X dX8_seats_267 (by decide) ?_
                  refine zw_fg_11 ?_
                  refine zw_fg_12 ?_
                  refine zw_fg_13 ?_
                  exact ih135 _ _ _ (by first | (simp only [mA3, ← ha153, c_144, decide_true, decide_false, Bool.and_true, Bool.true_and, Bool.and_false, Bool.false_and, Bool.or_true, Bool.true_or, Bool.or_false, Bool.false_or, Bool.not_true, Bool.not_false, if_true, if_false, ite_true, ite_false, Bool.false_eq_true, not_true_eq_false, not_false_eq_true, bI_t, bI_f, decide_eq_true_eq, reduceCtorEq]; done) | (simp [mA3, ← ha153, c_144]; done) | simp_all) (by first | (simp only [mA3, ← ha153, c_144, decide_true, decide_false, Bool.and_true, Bool.true_and, Bool.and_false, Bool.false_and, Bool.or_true, Bool.true_or, Bool.or_false, Bool.false_or, Bool.not_true, Bool.not_false, if_true, if_false, ite_true, ite_false, Bool.false_eq_true, not_true_eq_false, not_false_eq_true, bI_t, bI_f, decide_eq_true_eq, reduceCtorEq]; done) | (simp [mA3, ← ha153, c_144]; done) | simp_all) (nI_1 n135)
            · subst hv135_7 hv135_9 hv135_10
              refine zw_iload_10 X dX8_seats_135 ?_
              refine zw_bipush (v := 6) X dX8_seats_137 bk_6 ?_
              refine zw_icmpge_t (tgt := 270) X dX8_seats_139 (by decide) (by decide) ?_
              refine zw_fg_9 ?_
              refine zw_fg_10 ?_
              refine zw_fg_11 ?_
              refine zw_fg_12 ?_
              refine zw_fg_13 ?_
              have hK : itr (mA3 σ ap to (nI n44)) 6 (a61.1, 0) = a135 := by first | exact ha135.symm | (have h0 := mA3_stop ha135 c_144 (6 - n135); rwa [show n135 + (6 - n135) = 6 by omega] at h0)
              exact zw_ls (by rw [hK]) K
        · subst hv44_4 hv44_5 hv44_6
          refine zw_iload_6 X dX8_seats_44 ?_
          refine zw_sipush (v := 4096) X dX8_seats_46 sk_4096 ?_
          refine zw_icmpge_t (tgt := 310) X dX8_seats_49 (by decide) (by decide) ?_
          refine zw_iload_3 X dX8_seats_310 ?_
          refine zw_ifne (tgt := 319) X dX8_seats_311 (by decide) (fun c_311 => ?_) (fun c_311 => ?_)
          · refine zw_iload_5 X dX8_seats_319 ?_
            exact zw_iret X F dX8_seats_321 rfl (by simp only [Y_seats, mSts, ← ha44, c_8, c_19, c_28, c_311, decide_true, decide_false, Bool.and_true, Bool.true_and, Bool.and_false, Bool.false_and, Bool.or_true, Bool.true_or, Bool.or_false, Bool.false_or, Bool.not_true, Bool.not_false, if_true, if_false, ite_true, ite_false, Bool.false_eq_true, not_true_eq_false, not_false_eq_true, bI_t, bI_f, decide_eq_true_eq, reduceCtorEq]) (by first | (simp only [Y_seats, c_8, c_19, c_28, c_311, decide_true, decide_false, Bool.and_true, Bool.true_and, Bool.and_false, Bool.false_and, Bool.or_true, Bool.true_or, Bool.or_false, Bool.false_or, Bool.not_true, Bool.not_false, if_true, if_false, ite_true, ite_false, Bool.false_eq_true, not_true_eq_false, not_false_eq_true, bI_t, bI_f, decide_eq_true_eq, reduceCtorEq]; done) | (simp [Y_seats, c_8, c_19, c_28, c_311]; done) | simp_all)
          · refine zw_iload_4 X dX8_seats_314 ?_
            refine zw_goto (tgt := 321) X dX8_seats_316 (by decide) ?_
            exact zw_iret X F dX8_seats_321 rfl (by simp only [Y_seats, mSts, ← ha44, c_8, c_19, c_28, eq_true c_311, decide_true, decide_false, Bool.and_true, Bool.true_and, Bool.and_false, Bool.false_and, Bool.or_true, Bool.true_or, Bool.or_false, Bool.false_or, Bool.not_true, Bool.not_false, if_true, if_false, ite_true, ite_false, Bool.false_eq_true, not_true_eq_false, not_false_eq_true, bI_t, bI_f, decide_eq_true_eq, reduceCtorEq]) (by first | (simp only [Y_seats, c_8, c_19, c_28, eq_true c_311, decide_true, decide_false, Bool.and_true, Bool.true_and, Bool.and_false, Bool.false_and, Bool.or_true, Bool.true_or, Bool.or_false, Bool.false_or, Bool.not_true, Bool.not_false, if_true, if_false, ite_true, ite_false, Bool.false_eq_true, not_true_eq_false, not_false_eq_true, bI_t, bI_f, decide_eq_true_eq, reduceCtorEq]; done) | (simp [Y_seats, c_8, c_19, c_28, eq_true c_311]; done) | simp_all)
      · refine zw_bipush (v := -2) X dX8_seats_31 bk_m2 ?_
        exact zw_iret X F dX8_seats_33 rfl (by first | (simp only [Y_seats, c_8, c_19, c_28, decide_true, decide_false, Bool.and_true, Bool.true_and, Bool.and_false, Bool.false_and, Bool.or_true, Bool.true_or, Bool.or_false, Bool.false_or, Bool.not_true, Bool.not_false, if_true, if_false, ite_true, ite_false, Bool.false_eq_true, not_true_eq_false, not_false_eq_true, bI_t, bI_f, decide_eq_true_eq, reduceCtorEq]; done) | (simp [Y_seats, c_8, c_19, c_28]; done) | simp_all) (by first | (simp only [Y_seats, c_8, c_19, c_28, decide_true, decide_false, Bool.and_true, Bool.true_and, Bool.and_false, Bool.false_and, Bool.or_true, Bool.true_or, Bool.or_false, Bool.false_or, Bool.not_true, Bool.not_false, if_true, if_false, ite_true, ite_false, Bool.false_eq_true, not_true_eq_false, not_false_eq_true, bI_t, bI_f, decide_eq_true_eq, reduceCtorEq]; done) | (simp [Y_seats, c_8, c_19, c_28]; done) | simp_all)
