/-! seatings: the twos in a row -/
def tS : Nat → Nat
  | 0 => 0
  | 1 => 5
  | 2 => 9
  | 3 => 12
  | 4 => 14
  | _ => 15
def pa (k : Nat) : Nat := if k < 5 then 0 else if k < 9 then 1 else if k < 12 then 2 else if k < 14 then 3 else 4
def pb (k : Nat) : Nat := k - tS (pa k) + pa k + 1
theorem tS_next : ∀ i, i < 6 → tS (i + 1) = tS i + (5 - i) := by decide
theorem p_at : ∀ i, i < 6 → ∀ j, j < 5 - i → pa (tS i + j) = i ∧ pb (tS i + j) = i + 1 + j := by decide
theorem p_lt : ∀ k, k < 15 → pa k < 6 ∧ pb k < 6 := by decide
theorem itr_app {α : Type} (g : Nat → α → α) (a : α) (s : Nat) : ∀ n, itr g (s + n) a = itr (fun j => g (s + j)) n (itr g s a)
  | 0 => rfl
  | n + 1 => by
    have e1 : itr g (s + (n + 1)) a = g (s + n) (itr g (s + n) a) := rfl
    have e2 : itr (fun j => g (s + j)) (n + 1) (itr g s a) = g (s + n) (itr (fun j => g (s + j)) n (itr g s a)) := rfl
    rw [e1, e2, itr_app g a s n]
theorem itr_flat {α : Type} {f : Nat → Nat → α → α} {g : Nat → α → α} (h : ∀ i, i < 6 → ∀ j, j < 5 - i → ∀ x, f i j x = g (tS i + j) x) (a : α) : ∀ n, n ≤ 6 → itr (fun i x => itr (f i) (5 - i) x) n a = itr g (tS n) a
  | 0, _ => rfl
  | n + 1, hn => by
    have e1 : itr (fun i x => itr (f i) (5 - i) x) (n + 1) a = itr (f n) (5 - n) (itr (fun i x => itr (f i) (5 - i) x) n a) := rfl
    rw [e1, itr_flat h a n (by omega), tS_next n (by omega), itr_app]
    exact itr_congr (fun j hj x => h n (by omega) j hj x)
theorem two_sh : ∀ k, k < 15 → ((1 : Int32) <<< (nI k &&& 31)) <<< ((1 : Int32) &&& 31) = (1 : Int32) <<< (nI (k + 1) &&& 31) := by decide +kernel
theorem twos_eq (P : Nat → Nat → Bool) : twos P = setB (fun k => P (pa k) (pb k)) 15 := by
  have key : itr (twoO P) 6 (0, 1) = itr (fun k (a : Int32 × Int32) => (a.1 ||| (if P (pa k) (pb k) then a.2 else 0), a.2 <<< ((1 : Int32) &&& 31))) 15 (0, 1) := by
    refine itr_flat (f := twoI P) (g := fun k (a : Int32 × Int32) => (a.1 ||| (if P (pa k) (pb k) then a.2 else 0), a.2 <<< ((1 : Int32) &&& 31))) (fun i hi j hj x => ?_) (0, 1) 6 (Nat.le_refl 6)
    obtain ⟨h1, h2⟩ := p_at i hi j hj
    unfold twoI
    rw [h1, h2]
  unfold twos
  rw [key, ← orB_setB]
  have step : ∀ n, n ≤ 15 → itr (fun k (a : Int32 × Int32) => (a.1 ||| (if P (pa k) (pb k) then a.2 else 0), a.2 <<< ((1 : Int32) &&& 31))) n (0, 1) = (itr (fun k a => a ||| (if P (pa k) (pb k) then ((1 : Int32) <<< (nI k &&& 31)) else 0)) n 0, (1 : Int32) <<< (nI n &&& 31)) := by
    intro n
    induction n with
    | zero => intro _; rfl
    | succ n ih =>
      intro hn
      have e1 : itr (fun k (a : Int32 × Int32) => (a.1 ||| (if P (pa k) (pb k) then a.2 else 0), a.2 <<< ((1 : Int32) &&& 31))) (n + 1) (0, 1) = ((fun k (a : Int32 × Int32) => (a.1 ||| (if P (pa k) (pb k) then a.2 else 0), a.2 <<< ((1 : Int32) &&& 31))) n (itr (fun k (a : Int32 × Int32) => (a.1 ||| (if P (pa k) (pb k) then a.2 else 0), a.2 <<< ((1 : Int32) &&& 31))) n (0, 1))) := rfl
      rw [e1, ih (by omega)]
      dsimp only
      rw [two_sh n (by omega)]
      rfl
  rw [step 15 (Nat.le_refl 15)]
theorem b_twos (P : Nat → Nat → Bool) {i : Nat} (hi : i < 32) : bt (twos P) i = (decide (i < 15) && P (pa i) (pb i)) := by
  rw [twos_eq, b_setB _ 15 (by decide) i hi]
/-- the reference's check of the twos -/
def twQ (ap to : Int32) (S T : Nat → Bool) (k : Nat) : Bool := (!bt ap k || !(S k && T k)) && (!bt to k || (S k && T k))
theorem mA3_flat (μ : St) (ap to c : Int32) (b : Bool) : ∀ n, itr (mA3 μ ap to c) n (b, 0) = itr (fun i x => itr (mA2 μ ap to c i) (5 - i) x) n (b, 0) ∨ ((itr (mA3 μ ap to c) n (b, 0)).1 = false ∧ (itr (fun i x => itr (mA2 μ ap to c i) (5 - i) x) n (b, 0)).1 = false)
  | 0 => Or.inl rfl
  | n + 1 => by
    have e1 : itr (mA3 μ ap to c) (n + 1) (b, 0) = mA3 μ ap to c n (itr (mA3 μ ap to c) n (b, 0)) := rfl
    have e2 : itr (fun i x => itr (mA2 μ ap to c i) (5 - i) x) (n + 1) (b, 0) = itr (mA2 μ ap to c n) (5 - n) (itr (fun i x => itr (mA2 μ ap to c i) (5 - i) x) n (b, 0)) := rfl
    have fl : ∀ (x : Bool × Int32), x.1 = false → ∀ m, (itr (mA2 μ ap to c n) m x).1 = false := by
      intro x hx m
      induction m with
      | zero => exact hx
      | succ m ih =>
        have e3 : itr (mA2 μ ap to c n) (m + 1) x = mA2 μ ap to c n m (itr (mA2 μ ap to c n) m x) := rfl
        rw [e3, mA2]; dsimp only; rw [ih, Bool.false_and]
    rw [e1, e2]
    rcases mA3_flat μ ap to c b n with h | ⟨h1, h2⟩
    · rw [h]
      generalize itr (fun i x => itr (mA2 μ ap to c i) (5 - i) x) n (b, 0) = y
      cases hy : y.1 with
      | true => left; rw [mA3, if_pos hy]
      | false => right; rw [mA3, if_neg (by rw [hy]; decide)]; exact ⟨hy, fl y hy _⟩
    · right
      rw [mA3, if_neg (by rw [h1]; decide)]
      exact ⟨h1, fl _ h2 _⟩
theorem mC2_eq (μ : St) (ap to : Int32) {e : Nat} (he : e < 4096) : (mC2 μ ap to (nI e)).1 = ((mC1 μ (nI e)).1 && allB (twQ ap to (fun k => decide (dg e (pa k) = dg e (pb k))) (fun k => mOnce μ (nI (pa k)) (nI (pb k)))) 15) := by
  unfold mC2
  generalize (mC1 μ (nI e)).1 = b
  have hm : ∀ k, k < 15 → mMeet μ (nI e) (pa k) (pb k) = (decide (dg e (pa k) = dg e (pb k)) && mOnce μ (nI (pa k)) (nI (pb k))) := by
    intro k hk
    obtain ⟨h1, h2⟩ := p_lt k hk
    unfold mMeet
    have l : ∀ j, dg e j < 4 := fun j => Nat.mod_lt _ (by decide)
    have l1 := l (pa k)
    have l2 := l (pb k)
    rw [mDg_eq he h1, mDg_eq he h2, decide_eq_decide.mpr (nI_eq (by omega) (by omega))]
  have fin : (itr (fun i x => itr (mA2 μ ap to (nI e) i) (5 - i) x) 6 (b, 0)).1 = (b && allB (twQ ap to (fun k => decide (dg e (pa k) = dg e (pb k))) (fun k => mOnce μ (nI (pa k)) (nI (pb k)))) 15) := by
    rw [itr_flat (f := mA2 μ ap to (nI e)) (g := fun k (a : Bool × Int32) => (a.1 && ((!hasB ap a.2 || !mMeet μ (nI e) (pa k) (pb k)) && (!hasB to a.2 || mMeet μ (nI e) (pa k) (pb k))), a.2 + 1)) (fun i hi j hj x => by
      obtain ⟨h1, h2⟩ := p_at i hi j hj
      unfold mA2
      rw [h1, h2]) (b, 0) 6 (Nat.le_refl 6)]
    show (itr _ 15 (b, 0)).1 = _
    have step : ∀ n, n ≤ 15 → itr (fun k (a : Bool × Int32) => (a.1 && ((!hasB ap a.2 || !mMeet μ (nI e) (pa k) (pb k)) && (!hasB to a.2 || mMeet μ (nI e) (pa k) (pb k))), a.2 + 1)) n (b, 0) = (b && allB (twQ ap to (fun k => decide (dg e (pa k) = dg e (pb k))) (fun k => mOnce μ (nI (pa k)) (nI (pb k)))) n, nI n) := by
      intro n
      induction n with
      | zero => intro _; show (b, (0 : Int32)) = (b && true, nI 0); rw [Bool.and_true]; rfl
      | succ n ih =>
        intro hn
        have e1 : itr (fun k (a : Bool × Int32) => (a.1 && ((!hasB ap a.2 || !mMeet μ (nI e) (pa k) (pb k)) && (!hasB to a.2 || mMeet μ (nI e) (pa k) (pb k))), a.2 + 1)) (n + 1) (b, 0) = (fun k (a : Bool × Int32) => (a.1 && ((!hasB ap a.2 || !mMeet μ (nI e) (pa k) (pb k)) && (!hasB to a.2 || mMeet μ (nI e) (pa k) (pb k))), a.2 + 1)) n (itr (fun k (a : Bool × Int32) => (a.1 && ((!hasB ap a.2 || !mMeet μ (nI e) (pa k) (pb k)) && (!hasB to a.2 || mMeet μ (nI e) (pa k) (pb k))), a.2 + 1)) n (b, 0)) := rfl
        rw [e1, ih (by omega)]
        dsimp only
        rw [hasB_bt (by omega), hasB_bt (by omega), hm n (by omega), nI_1, Bool.and_assoc]
        rfl
    rw [step 15 (Nat.le_refl 15)]
  rcases mA3_flat μ ap to (nI e) b 6 with h | ⟨h1, h2⟩
  · rw [h, fin]
  · rw [h1, ← fin, h2]
/-- the class's check of the twos -/
theorem tw_check {ap to : Int32} (ht : wth to 0 32767 = true) (PS PT : Nat → Nat → Bool) : (decide (to &&& (twos PT ^^^ (-1)) = 0) && (decide (twos PS &&& (ap &&& twos PT) = 0) && decide (to &&& (twos PS ^^^ (-1)) = 0))) = allB (twQ ap to (fun k => PS (pa k) (pb k)) (fun k => PT (pa k) (pb k))) 15 := by
  obtain ⟨t, ht1, rfl⟩ := (wth_0 (b := 32767) (B := 32767) rfl (by decide)).mp ht
  have hb : ∀ i, 15 ≤ i → i < 32 → bt (nI t) i = false := by
    intro i h1 h2
    rw [bt_nI h2]
    exact Nat.testBit_lt_two_pow (Nat.lt_of_lt_of_le (show t < 2 ^ 15 by omega) (Nat.pow_le_pow_right (by decide) h1))
  have z : ∀ x : Int32, x = 0 ↔ ∀ i, i < 32 → bt x i = false := fun x => ⟨fun h i _ => by rw [h, b_0], fun h => b_ext (fun i hi => by rw [h i hi, b_0])⟩
  rw [Bool.eq_iff_iff]
  simp only [Bool.and_eq_true, decide_eq_true_eq, allB_iff]
  constructor
  · rintro ⟨h0, h1, h2⟩ k hk
    have g0 := (z _).mp h0 k (by omega)
    have g1 := (z _).mp h1 k (by omega)
    have g2 := (z _).mp h2 k (by omega)
    rw [b_and, b_xor, b_m1 k (by omega), b_twos _ (by omega), decide_eq_true hk, Bool.true_and] at g0 g2
    rw [b_and, b_and, b_twos _ (by omega), b_twos _ (by omega), decide_eq_true hk, Bool.true_and, Bool.true_and] at g1
    unfold twQ
    dsimp only
    revert g0 g1 g2
    cases bt (nI t) k <;> cases bt ap k <;> cases PS (pa k) (pb k) <;> cases PT (pa k) (pb k) <;> simp
  · intro h
    refine ⟨(z _).mpr (fun k hk => ?_), (z _).mpr (fun k hk => ?_), (z _).mpr (fun k hk => ?_)⟩
    · rw [b_and, b_xor, b_m1 k hk, b_twos _ hk]
      by_cases h15 : k < 15
      · have := h k h15
        unfold twQ at this
        dsimp only at this
        rw [decide_eq_true h15, Bool.true_and]
        revert this
        cases bt (nI t) k <;> cases bt ap k <;> cases PS (pa k) (pb k) <;> cases PT (pa k) (pb k) <;> simp
      · rw [hb k (by omega) hk, Bool.false_and]
    · rw [b_and, b_and, b_twos _ hk, b_twos _ hk]
      by_cases h15 : k < 15
      · have := h k h15
        unfold twQ at this
        dsimp only at this
        rw [decide_eq_true h15, Bool.true_and, Bool.true_and]
        revert this
        cases bt (nI t) k <;> cases bt ap k <;> cases PS (pa k) (pb k) <;> cases PT (pa k) (pb k) <;> simp
      · rw [decide_eq_false h15, Bool.false_and, Bool.false_and]
    · rw [b_and, b_xor, b_m1 k hk, b_twos _ hk]
      by_cases h15 : k < 15
      · have := h k h15
        unfold twQ at this
        dsimp only at this
        rw [decide_eq_true h15, Bool.true_and]
        revert this
        cases bt (nI t) k <;> cases bt ap k <;> cases PS (pa k) (pb k) <;> cases PT (pa k) (pb k) <;> simp
      · rw [hb k (by omega) hk, Bool.false_and]
