/-! seatings: the codes of the class among the reference's -/
theorem itr_blk4 {α : Type} (f : Nat → α → α) (a : α) : ∀ N, itr f (4 * N) a = itr (fun c x => f (4 * c + 3) (f (4 * c + 2) (f (4 * c + 1) (f (4 * c) x)))) N a
  | 0 => rfl
  | N + 1 => by
    have e : itr f (4 * (N + 1)) a = f (4 * N + 3) (f (4 * N + 2) (f (4 * N + 1) (f (4 * N) (itr f (4 * N) a)))) := rfl
    rw [e, itr_blk4 f a N]; rfl
theorem itr_blk3 {α : Type} (f : Nat → α → α) (a : α) : ∀ N, itr f (3 * N) a = itr (fun c x => f (3 * c + 2) (f (3 * c + 1) (f (3 * c) x))) N a
  | 0 => rfl
  | N + 1 => by
    have e : itr f (3 * (N + 1)) a = f (3 * N + 2) (f (3 * N + 1) (f (3 * N) (itr f (3 * N) a))) := rfl
    rw [e, itr_blk3 f a N]; rfl
/-- the code of four: R tells who rides, k travellers seen -/
def enc (R : Nat → Bool) : Nat → Nat → Nat
  | 0, _ => 0
  | k + 1, c => if R k then 4 * enc R k (c / 3) + c % 3 else 4 * enc R k c + 3
def vld (R : Nat → Bool) : Nat → Nat → Bool
  | 0, _ => true
  | k + 1, c => vld R k (c / 4) && (R k == decide (c % 4 < 3))
def many (R : Nat → Bool) : Nat → Nat
  | 0 => 1
  | k + 1 => if R k then 3 * many R k else many R k
theorem enc_itr {α : Type} (R : Nat → Bool) : ∀ (k : Nat) (f : Nat → α → α) (a : α), (∀ c, vld R k c = false → ∀ x, f c x = x) → itr f (4 ^ k) a = itr (fun c => f (enc R k c)) (many R k) a
  | 0, f, a, _ => rfl
  | k + 1, f, a, h => by
    have e4 : 4 ^ (k + 1) = 4 * 4 ^ k := by rw [Nat.pow_succ, Nat.mul_comm]
    have hv : ∀ c d, d < 4 → vld R (k + 1) (4 * c + d) = (vld R k c && (R k == decide (d < 3))) := fun c d hd => by
      rw [show vld R (k + 1) (4 * c + d) = (vld R k ((4 * c + d) / 4) && (R k == decide ((4 * c + d) % 4 < 3))) from rfl, show (4 * c + d) / 4 = c by omega, show (4 * c + d) % 4 = d by omega]
    rw [e4, itr_blk4]
    rw [enc_itr R k _ a (fun c hc x => by
      have g : ∀ d, d < 4 → ∀ y, f (4 * c + d) y = y := fun d hd y => h _ (by rw [hv c d hd, hc, Bool.false_and]) y
      have g0 := g 0 (by decide); rw [Nat.add_zero] at g0
      rw [g0, g 1 (by decide), g 2 (by decide), g 3 (by decide)])]
    rw [show many R (k + 1) = if R k then 3 * many R k else many R k from rfl]
    cases hR : R k with
    | true =>
      rw [if_pos rfl, itr_blk3]
      refine itr_congr (fun c _ x => ?_)
      have g3 : ∀ y, f (4 * enc R k c + 3) y = y := fun y => h _ (by rw [hv _ 3 (by decide), hR]; simp) y
      have en : ∀ d, d < 3 → enc R (k + 1) (3 * c + d) = 4 * enc R k c + d := fun d hd => by
        rw [enc, if_pos hR, show (3 * c + d) / 3 = c by omega, show (3 * c + d) % 3 = d by omega]
      have en0 : enc R (k + 1) (3 * c) = 4 * enc R k c := en 0 (by decide)
      rw [g3, en0, en 1 (by decide), en 2 (by decide)]
    | false =>
      rw [if_neg (by decide)]
      refine itr_congr (fun c _ x => ?_)
      have g : ∀ d, d < 3 → ∀ y, f (4 * enc R k c + d) y = y := fun d hd y => h _ (by rw [hv _ d (by omega), hR, decide_eq_true hd]; simp) y
      have g0 := g 0 (by decide); rw [Nat.add_zero] at g0
      have en : enc R (k + 1) c = 4 * enc R k c + 3 := by rw [enc, if_neg (by rw [hR]; decide)]
      rw [g0, g 1 (by decide), g 2 (by decide), en]
