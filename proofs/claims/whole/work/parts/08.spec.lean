/-! pure words shared by the walks -/
def itr {α : Type} (f : Nat → α → α) : Nat → α → α
  | 0, a => a
  | n + 1, a => f n (itr f n a)
theorem zloop {α : Type} {S : Nat → α → Prop} {N : Nat} {f : Nat → α → α} {a0 : α} (hs : ∀ n a, n < N → a = itr f n a0 → S (n + 1) (f n a) → S n a) (hN : ∀ a, a = itr f N a0 → S N a) : S 0 a0 := by
  have key : ∀ j, j ≤ N → S (N - j) (itr f (N - j) a0) := by
    intro j
    induction j with
    | zero => intro _; exact hN _ rfl
    | succ j ih =>
      intro h
      refine hs (N - (j + 1)) _ (by omega) rfl ?_
      have e : f (N - (j + 1)) (itr f (N - (j + 1)) a0) = itr f (N - (j + 1) + 1) a0 := rfl
      rw [e, show N - (j + 1) + 1 = N - j by omega]
      exact ih (by omega)
  have := key N (Nat.le_refl N)
  rw [Nat.sub_self] at this
  exact this
/-- is there one below n -/
def exB (P : Nat → Bool) : Nat → Bool
  | 0 => false
  | n + 1 => exB P n || P n
theorem exB_f {P : Nat → Bool} : ∀ {n : Nat}, exB P n = false ↔ ∀ i, i < n → P i = false
  | 0 => ⟨fun _ i h => absurd h (Nat.not_lt_zero i), fun _ => rfl⟩
  | n + 1 => by
    simp only [exB, Bool.or_eq_false_iff, exB_f (n := n)]
    constructor
    · intro h i hi
      rcases Nat.lt_or_ge i n with q | q
      · exact h.1 i q
      · rw [show i = n by omega]; exact h.2
    · intro h
      exact ⟨fun i hi => h i (by omega), h n (by omega)⟩
theorem exB_t {P : Nat → Bool} {n i : Nat} (h : i < n) (hP : P i = true) : exB P n = true := by
  cases he : exB P n with
  | true => rfl
  | false => rw [exB_f.mp he i h] at hP; cases hP
/-- an early end: S j is the loop's head with j passed and none found -/
theorem zfind {S : Nat → Prop} {P : Nat → Bool} {N : Nat} (hs : ∀ j, j < N → (P j = false → S (j + 1)) → (∀ i, i < j → P i = false) → S j) (hN : (∀ i, i < N → P i = false) → S N) : S 0 := by
  have key : ∀ d j, j + d = N → (∀ i, i < j → P i = false) → S j := by
    intro d
    induction d with
    | zero => intro j hj h; subst hj; exact hN h
    | succ d ih =>
      intro j hj h
      refine hs j (by omega) (fun hp => ih (j + 1) (by omega) (fun i hi => ?_)) h
      rcases Nat.lt_or_ge i j with q | q
      · exact h i q
      · rw [show i = j by omega]; exact hp
  exact key N 0 (Nat.zero_add N) (fun i h => absurd h (Nat.not_lt_zero i))
/-- how many steps from a up to L -/
def cnt (a L : Int32) : Nat := (L.toInt - a.toInt).toNat
theorem bmod32 {z : Int} (h1 : -2147483648 ≤ z) (h2 : z < 2147483648) : z.bmod (2 ^ 32) = z := by
  rw [Int.bmod_def]; split <;> omega
theorem i32_rng (x : Int32) : -2147483648 ≤ x.toInt ∧ x.toInt < 2147483648 := ⟨Int32.minValue_le_toInt x, by have := Int32.toInt_lt x; omega⟩
theorem cnt_lt {a L : Int32} {j : Nat} (h : j ≤ cnt a L) : a + nI j < L ↔ j < cnt a L := by
  unfold cnt at h ⊢
  have ha := i32_rng a
  have hL := i32_rng L
  rcases Nat.eq_zero_or_pos j with h0 | h0
  · subst h0
    rw [nI_0, Int32.add_zero, Int32.lt_iff_toInt_lt]
    omega
  · by_cases hs : j < 2 ^ 31
    · rw [Int32.lt_iff_toInt_lt, Int32.toInt_add, nI_toInt hs, bmod32 (by omega) (by omega)]
      omega
    · have hj : nI j = Int32.ofInt (j : Int) := rfl
      have : (a + nI j).toInt = a.toInt + j := by
        rw [Int32.toInt_add, hj, Int32.toInt_ofInt, Int.add_bmod_bmod, bmod32 (by omega) (by omega)]
      rw [Int32.lt_iff_toInt_lt, this]
      omega
def clN (L : Int32) : Nat := L.toNatClampNeg
theorem clN_lt {L : Int32} {n : Nat} (h : n ≤ clN L) : nI n < L ↔ n < clN L := by
  have h1 : clN L = cnt 0 L := by
    show L.toInt.toNat = (L.toInt - (0 : Int32).toInt).toNat
    rw [show (0 : Int32).toInt = 0 from rfl, Int.sub_zero]
  rw [h1] at h ⊢
  have := cnt_lt h
  rwa [Int32.zero_add] at this
theorem clN_small (L : Int32) : clN L < 2 ^ 31 := by
  have := i32_rng L
  simp only [clN, Int32.toNatClampNeg]
  omega
theorem add_nI (a : Int32) (j : Nat) : a + nI j + 1 = a + nI (j + 1) := by rw [nI_succ, Int32.add_assoc]
def isTr (t : Int32) : Bool := !decide (t < 0) && decide (t < 6)
def isCo (t : Int32) : Bool := !decide (t < 0) && decide (t < 3)
def isMi (t : Int32) : Bool := !decide (t < 0) && decide (t < 30)
def wth (v a b : Int32) : Bool := !decide (v < a) && !decide (b < v)
theorem isTr_in {t : Int32} (h : isTr t = true) : vp_in t 6 := by
  simp only [isTr, Bool.and_eq_true, Bool.not_eq_true', decide_eq_false_iff_not, decide_eq_true_eq] at h
  rw [vp_in_iff]
  have h1 := Int32.not_lt.mp h.1
  rw [Int32.le_iff_toInt_le] at h1
  have h2 := h.2
  rw [Int32.lt_iff_toInt_lt] at h2
  exact ⟨h1, h2⟩
theorem isTr_of {t : Int32} (h1 : ¬ t < 0) (h2 : t < 6) : isTr t = true := by simp [isTr, h1, h2]
theorem isTr_nI {n : Nat} (h : n < 6) : isTr (nI n) = true := by
  have : ∀ n : Fin 6, isTr (nI n.val) = true := by decide
  exact this ⟨n, h⟩
theorem isCo_nI {n : Nat} (h : n < 3) : isCo (nI n) = true := by
  have : ∀ n : Fin 3, isCo (nI n.val) = true := by decide
  exact this ⟨n, h⟩
abbrev ix (t : Int32) : Nat := t.toNatClampNeg
/-- rides at m: of one below six, in a minute of the line -/
def rd (fr to : Nat → Int32) (len t m : Int32) : Bool := isTr t && (!decide (m < 0) && (decide (m < len) && (!decide (fr (ix t) < 0) && (!decide (m < fr (ix t)) && !decide (to (ix t) < m)))))
def ri (fr to se : Nat → Int32) (len t c m : Int32) : Bool := rd fr to len t m && decide (se (ix t) = c)
def tn (tun m : Int32) : Bool := !decide (m < 0) && (decide (m < 30) && !decide (tun &&& ((1 : Int32) <<< (m &&& 31)) = 0))
def cntB (P : Nat → Bool) (N : Nat) : Int32 := itr (fun n c => if P n then c + 1 else c) N 0
def setB (P : Nat → Bool) (N : Nat) : Int32 := itr (fun n c => if P n then c ||| ((1 : Int32) <<< (nI n &&& 31)) else c) N 0
/-! more rules: what is known of a branch, what is forgotten of the locals -/
theorem zw_forget {g : Gt} {pc : Nat} {ls ls1 : List (Option Value)} {st : List Value} {σ : St} (hl : ls.length = ls1.length) (h : ∀ (k : Nat) (v : Value), ls1[k]? = some (some v) → ls[k]? = some (some v)) (k : ZW g pc ls1 st σ) : ZW g pc ls st σ := by
  obtain ⟨⟨p, l, e, R, s, m, args, below, meth, c⟩, D, ad, cA, A, ⟨kc, ks⟩, Q⟩ := g
  intro H locs lsa hP hD hS hn hh
  refine k H locs lsa hP hD hS (hl ▸ hn) (lv_mono hh (fun q hq => ?_))
  obtain ⟨j, v, h1, h2⟩ := lvl_mem hq
  rw [h2]
  exact lvl_in (h j v h1)
theorem zw_fgG {g : Gt} {pc : Nat} {ls : List (Option Value)} {st : List Value} {σ : St} (i : Nat) (k : ZW g pc (ls.set i none) st σ) : ZW g pc ls st σ := by
  refine zw_forget (ls1 := ls.set i none) (by simp) (fun j v h => ?_) k
  rw [List.getElem?_set] at h
  split at h
  · split at h <;> cases h
  · exact h
theorem zw_fg_0 {g : Gt} {pc : Nat} {b : Option Value} {r : List (Option Value)} {st : List Value} {σ : St} (k : ZW g pc (none :: r) st σ) : ZW g pc (b :: r) st σ := zw_fgG (ls := b :: r) 0 k
theorem zw_fg_1 {g : Gt} {pc : Nat} {a0 : Option Value} {b : Option Value} {r : List (Option Value)} {st : List Value} {σ : St} (k : ZW g pc (a0 :: none :: r) st σ) : ZW g pc (a0 :: b :: r) st σ := zw_fgG (ls := a0 :: b :: r) 1 k
theorem zw_fg_2 {g : Gt} {pc : Nat} {a0 a1 : Option Value} {b : Option Value} {r : List (Option Value)} {st : List Value} {σ : St} (k : ZW g pc (a0 :: a1 :: none :: r) st σ) : ZW g pc (a0 :: a1 :: b :: r) st σ := zw_fgG (ls := a0 :: a1 :: b :: r) 2 k
theorem zw_fg_3 {g : Gt} {pc : Nat} {a0 a1 a2 : Option Value} {b : Option Value} {r : List (Option Value)} {st : List Value} {σ : St} (k : ZW g pc (a0 :: a1 :: a2 :: none :: r) st σ) : ZW g pc (a0 :: a1 :: a2 :: b :: r) st σ := zw_fgG (ls := a0 :: a1 :: a2 :: b :: r) 3 k
theorem zw_fg_4 {g : Gt} {pc : Nat} {a0 a1 a2 a3 : Option Value} {b : Option Value} {r : List (Option Value)} {st : List Value} {σ : St} (k : ZW g pc (a0 :: a1 :: a2 :: a3 :: none :: r) st σ) : ZW g pc (a0 :: a1 :: a2 :: a3 :: b :: r) st σ := zw_fgG (ls := a0 :: a1 :: a2 :: a3 :: b :: r) 4 k
theorem zw_fg_5 {g : Gt} {pc : Nat} {a0 a1 a2 a3 a4 : Option Value} {b : Option Value} {r : List (Option Value)} {st : List Value} {σ : St} (k : ZW g pc (a0 :: a1 :: a2 :: a3 :: a4 :: none :: r) st σ) : ZW g pc (a0 :: a1 :: a2 :: a3 :: a4 :: b :: r) st σ := zw_fgG (ls := a0 :: a1 :: a2 :: a3 :: a4 :: b :: r) 5 k
theorem zw_fg_6 {g : Gt} {pc : Nat} {a0 a1 a2 a3 a4 a5 : Option Value} {b : Option Value} {r : List (Option Value)} {st : List Value} {σ : St} (k : ZW g pc (a0 :: a1 :: a2 :: a3 :: a4 :: a5 :: none :: r) st σ) : ZW g pc (a0 :: a1 :: a2 :: a3 :: a4 :: a5 :: b :: r) st σ := zw_fgG (ls := a0 :: a1 :: a2 :: a3 :: a4 :: a5 :: b :: r) 6 k
theorem zw_fg_7 {g : Gt} {pc : Nat} {a0 a1 a2 a3 a4 a5 a6 : Option Value} {b : Option Value} {r : List (Option Value)} {st : List Value} {σ : St} (k : ZW g pc (a0 :: a1 :: a2 :: a3 :: a4 :: a5 :: a6 :: none :: r) st σ) : ZW g pc (a0 :: a1 :: a2 :: a3 :: a4 :: a5 :: a6 :: b :: r) st σ := zw_fgG (ls := a0 :: a1 :: a2 :: a3 :: a4 :: a5 :: a6 :: b :: r) 7 k
theorem zw_fg_8 {g : Gt} {pc : Nat} {a0 a1 a2 a3 a4 a5 a6 a7 : Option Value} {b : Option Value} {r : List (Option Value)} {st : List Value} {σ : St} (k : ZW g pc (a0 :: a1 :: a2 :: a3 :: a4 :: a5 :: a6 :: a7 :: none :: r) st σ) : ZW g pc (a0 :: a1 :: a2 :: a3 :: a4 :: a5 :: a6 :: a7 :: b :: r) st σ := zw_fgG (ls := a0 :: a1 :: a2 :: a3 :: a4 :: a5 :: a6 :: a7 :: b :: r) 8 k
theorem zw_fg_9 {g : Gt} {pc : Nat} {a0 a1 a2 a3 a4 a5 a6 a7 a8 : Option Value} {b : Option Value} {r : List (Option Value)} {st : List Value} {σ : St} (k : ZW g pc (a0 :: a1 :: a2 :: a3 :: a4 :: a5 :: a6 :: a7 :: a8 :: none :: r) st σ) : ZW g pc (a0 :: a1 :: a2 :: a3 :: a4 :: a5 :: a6 :: a7 :: a8 :: b :: r) st σ := zw_fgG (ls := a0 :: a1 :: a2 :: a3 :: a4 :: a5 :: a6 :: a7 :: a8 :: b :: r) 9 k
theorem zw_fg_10 {g : Gt} {pc : Nat} {a0 a1 a2 a3 a4 a5 a6 a7 a8 a9 : Option Value} {b : Option Value} {r : List (Option Value)} {st : List Value} {σ : St} (k : ZW g pc (a0 :: a1 :: a2 :: a3 :: a4 :: a5 :: a6 :: a7 :: a8 :: a9 :: none :: r) st σ) : ZW g pc (a0 :: a1 :: a2 :: a3 :: a4 :: a5 :: a6 :: a7 :: a8 :: a9 :: b :: r) st σ := zw_fgG (ls := a0 :: a1 :: a2 :: a3 :: a4 :: a5 :: a6 :: a7 :: a8 :: a9 :: b :: r) 10 k
theorem zw_fg_11 {g : Gt} {pc : Nat} {a0 a1 a2 a3 a4 a5 a6 a7 a8 a9 a10 : Option Value} {b : Option Value} {r : List (Option Value)} {st : List Value} {σ : St} (k : ZW g pc (a0 :: a1 :: a2 :: a3 :: a4 :: a5 :: a6 :: a7 :: a8 :: a9 :: a10 :: none :: r) st σ) : ZW g pc (a0 :: a1 :: a2 :: a3 :: a4 :: a5 :: a6 :: a7 :: a8 :: a9 :: a10 :: b :: r) st σ := zw_fgG (ls := a0 :: a1 :: a2 :: a3 :: a4 :: a5 :: a6 :: a7 :: a8 :: a9 :: a10 :: b :: r) 11 k
theorem zw_fg_12 {g : Gt} {pc : Nat} {a0 a1 a2 a3 a4 a5 a6 a7 a8 a9 a10 a11 : Option Value} {b : Option Value} {r : List (Option Value)} {st : List Value} {σ : St} (k : ZW g pc (a0 :: a1 :: a2 :: a3 :: a4 :: a5 :: a6 :: a7 :: a8 :: a9 :: a10 :: a11 :: none :: r) st σ) : ZW g pc (a0 :: a1 :: a2 :: a3 :: a4 :: a5 :: a6 :: a7 :: a8 :: a9 :: a10 :: a11 :: b :: r) st σ := zw_fgG (ls := a0 :: a1 :: a2 :: a3 :: a4 :: a5 :: a6 :: a7 :: a8 :: a9 :: a10 :: a11 :: b :: r) 12 k
theorem zw_fg_13 {g : Gt} {pc : Nat} {a0 a1 a2 a3 a4 a5 a6 a7 a8 a9 a10 a11 a12 : Option Value} {b : Option Value} {r : List (Option Value)} {st : List Value} {σ : St} (k : ZW g pc (a0 :: a1 :: a2 :: a3 :: a4 :: a5 :: a6 :: a7 :: a8 :: a9 :: a10 :: a11 :: a12 :: none :: r) st σ) : ZW g pc (a0 :: a1 :: a2 :: a3 :: a4 :: a5 :: a6 :: a7 :: a8 :: a9 :: a10 :: a11 :: a12 :: b :: r) st σ := zw_fgG (ls := a0 :: a1 :: a2 :: a3 :: a4 :: a5 :: a6 :: a7 :: a8 :: a9 :: a10 :: a11 :: a12 :: b :: r) 13 k
theorem zw_icmpeq_t {g : Gt} {M : Mt} {pc pc1 tgt : Nat} {off : Int} {ls : List (Option Value)} {st : List Value} {σ : St} {x y : Int32} (X : CX g M) (d : Dc M pc pc1 (.if_icmp .eq off) 3) (ht : (pc : Int) + off = (tgt : Int)) (h : x = y) (k : ZW g tgt ls st σ) : ZW g pc ls (.int y :: .int x :: st) σ := zw_icmpeq X d ht (fun _ => k) (fun c => absurd h c)
theorem zw_icmpeq_f {g : Gt} {M : Mt} {pc pc1 tgt : Nat} {off : Int} {ls : List (Option Value)} {st : List Value} {σ : St} {x y : Int32} (X : CX g M) (d : Dc M pc pc1 (.if_icmp .eq off) 3) (ht : (pc : Int) + off = (tgt : Int)) (h : ¬ x = y) (k : ZW g pc1 ls st σ) : ZW g pc ls (.int y :: .int x :: st) σ := zw_icmpeq X d ht (fun c => absurd c h) (fun _ => k)
theorem zw_ifeq_t {g : Gt} {M : Mt} {pc pc1 tgt : Nat} {off : Int} {ls : List (Option Value)} {st : List Value} {σ : St} {x : Int32} (X : CX g M) (d : Dc M pc pc1 (.ifCond .eq off) 3) (ht : (pc : Int) + off = (tgt : Int)) (h : x = 0) (k : ZW g tgt ls st σ) : ZW g pc ls (.int x :: st) σ := zw_ifeq X d ht (fun _ => k) (fun c => absurd h c)
theorem zw_ifeq_f {g : Gt} {M : Mt} {pc pc1 tgt : Nat} {off : Int} {ls : List (Option Value)} {st : List Value} {σ : St} {x : Int32} (X : CX g M) (d : Dc M pc pc1 (.ifCond .eq off) 3) (ht : (pc : Int) + off = (tgt : Int)) (h : ¬ x = 0) (k : ZW g pc1 ls st σ) : ZW g pc ls (.int x :: st) σ := zw_ifeq X d ht (fun c => absurd c h) (fun _ => k)
theorem zw_icmpne_t {g : Gt} {M : Mt} {pc pc1 tgt : Nat} {off : Int} {ls : List (Option Value)} {st : List Value} {σ : St} {x y : Int32} (X : CX g M) (d : Dc M pc pc1 (.if_icmp .ne off) 3) (ht : (pc : Int) + off = (tgt : Int)) (h : ¬ x = y) (k : ZW g tgt ls st σ) : ZW g pc ls (.int y :: .int x :: st) σ := zw_icmpne X d ht (fun _ => k) (fun c => absurd c h)
theorem zw_icmpne_f {g : Gt} {M : Mt} {pc pc1 tgt : Nat} {off : Int} {ls : List (Option Value)} {st : List Value} {σ : St} {x y : Int32} (X : CX g M) (d : Dc M pc pc1 (.if_icmp .ne off) 3) (ht : (pc : Int) + off = (tgt : Int)) (h : x = y) (k : ZW g pc1 ls st σ) : ZW g pc ls (.int y :: .int x :: st) σ := zw_icmpne X d ht (fun c => absurd h c) (fun _ => k)
theorem zw_ifne_t {g : Gt} {M : Mt} {pc pc1 tgt : Nat} {off : Int} {ls : List (Option Value)} {st : List Value} {σ : St} {x : Int32} (X : CX g M) (d : Dc M pc pc1 (.ifCond .ne off) 3) (ht : (pc : Int) + off = (tgt : Int)) (h : ¬ x = 0) (k : ZW g tgt ls st σ) : ZW g pc ls (.int x :: st) σ := zw_ifne X d ht (fun _ => k) (fun c => absurd c h)
theorem zw_ifne_f {g : Gt} {M : Mt} {pc pc1 tgt : Nat} {off : Int} {ls : List (Option Value)} {st : List Value} {σ : St} {x : Int32} (X : CX g M) (d : Dc M pc pc1 (.ifCond .ne off) 3) (ht : (pc : Int) + off = (tgt : Int)) (h : x = 0) (k : ZW g pc1 ls st σ) : ZW g pc ls (.int x :: st) σ := zw_ifne X d ht (fun c => absurd h c) (fun _ => k)
theorem zw_icmplt_t {g : Gt} {M : Mt} {pc pc1 tgt : Nat} {off : Int} {ls : List (Option Value)} {st : List Value} {σ : St} {x y : Int32} (X : CX g M) (d : Dc M pc pc1 (.if_icmp .lt off) 3) (ht : (pc : Int) + off = (tgt : Int)) (h : x < y) (k : ZW g tgt ls st σ) : ZW g pc ls (.int y :: .int x :: st) σ := zw_icmplt X d ht (fun _ => k) (fun c => absurd h c)
theorem zw_icmplt_f {g : Gt} {M : Mt} {pc pc1 tgt : Nat} {off : Int} {ls : List (Option Value)} {st : List Value} {σ : St} {x y : Int32} (X : CX g M) (d : Dc M pc pc1 (.if_icmp .lt off) 3) (ht : (pc : Int) + off = (tgt : Int)) (h : ¬ x < y) (k : ZW g pc1 ls st σ) : ZW g pc ls (.int y :: .int x :: st) σ := zw_icmplt X d ht (fun c => absurd c h) (fun _ => k)
theorem zw_iflt_t {g : Gt} {M : Mt} {pc pc1 tgt : Nat} {off : Int} {ls : List (Option Value)} {st : List Value} {σ : St} {x : Int32} (X : CX g M) (d : Dc M pc pc1 (.ifCond .lt off) 3) (ht : (pc : Int) + off = (tgt : Int)) (h : x < 0) (k : ZW g tgt ls st σ) : ZW g pc ls (.int x :: st) σ := zw_iflt X d ht (fun _ => k) (fun c => absurd h c)
theorem zw_iflt_f {g : Gt} {M : Mt} {pc pc1 tgt : Nat} {off : Int} {ls : List (Option Value)} {st : List Value} {σ : St} {x : Int32} (X : CX g M) (d : Dc M pc pc1 (.ifCond .lt off) 3) (ht : (pc : Int) + off = (tgt : Int)) (h : ¬ x < 0) (k : ZW g pc1 ls st σ) : ZW g pc ls (.int x :: st) σ := zw_iflt X d ht (fun c => absurd c h) (fun _ => k)
theorem zw_icmpgt_t {g : Gt} {M : Mt} {pc pc1 tgt : Nat} {off : Int} {ls : List (Option Value)} {st : List Value} {σ : St} {x y : Int32} (X : CX g M) (d : Dc M pc pc1 (.if_icmp .gt off) 3) (ht : (pc : Int) + off = (tgt : Int)) (h : y < x) (k : ZW g tgt ls st σ) : ZW g pc ls (.int y :: .int x :: st) σ := zw_icmpgt X d ht (fun _ => k) (fun c => absurd h c)
theorem zw_icmpgt_f {g : Gt} {M : Mt} {pc pc1 tgt : Nat} {off : Int} {ls : List (Option Value)} {st : List Value} {σ : St} {x y : Int32} (X : CX g M) (d : Dc M pc pc1 (.if_icmp .gt off) 3) (ht : (pc : Int) + off = (tgt : Int)) (h : ¬ y < x) (k : ZW g pc1 ls st σ) : ZW g pc ls (.int y :: .int x :: st) σ := zw_icmpgt X d ht (fun c => absurd c h) (fun _ => k)
theorem zw_ifgt_t {g : Gt} {M : Mt} {pc pc1 tgt : Nat} {off : Int} {ls : List (Option Value)} {st : List Value} {σ : St} {x : Int32} (X : CX g M) (d : Dc M pc pc1 (.ifCond .gt off) 3) (ht : (pc : Int) + off = (tgt : Int)) (h : 0 < x) (k : ZW g tgt ls st σ) : ZW g pc ls (.int x :: st) σ := zw_ifgt X d ht (fun _ => k) (fun c => absurd h c)
theorem zw_ifgt_f {g : Gt} {M : Mt} {pc pc1 tgt : Nat} {off : Int} {ls : List (Option Value)} {st : List Value} {σ : St} {x : Int32} (X : CX g M) (d : Dc M pc pc1 (.ifCond .gt off) 3) (ht : (pc : Int) + off = (tgt : Int)) (h : ¬ 0 < x) (k : ZW g pc1 ls st σ) : ZW g pc ls (.int x :: st) σ := zw_ifgt X d ht (fun c => absurd c h) (fun _ => k)
theorem zw_icmpge_t {g : Gt} {M : Mt} {pc pc1 tgt : Nat} {off : Int} {ls : List (Option Value)} {st : List Value} {σ : St} {x y : Int32} (X : CX g M) (d : Dc M pc pc1 (.if_icmp .ge off) 3) (ht : (pc : Int) + off = (tgt : Int)) (h : ¬ x < y) (k : ZW g tgt ls st σ) : ZW g pc ls (.int y :: .int x :: st) σ := zw_icmpge X d ht (fun _ => k) (fun c => absurd c h)
theorem zw_icmpge_f {g : Gt} {M : Mt} {pc pc1 tgt : Nat} {off : Int} {ls : List (Option Value)} {st : List Value} {σ : St} {x y : Int32} (X : CX g M) (d : Dc M pc pc1 (.if_icmp .ge off) 3) (ht : (pc : Int) + off = (tgt : Int)) (h : x < y) (k : ZW g pc1 ls st σ) : ZW g pc ls (.int y :: .int x :: st) σ := zw_icmpge X d ht (fun c => absurd h c) (fun _ => k)
theorem zw_ifge_t {g : Gt} {M : Mt} {pc pc1 tgt : Nat} {off : Int} {ls : List (Option Value)} {st : List Value} {σ : St} {x : Int32} (X : CX g M) (d : Dc M pc pc1 (.ifCond .ge off) 3) (ht : (pc : Int) + off = (tgt : Int)) (h : ¬ x < 0) (k : ZW g tgt ls st σ) : ZW g pc ls (.int x :: st) σ := zw_ifge X d ht (fun _ => k) (fun c => absurd c h)
theorem zw_ifge_f {g : Gt} {M : Mt} {pc pc1 tgt : Nat} {off : Int} {ls : List (Option Value)} {st : List Value} {σ : St} {x : Int32} (X : CX g M) (d : Dc M pc pc1 (.ifCond .ge off) 3) (ht : (pc : Int) + off = (tgt : Int)) (h : x < 0) (k : ZW g pc1 ls st σ) : ZW g pc ls (.int x :: st) σ := zw_ifge X d ht (fun c => absurd h c) (fun _ => k)
theorem zw_icmple_t {g : Gt} {M : Mt} {pc pc1 tgt : Nat} {off : Int} {ls : List (Option Value)} {st : List Value} {σ : St} {x y : Int32} (X : CX g M) (d : Dc M pc pc1 (.if_icmp .le off) 3) (ht : (pc : Int) + off = (tgt : Int)) (h : ¬ y < x) (k : ZW g tgt ls st σ) : ZW g pc ls (.int y :: .int x :: st) σ := zw_icmple X d ht (fun _ => k) (fun c => absurd c h)
theorem zw_icmple_f {g : Gt} {M : Mt} {pc pc1 tgt : Nat} {off : Int} {ls : List (Option Value)} {st : List Value} {σ : St} {x y : Int32} (X : CX g M) (d : Dc M pc pc1 (.if_icmp .le off) 3) (ht : (pc : Int) + off = (tgt : Int)) (h : y < x) (k : ZW g pc1 ls st σ) : ZW g pc ls (.int y :: .int x :: st) σ := zw_icmple X d ht (fun c => absurd h c) (fun _ => k)
theorem zw_ifle_t {g : Gt} {M : Mt} {pc pc1 tgt : Nat} {off : Int} {ls : List (Option Value)} {st : List Value} {σ : St} {x : Int32} (X : CX g M) (d : Dc M pc pc1 (.ifCond .le off) 3) (ht : (pc : Int) + off = (tgt : Int)) (h : ¬ 0 < x) (k : ZW g tgt ls st σ) : ZW g pc ls (.int x :: st) σ := zw_ifle X d ht (fun _ => k) (fun c => absurd c h)
theorem zw_ifle_f {g : Gt} {M : Mt} {pc pc1 tgt : Nat} {off : Int} {ls : List (Option Value)} {st : List Value} {σ : St} {x : Int32} (X : CX g M) (d : Dc M pc pc1 (.ifCond .le off) 3) (ht : (pc : Int) + off = (tgt : Int)) (h : 0 < x) (k : ZW g pc1 ls st σ) : ZW g pc ls (.int x :: st) σ := zw_ifle X d ht (fun c => absurd h c) (fun _ => k)
/-- a train of the world at place k -/
def isT (k : Nat) : Prop := sh k = .inl (5, [none, none, none, none, none, none, some (k + 1), some (k + 2), some (k + 3), some (k + 4), some (k + 5)]) ∧ sh (k + 1) = .inr (6, false) ∧ sh (k + 2) = .inr (6, false) ∧ sh (k + 3) = .inr (6, false) ∧ sh (k + 4) = .inr (6, false) ∧ sh (k + 5) = .inr (6, false)
theorem isT_1 : isT 1 := ⟨rfl, rfl, rfl, rfl, rfl, rfl⟩
theorem isT_7 : isT 7 := ⟨rfl, rfl, rfl, rfl, rfl, rfl⟩
theorem isT_23 : isT 23 := ⟨rfl, rfl, rfl, rfl, rfl, rfl⟩
theorem isT_33 : isT 33 := ⟨rfl, rfl, rfl, rfl, rfl, rfl⟩
theorem bI_0 {b : Bool} : bI b = 0 ↔ b = false := by cases b <;> decide
theorem bI_1 {b : Bool} : bI b = 1 ↔ b = true := by cases b <;> decide
theorem bI_0' {b : Bool} : 0 = bI b ↔ b = false := by cases b <;> decide
theorem bI_1' {b : Bool} : 1 = bI b ↔ b = true := by cases b <;> decide
theorem bI_inj {a b : Bool} : bI a = bI b ↔ a = b := by cases a <;> cases b <;> decide
theorem ik_m1 : Int32.ofInt (-1) = (-1 : Int32) := by decide
theorem ik_0 : Int32.ofInt (0) = (0 : Int32) := by decide
theorem ik_1 : Int32.ofInt (1) = (1 : Int32) := by decide
theorem ik_2 : Int32.ofInt (2) = (2 : Int32) := by decide
theorem ik_3 : Int32.ofInt (3) = (3 : Int32) := by decide
theorem ik_4 : Int32.ofInt (4) = (4 : Int32) := by decide
theorem ik_5 : Int32.ofInt (5) = (5 : Int32) := by decide
theorem bk_m6 : (Int8.ofInt (-6)).toInt32 = (-6 : Int32) := by decide
theorem bk_m5 : (Int8.ofInt (-5)).toInt32 = (-5 : Int32) := by decide
theorem bk_m4 : (Int8.ofInt (-4)).toInt32 = (-4 : Int32) := by decide
theorem bk_m3 : (Int8.ofInt (-3)).toInt32 = (-3 : Int32) := by decide
theorem bk_m2 : (Int8.ofInt (-2)).toInt32 = (-2 : Int32) := by decide
theorem bk_6 : (Int8.ofInt (6)).toInt32 = (6 : Int32) := by decide
theorem bk_7 : (Int8.ofInt (7)).toInt32 = (7 : Int32) := by decide
theorem bk_8 : (Int8.ofInt (8)).toInt32 = (8 : Int32) := by decide
theorem bk_10 : (Int8.ofInt (10)).toInt32 = (10 : Int32) := by decide
theorem bk_12 : (Int8.ofInt (12)).toInt32 = (12 : Int32) := by decide
theorem bk_16 : (Int8.ofInt (16)).toInt32 = (16 : Int32) := by decide
theorem bk_18 : (Int8.ofInt (18)).toInt32 = (18 : Int32) := by decide
theorem bk_19 : (Int8.ofInt (19)).toInt32 = (19 : Int32) := by decide
theorem bk_20 : (Int8.ofInt (20)).toInt32 = (20 : Int32) := by decide
theorem bk_21 : (Int8.ofInt (21)).toInt32 = (21 : Int32) := by decide
theorem bk_24 : (Int8.ofInt (24)).toInt32 = (24 : Int32) := by decide
theorem bk_29 : (Int8.ofInt (29)).toInt32 = (29 : Int32) := by decide
theorem bk_30 : (Int8.ofInt (30)).toInt32 = (30 : Int32) := by decide
theorem bk_31 : (Int8.ofInt (31)).toInt32 = (31 : Int32) := by decide
theorem bk_33 : (Int8.ofInt (33)).toInt32 = (33 : Int32) := by decide
theorem bk_46 : (Int8.ofInt (46)).toInt32 = (46 : Int32) := by decide
theorem bk_48 : (Int8.ofInt (48)).toInt32 = (48 : Int32) := by decide
theorem bk_50 : (Int8.ofInt (50)).toInt32 = (50 : Int32) := by decide
theorem bk_51 : (Int8.ofInt (51)).toInt32 = (51 : Int32) := by decide
theorem bk_52 : (Int8.ofInt (52)).toInt32 = (52 : Int32) := by decide
theorem bk_53 : (Int8.ofInt (53)).toInt32 = (53 : Int32) := by decide
theorem bk_54 : (Int8.ofInt (54)).toInt32 = (54 : Int32) := by decide
theorem bk_55 : (Int8.ofInt (55)).toInt32 = (55 : Int32) := by decide
theorem bk_57 : (Int8.ofInt (57)).toInt32 = (57 : Int32) := by decide
theorem bk_60 : (Int8.ofInt (60)).toInt32 = (60 : Int32) := by decide
theorem bk_63 : (Int8.ofInt (63)).toInt32 = (63 : Int32) := by decide
theorem bk_64 : (Int8.ofInt (64)).toInt32 = (64 : Int32) := by decide
theorem bk_65 : (Int8.ofInt (65)).toInt32 = (65 : Int32) := by decide
theorem bk_70 : (Int8.ofInt (70)).toInt32 = (70 : Int32) := by decide
theorem bk_74 : (Int8.ofInt (74)).toInt32 = (74 : Int32) := by decide
theorem bk_75 : (Int8.ofInt (75)).toInt32 = (75 : Int32) := by decide
theorem bk_99 : (Int8.ofInt (99)).toInt32 = (99 : Int32) := by decide
theorem bk_100 : (Int8.ofInt (100)).toInt32 = (100 : Int32) := by decide
theorem bk_104 : (Int8.ofInt (104)).toInt32 = (104 : Int32) := by decide
theorem bk_115 : (Int8.ofInt (115)).toInt32 = (115 : Int32) := by decide
theorem bk_126 : (Int8.ofInt (126)).toInt32 = (126 : Int32) := by decide
theorem sk_140 : (Int16.ofInt (140)).toInt32 = (140 : Int32) := by decide
theorem sk_999 : (Int16.ofInt (999)).toInt32 = (999 : Int32) := by decide
theorem sk_4096 : (Int16.ofInt (4096)).toInt32 = (4096 : Int32) := by decide
theorem sk_9999 : (Int16.ofInt (9999)).toInt32 = (9999 : Int32) := by decide
theorem sk_32767 : (Int16.ofInt (32767)).toInt32 = (32767 : Int32) := by decide
theorem lm_X5_79 : Cond.methodLink "SilenceMinute$Train" 79 Lib.Math.min.name ∈ lw_gd := gd2 110 rfl rfl
theorem lm_X7_266 : Cond.methodLink "SilenceMinute" 266 Lib.Math.max.name ∈ lw_gd := gd3 52 rfl rfl
theorem lm_X2_26 : Cond.methodLink "SilenceMinute$Sale" 26 Lib.Math.max.name ∈ lw_gd := gd3 73 rfl rfl
theorem ls_max : Cond.static Lib.Math.max.name ∈ lw_gd := gd3 53 rfl rfl
theorem lc_max : Cond.code Lib.Math.max.name Lib.Math.max.code 2 (some .int) ∈ lw_gd := gd3 54 rfl rfl
theorem ls_min : Cond.static Lib.Math.min.name ∈ lw_gd := gd2 111 rfl rfl
theorem lc_min : Cond.code Lib.Math.min.name Lib.Math.min.code 2 (some .int) ∈ lw_gd := gd2 112 rfl rfl
theorem li_math : Cond.initialized "java/lang/Math" ∈ lw_gd := gd1 10 rfl rfl
theorem ft_0_0 : fTy 0 0 .boolean := ⟨RX0, TX0, 3, rfl, rfl, by decide +kernel⟩
theorem ft_1_1 : fTy 1 1 .int := ⟨RX1, TX1, 2, rfl, rfl, by decide +kernel⟩
theorem ft_2_0 : fTy 2 0 .int := ⟨RX2, TX2, 3, rfl, rfl, by decide +kernel⟩
theorem ft_2_1 : fTy 2 1 .int := ⟨RX2, TX2, 3, rfl, rfl, by decide +kernel⟩
theorem ft_2_2 : fTy 2 2 .int := ⟨RX2, TX2, 3, rfl, rfl, by decide +kernel⟩
theorem ft_3_0 : fTy 3 0 .int := ⟨RX3, TX3, 4, rfl, rfl, by decide +kernel⟩
theorem ft_3_1 : fTy 3 1 .int := ⟨RX3, TX3, 4, rfl, rfl, by decide +kernel⟩
theorem ft_3_2 : fTy 3 2 .int := ⟨RX3, TX3, 4, rfl, rfl, by decide +kernel⟩
theorem ft_4_2 : fTy 4 2 .int := ⟨RX4, TX4, 3, rfl, rfl, by decide +kernel⟩
theorem ft_5_0 : fTy 5 0 .int := ⟨RX5, TX5, 11, rfl, rfl, by decide +kernel⟩
theorem ft_5_1 : fTy 5 1 .int := ⟨RX5, TX5, 11, rfl, rfl, by decide +kernel⟩
theorem ft_5_2 : fTy 5 2 .int := ⟨RX5, TX5, 11, rfl, rfl, by decide +kernel⟩
theorem ft_5_3 : fTy 5 3 .int := ⟨RX5, TX5, 11, rfl, rfl, by decide +kernel⟩
theorem ft_5_4 : fTy 5 4 .int := ⟨RX5, TX5, 11, rfl, rfl, by decide +kernel⟩
theorem ft_5_5 : fTy 5 5 .int := ⟨RX5, TX5, 11, rfl, rfl, by decide +kernel⟩
theorem ft_6_0 : fTy 6 0 .int := ⟨RX6, TX6, 2, rfl, rfl, by decide +kernel⟩
theorem ft_6_1 : fTy 6 1 .int := ⟨RX6, TX6, 2, rfl, rfl, by decide +kernel⟩
theorem ft_8_0 : fTy 8 0 .int := ⟨RX8, TX8, 27, rfl, rfl, by decide +kernel⟩
theorem ft_8_1 : fTy 8 1 .int := ⟨RX8, TX8, 27, rfl, rfl, by decide +kernel⟩
theorem ft_8_7 : fTy 8 7 .int := ⟨RX8, TX8, 27, rfl, rfl, by decide +kernel⟩
theorem ft_8_8 : fTy 8 8 .int := ⟨RX8, TX8, 27, rfl, rfl, by decide +kernel⟩
theorem ft_8_9 : fTy 8 9 .int := ⟨RX8, TX8, 27, rfl, rfl, by decide +kernel⟩
theorem ft_8_10 : fTy 8 10 .int := ⟨RX8, TX8, 27, rfl, rfl, by decide +kernel⟩
theorem ft_8_12 : fTy 8 12 .int := ⟨RX8, TX8, 27, rfl, rfl, by decide +kernel⟩
theorem ft_8_16 : fTy 8 16 .int := ⟨RX8, TX8, 27, rfl, rfl, by decide +kernel⟩
theorem ft_8_17 : fTy 8 17 .int := ⟨RX8, TX8, 27, rfl, rfl, by decide +kernel⟩
theorem ft_8_18 : fTy 8 18 .int := ⟨RX8, TX8, 27, rfl, rfl, by decide +kernel⟩
theorem ft_8_21 : fTy 8 21 .int := ⟨RX8, TX8, 27, rfl, rfl, by decide +kernel⟩
theorem ft_8_22 : fTy 8 22 .int := ⟨RX8, TX8, 27, rfl, rfl, by decide +kernel⟩
theorem ft_8_23 : fTy 8 23 .int := ⟨RX8, TX8, 27, rfl, rfl, by decide +kernel⟩
theorem rm_X0_keep_X5_copyFrom : rmOk MX0_keep MX5_copyFrom := ⟨Nat.le_of_ble_eq_true rfl, Nat.le_of_ble_eq_true rfl⟩
theorem rm_X0_keep_X4_copyFrom : rmOk MX0_keep MX4_copyFrom := ⟨Nat.le_of_ble_eq_true rfl, Nat.le_of_ble_eq_true rfl⟩
theorem rm_X0_bringBack_X5_copyFrom : rmOk MX0_bringBack MX5_copyFrom := ⟨Nat.le_of_ble_eq_true rfl, Nat.le_of_ble_eq_true rfl⟩
theorem rm_X0_bringBack_X4_copyFrom : rmOk MX0_bringBack MX4_copyFrom := ⟨Nat.le_of_ble_eq_true rfl, Nat.le_of_ble_eq_true rfl⟩
theorem rm_X1_isDigitAt_X1_signAt : rmOk MX1_isDigitAt MX1_signAt := ⟨Nat.le_of_ble_eq_true rfl, Nat.le_of_ble_eq_true rfl⟩
theorem rm_X1_isDigitAt_X7_isWithin : rmOk MX1_isDigitAt MX7_isWithin := ⟨Nat.le_of_ble_eq_true rfl, Nat.le_of_ble_eq_true rfl⟩
theorem rm_X1_faultPlace_X1_follow : rmOk MX1_faultPlace MX1_follow := ⟨Nat.le_of_ble_eq_true rfl, Nat.le_of_ble_eq_true rfl⟩
theorem rm_X1_follow_X1_signAt : rmOk MX1_follow MX1_signAt := ⟨Nat.le_of_ble_eq_true rfl, Nat.le_of_ble_eq_true rfl⟩
theorem rm_X1_follow_X7_isWithin : rmOk MX1_follow MX7_isWithin := ⟨Nat.le_of_ble_eq_true rfl, Nat.le_of_ble_eq_true rfl⟩
theorem rm_X1_follow_X1_isDigitAt : rmOk MX1_follow MX1_isDigitAt := ⟨Nat.le_of_ble_eq_true rfl, Nat.le_of_ble_eq_true rfl⟩
theorem rm_X1_actLength_X1_signAt : rmOk MX1_actLength MX1_signAt := ⟨Nat.le_of_ble_eq_true rfl, Nat.le_of_ble_eq_true rfl⟩
theorem rm_X1_actLength_X1_isDigitAt : rmOk MX1_actLength MX1_isDigitAt := ⟨Nat.le_of_ble_eq_true rfl, Nat.le_of_ble_eq_true rfl⟩
theorem rm_X2_settle_X2_leaveOff : rmOk MX2_settle MX2_leaveOff := ⟨Nat.le_of_ble_eq_true rfl, Nat.le_of_ble_eq_true rfl⟩
theorem rm_X2_settle_X2_moverBehind : rmOk MX2_settle MX2_moverBehind := ⟨Nat.le_of_ble_eq_true rfl, Nat.le_of_ble_eq_true rfl⟩
theorem rm_X2_settle_X2_valueFor : rmOk MX2_settle MX2_valueFor := ⟨Nat.le_of_ble_eq_true rfl, Nat.le_of_ble_eq_true rfl⟩
theorem rm_X2_settle_X2_wordBefore : rmOk MX2_settle MX2_wordBefore := ⟨Nat.le_of_ble_eq_true rfl, Nat.le_of_ble_eq_true rfl⟩
theorem rm_X2_leaveOff_X2_moverBehind : rmOk MX2_leaveOff MX2_moverBehind := ⟨Nat.le_of_ble_eq_true rfl, Nat.le_of_ble_eq_true rfl⟩
theorem rm_X2_leaveOff_X2_wordBefore : rmOk MX2_leaveOff MX2_wordBefore := ⟨Nat.le_of_ble_eq_true rfl, Nat.le_of_ble_eq_true rfl⟩
theorem rm_X3_countWays_X5_ridersOfLine : rmOk MX3_countWays MX5_ridersOfLine := ⟨Nat.le_of_ble_eq_true rfl, Nat.le_of_ble_eq_true rfl⟩
theorem rm_X3_countWays_X3_meetableTwos : rmOk MX3_countWays MX3_meetableTwos := ⟨Nat.le_of_ble_eq_true rfl, Nat.le_of_ble_eq_true rfl⟩
theorem rm_X3_countWays_X3_waysInAll : rmOk MX3_countWays MX3_waysInAll := ⟨Nat.le_of_ble_eq_true rfl, Nat.le_of_ble_eq_true rfl⟩
theorem rm_X3_countWays_X3_spread : rmOk MX3_countWays MX3_spread := ⟨Nat.le_of_ble_eq_true rfl, Nat.le_of_ble_eq_true rfl⟩
theorem rm_X3_countWays_X3_twosInOneCompartment : rmOk MX3_countWays MX3_twosInOneCompartment := ⟨Nat.le_of_ble_eq_true rfl, Nat.le_of_ble_eq_true rfl⟩
theorem rm_X3_countWays_X3_digitsAsNumber : rmOk MX3_countWays MX3_digitsAsNumber := ⟨Nat.le_of_ble_eq_true rfl, Nat.le_of_ble_eq_true rfl⟩
theorem rm_X3_waysInAll_X3_isRider : rmOk MX3_waysInAll MX3_isRider := ⟨Nat.le_of_ble_eq_true rfl, Nat.le_of_ble_eq_true rfl⟩
theorem rm_X3_spread_X3_isRider : rmOk MX3_spread MX3_isRider := ⟨Nat.le_of_ble_eq_true rfl, Nat.le_of_ble_eq_true rfl⟩
theorem rm_X3_meetableTwos_X5_rideTogether : rmOk MX3_meetableTwos MX5_rideTogether := ⟨Nat.le_of_ble_eq_true rfl, Nat.le_of_ble_eq_true rfl⟩
theorem rm_X4_suspects_X5_ridersOfLine : rmOk MX4_suspects MX5_ridersOfLine := ⟨Nat.le_of_ble_eq_true rfl, Nat.le_of_ble_eq_true rfl⟩
theorem rm_X4_suspects_X5_companionsOf : rmOk MX4_suspects MX5_companionsOf := ⟨Nat.le_of_ble_eq_true rfl, Nat.le_of_ble_eq_true rfl⟩
theorem rm_X5_tunnelsOfLine_X5_isTunnel : rmOk MX5_tunnelsOfLine MX5_isTunnel := ⟨Nat.le_of_ble_eq_true rfl, Nat.le_of_ble_eq_true rfl⟩
theorem rm_X5_setRide_X7_isTraveller : rmOk MX5_setRide MX7_isTraveller := ⟨Nat.le_of_ble_eq_true rfl, Nat.le_of_ble_eq_true rfl⟩
theorem rm_X5_setBid_X7_isTraveller : rmOk MX5_setBid MX7_isTraveller := ⟨Nat.le_of_ble_eq_true rfl, Nat.le_of_ble_eq_true rfl⟩
theorem rm_X5_ridesIn_X5_ridesAt : rmOk MX5_ridesIn MX5_ridesAt := ⟨Nat.le_of_ble_eq_true rfl, Nat.le_of_ble_eq_true rfl⟩
theorem rm_X5_ridesNow_X5_ridesAt : rmOk MX5_ridesNow MX5_ridesAt := ⟨Nat.le_of_ble_eq_true rfl, Nat.le_of_ble_eq_true rfl⟩
theorem rm_X5_ridesFromNowOn_X5_ridesAt : rmOk MX5_ridesFromNowOn MX5_ridesAt := ⟨Nat.le_of_ble_eq_true rfl, Nat.le_of_ble_eq_true rfl⟩
theorem rm_X5_minutesOf_X5_ridesAt : rmOk MX5_minutesOf MX5_ridesAt := ⟨Nat.le_of_ble_eq_true rfl, Nat.le_of_ble_eq_true rfl⟩
theorem rm_X5_ridersOf_X5_ridesIn : rmOk MX5_ridersOf MX5_ridesIn := ⟨Nat.le_of_ble_eq_true rfl, Nat.le_of_ble_eq_true rfl⟩
theorem rm_X5_companionsOf_X7_isTraveller : rmOk MX5_companionsOf MX7_isTraveller := ⟨Nat.le_of_ble_eq_true rfl, Nat.le_of_ble_eq_true rfl⟩
theorem rm_X5_companionsOf_X5_ridesAt : rmOk MX5_companionsOf MX5_ridesAt := ⟨Nat.le_of_ble_eq_true rfl, Nat.le_of_ble_eq_true rfl⟩
theorem rm_X5_companionsOf_X5_ridersOf : rmOk MX5_companionsOf MX5_ridersOf := ⟨Nat.le_of_ble_eq_true rfl, Nat.le_of_ble_eq_true rfl⟩
theorem rm_X5_ridersOfLine_X5_minutesOf : rmOk MX5_ridersOfLine MX5_minutesOf := ⟨Nat.le_of_ble_eq_true rfl, Nat.le_of_ble_eq_true rfl⟩
theorem rm_X5_rideTogether_X5_ridesAt : rmOk MX5_rideTogether MX5_ridesAt := ⟨Nat.le_of_ble_eq_true rfl, Nat.le_of_ble_eq_true rfl⟩
theorem rm_X5_holderOf_X5_isTunnel : rmOk MX5_holderOf MX5_isTunnel := ⟨Nat.le_of_ble_eq_true rfl, Nat.le_of_ble_eq_true rfl⟩
theorem rm_X5_holderOf_X5_ridesAt : rmOk MX5_holderOf MX5_ridesAt := ⟨Nat.le_of_ble_eq_true rfl, Nat.le_of_ble_eq_true rfl⟩
theorem rm_X5_isHolder_X7_isTraveller : rmOk MX5_isHolder MX7_isTraveller := ⟨Nat.le_of_ble_eq_true rfl, Nat.le_of_ble_eq_true rfl⟩
theorem rm_X5_isHolder_X5_holderOf : rmOk MX5_isHolder MX5_holderOf := ⟨Nat.le_of_ble_eq_true rfl, Nat.le_of_ble_eq_true rfl⟩
theorem rm_X5_maySpeak_X7_isTraveller : rmOk MX5_maySpeak MX7_isTraveller := ⟨Nat.le_of_ble_eq_true rfl, Nat.le_of_ble_eq_true rfl⟩
theorem rm_X5_maySpeak_X5_ridesNow : rmOk MX5_maySpeak MX5_ridesNow := ⟨Nat.le_of_ble_eq_true rfl, Nat.le_of_ble_eq_true rfl⟩
theorem rm_X5_maySpeak_X5_holderOf : rmOk MX5_maySpeak MX5_holderOf := ⟨Nat.le_of_ble_eq_true rfl, Nat.le_of_ble_eq_true rfl⟩
theorem rm_X5_passMinute_X5_holderOf : rmOk MX5_passMinute MX5_holderOf := ⟨Nat.le_of_ble_eq_true rfl, Nat.le_of_ble_eq_true rfl⟩
theorem rm_X5_passMinute_X7_isTraveller : rmOk MX5_passMinute MX7_isTraveller := ⟨Nat.le_of_ble_eq_true rfl, Nat.le_of_ble_eq_true rfl⟩
theorem rm_X5_passMinute_X5_payGuard : rmOk MX5_passMinute MX5_payGuard := ⟨Nat.le_of_ble_eq_true rfl, Nat.le_of_ble_eq_true rfl⟩
theorem rm_X5_takeCough_X7_isTraveller : rmOk MX5_takeCough MX7_isTraveller := ⟨Nat.le_of_ble_eq_true rfl, Nat.le_of_ble_eq_true rfl⟩
theorem rm_X5_takeCough_X5_ridesNow : rmOk MX5_takeCough MX5_ridesNow := ⟨Nat.le_of_ble_eq_true rfl, Nat.le_of_ble_eq_true rfl⟩
theorem rm_X5_takeCough_X5_holderOf : rmOk MX5_takeCough MX5_holderOf := ⟨Nat.le_of_ble_eq_true rfl, Nat.le_of_ble_eq_true rfl⟩
theorem rm_X5_takeCough_X5_payGuard : rmOk MX5_takeCough MX5_payGuard := ⟨Nat.le_of_ble_eq_true rfl, Nat.le_of_ble_eq_true rfl⟩
theorem rm_X5_payGuard_X7_isTraveller : rmOk MX5_payGuard MX7_isTraveller := ⟨Nat.le_of_ble_eq_true rfl, Nat.le_of_ble_eq_true rfl⟩
theorem rm_X5_doDrawn_X5_passMinute : rmOk MX5_doDrawn MX5_passMinute := ⟨Nat.le_of_ble_eq_true rfl, Nat.le_of_ble_eq_true rfl⟩
theorem rm_X5_doDrawn_X5_setBid : rmOk MX5_doDrawn MX5_setBid := ⟨Nat.le_of_ble_eq_true rfl, Nat.le_of_ble_eq_true rfl⟩
theorem rm_X5_doDrawn_X5_takeCough : rmOk MX5_doDrawn MX5_takeCough := ⟨Nat.le_of_ble_eq_true rfl, Nat.le_of_ble_eq_true rfl⟩
theorem rm_X5_knownAfter_X5_isTunnel : rmOk MX5_knownAfter MX5_isTunnel := ⟨Nat.le_of_ble_eq_true rfl, Nat.le_of_ble_eq_true rfl⟩
theorem rm_X5_knownAfter_X5_ridersOf : rmOk MX5_knownAfter MX5_ridersOf := ⟨Nat.le_of_ble_eq_true rfl, Nat.le_of_ble_eq_true rfl⟩
theorem rm_X6_tryRides_X6_tryAct : rmOk MX6_tryRides MX6_tryAct := ⟨Nat.le_of_ble_eq_true rfl, Nat.le_of_ble_eq_true rfl⟩
theorem rm_X6_tryRides_X1_actLength : rmOk MX6_tryRides MX1_actLength := ⟨Nat.le_of_ble_eq_true rfl, Nat.le_of_ble_eq_true rfl⟩
theorem rm_X6_tryAct_X1_signAt : rmOk MX6_tryAct MX1_signAt := ⟨Nat.le_of_ble_eq_true rfl, Nat.le_of_ble_eq_true rfl⟩
theorem rm_X6_tryAct_X5_passMinute : rmOk MX6_tryAct MX5_passMinute := ⟨Nat.le_of_ble_eq_true rfl, Nat.le_of_ble_eq_true rfl⟩
theorem rm_X6_tryAct_X1_isDigitAt : rmOk MX6_tryAct MX1_isDigitAt := ⟨Nat.le_of_ble_eq_true rfl, Nat.le_of_ble_eq_true rfl⟩
theorem rm_X6_tryAct_X5_setBid : rmOk MX6_tryAct MX5_setBid := ⟨Nat.le_of_ble_eq_true rfl, Nat.le_of_ble_eq_true rfl⟩
theorem rm_X6_tryAct_X5_ridesNow : rmOk MX6_tryAct MX5_ridesNow := ⟨Nat.le_of_ble_eq_true rfl, Nat.le_of_ble_eq_true rfl⟩
theorem rm_X6_tryAct_X5_maySpeak : rmOk MX6_tryAct MX5_maySpeak := ⟨Nat.le_of_ble_eq_true rfl, Nat.le_of_ble_eq_true rfl⟩
theorem rm_X6_tryAct_X5_takeCough : rmOk MX6_tryAct MX5_takeCough := ⟨Nat.le_of_ble_eq_true rfl, Nat.le_of_ble_eq_true rfl⟩
theorem rm_X7_line_X7_isWithin : rmOk MX7_line MX7_isWithin := ⟨Nat.le_of_ble_eq_true rfl, Nat.le_of_ble_eq_true rfl⟩
theorem rm_X7_tunnel_X7_isMinute : rmOk MX7_tunnel MX7_isMinute := ⟨Nat.le_of_ble_eq_true rfl, Nat.le_of_ble_eq_true rfl⟩
theorem rm_X7_tunnel_X5_tunnelsOfLine : rmOk MX7_tunnel MX5_tunnelsOfLine := ⟨Nat.le_of_ble_eq_true rfl, Nat.le_of_ble_eq_true rfl⟩
theorem rm_X7_ride_X7_isTraveller : rmOk MX7_ride MX7_isTraveller := ⟨Nat.le_of_ble_eq_true rfl, Nat.le_of_ble_eq_true rfl⟩
theorem rm_X7_ride_X5_setRide : rmOk MX7_ride MX5_setRide := ⟨Nat.le_of_ble_eq_true rfl, Nat.le_of_ble_eq_true rfl⟩
theorem rm_X7_ride_X7_isMinute : rmOk MX7_ride MX7_isMinute := ⟨Nat.le_of_ble_eq_true rfl, Nat.le_of_ble_eq_true rfl⟩
theorem rm_X7_ride_X5_minutesOf : rmOk MX7_ride MX5_minutesOf := ⟨Nat.le_of_ble_eq_true rfl, Nat.le_of_ble_eq_true rfl⟩
theorem rm_X7_seat_X7_isTraveller : rmOk MX7_seat MX7_isTraveller := ⟨Nat.le_of_ble_eq_true rfl, Nat.le_of_ble_eq_true rfl⟩
theorem rm_X7_seat_X7_isCompartment : rmOk MX7_seat MX7_isCompartment := ⟨Nat.le_of_ble_eq_true rfl, Nat.le_of_ble_eq_true rfl⟩
theorem rm_X7_purse_X7_isTraveller : rmOk MX7_purse MX7_isTraveller := ⟨Nat.le_of_ble_eq_true rfl, Nat.le_of_ble_eq_true rfl⟩
theorem rm_X7_purse_X7_isWithin : rmOk MX7_purse MX7_isWithin := ⟨Nat.le_of_ble_eq_true rfl, Nat.le_of_ble_eq_true rfl⟩
theorem rm_X7_fine_X7_isWithin : rmOk MX7_fine MX7_isWithin := ⟨Nat.le_of_ble_eq_true rfl, Nat.le_of_ble_eq_true rfl⟩
theorem rm_X7_say_X7_isWithin : rmOk MX7_say MX7_isWithin := ⟨Nat.le_of_ble_eq_true rfl, Nat.le_of_ble_eq_true rfl⟩
theorem rm_X7_say_X1_write : rmOk MX7_say MX1_write := ⟨Nat.le_of_ble_eq_true rfl, Nat.le_of_ble_eq_true rfl⟩
theorem rm_X7_wipe_X1_clear : rmOk MX7_wipe MX1_clear := ⟨Nat.le_of_ble_eq_true rfl, Nat.le_of_ble_eq_true rfl⟩
theorem rm_X7_fault_X1_faultPlace : rmOk MX7_fault MX1_faultPlace := ⟨Nat.le_of_ble_eq_true rfl, Nat.le_of_ble_eq_true rfl⟩
theorem rm_X7_judge_X7_isWithin : rmOk MX7_judge MX7_isWithin := ⟨Nat.le_of_ble_eq_true rfl, Nat.le_of_ble_eq_true rfl⟩
theorem rm_X7_judge_X1_faultPlace : rmOk MX7_judge MX1_faultPlace := ⟨Nat.le_of_ble_eq_true rfl, Nat.le_of_ble_eq_true rfl⟩
theorem rm_X7_judge_X7_padCanBe : rmOk MX7_judge MX7_padCanBe := ⟨Nat.le_of_ble_eq_true rfl, Nat.le_of_ble_eq_true rfl⟩
theorem rm_X7_done_X7_padCanBe : rmOk MX7_done MX7_padCanBe := ⟨Nat.le_of_ble_eq_true rfl, Nat.le_of_ble_eq_true rfl⟩
theorem rm_X7_done_X5_copyFrom : rmOk MX7_done MX5_copyFrom := ⟨Nat.le_of_ble_eq_true rfl, Nat.le_of_ble_eq_true rfl⟩
theorem rm_X7_done_X1_clear : rmOk MX7_done MX1_clear := ⟨Nat.le_of_ble_eq_true rfl, Nat.le_of_ble_eq_true rfl⟩
theorem rm_X7_behind_X7_isWithin : rmOk MX7_behind MX7_isWithin := ⟨Nat.le_of_ble_eq_true rfl, Nat.le_of_ble_eq_true rfl⟩
theorem rm_X7_behind_X7_padCanBe : rmOk MX7_behind MX7_padCanBe := ⟨Nat.le_of_ble_eq_true rfl, Nat.le_of_ble_eq_true rfl⟩
theorem rm_X7_behind_X7_isTraveller : rmOk MX7_behind MX7_isTraveller := ⟨Nat.le_of_ble_eq_true rfl, Nat.le_of_ble_eq_true rfl⟩
theorem rm_X7_holds_X7_isCompartment : rmOk MX7_holds MX7_isCompartment := ⟨Nat.le_of_ble_eq_true rfl, Nat.le_of_ble_eq_true rfl⟩
theorem rm_X7_holds_X5_holderOf : rmOk MX7_holds MX5_holderOf := ⟨Nat.le_of_ble_eq_true rfl, Nat.le_of_ble_eq_true rfl⟩
theorem rm_X7_hears_X7_isTraveller : rmOk MX7_hears MX7_isTraveller := ⟨Nat.le_of_ble_eq_true rfl, Nat.le_of_ble_eq_true rfl⟩
theorem rm_X7_hears_X5_maySpeak : rmOk MX7_hears MX5_maySpeak := ⟨Nat.le_of_ble_eq_true rfl, Nat.le_of_ble_eq_true rfl⟩
theorem rm_X7_hears_X5_companionsOf : rmOk MX7_hears MX5_companionsOf := ⟨Nat.le_of_ble_eq_true rfl, Nat.le_of_ble_eq_true rfl⟩
theorem rm_X7_forecast_X7_isCompartment : rmOk MX7_forecast MX7_isCompartment := ⟨Nat.le_of_ble_eq_true rfl, Nat.le_of_ble_eq_true rfl⟩
theorem rm_X7_forecast_X7_isWithin : rmOk MX7_forecast MX7_isWithin := ⟨Nat.le_of_ble_eq_true rfl, Nat.le_of_ble_eq_true rfl⟩
theorem rm_X7_forecast_X5_copyFrom : rmOk MX7_forecast MX5_copyFrom := ⟨Nat.le_of_ble_eq_true rfl, Nat.le_of_ble_eq_true rfl⟩
theorem rm_X7_forecast_X5_passMinute : rmOk MX7_forecast MX5_passMinute := ⟨Nat.le_of_ble_eq_true rfl, Nat.le_of_ble_eq_true rfl⟩
theorem rm_X7_forecast_X5_holderOf : rmOk MX7_forecast MX5_holderOf := ⟨Nat.le_of_ble_eq_true rfl, Nat.le_of_ble_eq_true rfl⟩
theorem rm_X7_rests_X7_isTraveller : rmOk MX7_rests MX7_isTraveller := ⟨Nat.le_of_ble_eq_true rfl, Nat.le_of_ble_eq_true rfl⟩
theorem rm_X7_rests_X7_letAllMinutesPass : rmOk MX7_rests MX7_letAllMinutesPass := ⟨Nat.le_of_ble_eq_true rfl, Nat.le_of_ble_eq_true rfl⟩
theorem rm_X7_talks_X7_isTraveller : rmOk MX7_talks MX7_isTraveller := ⟨Nat.le_of_ble_eq_true rfl, Nat.le_of_ble_eq_true rfl⟩
theorem rm_X7_talks_X5_copyFrom : rmOk MX7_talks MX5_copyFrom := ⟨Nat.le_of_ble_eq_true rfl, Nat.le_of_ble_eq_true rfl⟩
theorem rm_X7_talks_X5_maySpeak : rmOk MX7_talks MX5_maySpeak := ⟨Nat.le_of_ble_eq_true rfl, Nat.le_of_ble_eq_true rfl⟩
theorem rm_X7_talks_X5_ridesIn : rmOk MX7_talks MX5_ridesIn := ⟨Nat.le_of_ble_eq_true rfl, Nat.le_of_ble_eq_true rfl⟩
theorem rm_X7_talks_X5_passMinute : rmOk MX7_talks MX5_passMinute := ⟨Nat.le_of_ble_eq_true rfl, Nat.le_of_ble_eq_true rfl⟩
theorem rm_X7_buy_X7_isTraveller : rmOk MX7_buy MX7_isTraveller := ⟨Nat.le_of_ble_eq_true rfl, Nat.le_of_ble_eq_true rfl⟩
theorem rm_X7_buy_X7_isWithin : rmOk MX7_buy MX7_isWithin := ⟨Nat.le_of_ble_eq_true rfl, Nat.le_of_ble_eq_true rfl⟩
theorem rm_X7_buy_X5_ridesFromNowOn : rmOk MX7_buy MX5_ridesFromNowOn := ⟨Nat.le_of_ble_eq_true rfl, Nat.le_of_ble_eq_true rfl⟩
theorem rm_X7_buy_X7_keepsSilence : rmOk MX7_buy MX7_keepsSilence := ⟨Nat.le_of_ble_eq_true rfl, Nat.le_of_ble_eq_true rfl⟩
theorem rm_X7_buy_X7_paidInTrial : rmOk MX7_buy MX7_paidInTrial := ⟨Nat.le_of_ble_eq_true rfl, Nat.le_of_ble_eq_true rfl⟩
theorem rm_X7_seats_X7_isWithin : rmOk MX7_seats MX7_isWithin := ⟨Nat.le_of_ble_eq_true rfl, Nat.le_of_ble_eq_true rfl⟩
theorem rm_X7_seats_X3_countWays : rmOk MX7_seats MX3_countWays := ⟨Nat.le_of_ble_eq_true rfl, Nat.le_of_ble_eq_true rfl⟩
theorem rm_X7_word_X7_isTraveller : rmOk MX7_word MX7_isTraveller := ⟨Nat.le_of_ble_eq_true rfl, Nat.le_of_ble_eq_true rfl⟩
theorem rm_X7_word_X7_isMinute : rmOk MX7_word MX7_isMinute := ⟨Nat.le_of_ble_eq_true rfl, Nat.le_of_ble_eq_true rfl⟩
theorem rm_X7_word_X5_knownAfter : rmOk MX7_word MX5_knownAfter := ⟨Nat.le_of_ble_eq_true rfl, Nat.le_of_ble_eq_true rfl⟩
theorem rm_X7_heard_X7_isTraveller : rmOk MX7_heard MX7_isTraveller := ⟨Nat.le_of_ble_eq_true rfl, Nat.le_of_ble_eq_true rfl⟩
theorem rm_X7_heard_X7_isMinute : rmOk MX7_heard MX7_isMinute := ⟨Nat.le_of_ble_eq_true rfl, Nat.le_of_ble_eq_true rfl⟩
theorem rm_X7_heard_X5_knownAfter : rmOk MX7_heard MX5_knownAfter := ⟨Nat.le_of_ble_eq_true rfl, Nat.le_of_ble_eq_true rfl⟩
theorem rm_X7_richest_X7_isWithin : rmOk MX7_richest MX7_isWithin := ⟨Nat.le_of_ble_eq_true rfl, Nat.le_of_ble_eq_true rfl⟩
theorem rm_X7_richest_X7_letAllMinutesPass : rmOk MX7_richest MX7_letAllMinutesPass := ⟨Nat.le_of_ble_eq_true rfl, Nat.le_of_ble_eq_true rfl⟩
theorem rm_X7_richest_X7_topPayer : rmOk MX7_richest MX7_topPayer := ⟨Nat.le_of_ble_eq_true rfl, Nat.le_of_ble_eq_true rfl⟩
theorem rm_X7_richest_X7_paidByCompartment : rmOk MX7_richest MX7_paidByCompartment := ⟨Nat.le_of_ble_eq_true rfl, Nat.le_of_ble_eq_true rfl⟩
theorem rm_X7_seen_X7_isTraveller : rmOk MX7_seen MX7_isTraveller := ⟨Nat.le_of_ble_eq_true rfl, Nat.le_of_ble_eq_true rfl⟩
theorem rm_X7_seen_X7_isMinute : rmOk MX7_seen MX7_isMinute := ⟨Nat.le_of_ble_eq_true rfl, Nat.le_of_ble_eq_true rfl⟩
theorem rm_X7_seen_X4_add : rmOk MX7_seen MX4_add := ⟨Nat.le_of_ble_eq_true rfl, Nat.le_of_ble_eq_true rfl⟩
theorem rm_X7_forget_X4_clear : rmOk MX7_forget MX4_clear := ⟨Nat.le_of_ble_eq_true rfl, Nat.le_of_ble_eq_true rfl⟩
theorem rm_X7_hum_X4_suspects : rmOk MX7_hum MX4_suspects := ⟨Nat.le_of_ble_eq_true rfl, Nat.le_of_ble_eq_true rfl⟩
theorem rm_X7_watch_X7_isWithin : rmOk MX7_watch MX7_isWithin := ⟨Nat.le_of_ble_eq_true rfl, Nat.le_of_ble_eq_true rfl⟩
theorem rm_X7_watch_X4_suspects : rmOk MX7_watch MX4_suspects := ⟨Nat.le_of_ble_eq_true rfl, Nat.le_of_ble_eq_true rfl⟩
theorem rm_X7_watch_X5_ridersOf : rmOk MX7_watch MX5_ridersOf := ⟨Nat.le_of_ble_eq_true rfl, Nat.le_of_ble_eq_true rfl⟩
theorem rm_X7_watch_X7_leftAtMost : rmOk MX7_watch MX7_leftAtMost := ⟨Nat.le_of_ble_eq_true rfl, Nat.le_of_ble_eq_true rfl⟩
theorem rm_X7_auction_X7_isWithin : rmOk MX7_auction MX7_isWithin := ⟨Nat.le_of_ble_eq_true rfl, Nat.le_of_ble_eq_true rfl⟩
theorem rm_X7_auction_X2_settle : rmOk MX7_auction MX2_settle := ⟨Nat.le_of_ble_eq_true rfl, Nat.le_of_ble_eq_true rfl⟩
theorem rm_X7_coughs_X7_isCompartment : rmOk MX7_coughs MX7_isCompartment := ⟨Nat.le_of_ble_eq_true rfl, Nat.le_of_ble_eq_true rfl⟩
theorem rm_X7_coughs_X7_isWithin : rmOk MX7_coughs MX7_isWithin := ⟨Nat.le_of_ble_eq_true rfl, Nat.le_of_ble_eq_true rfl⟩
theorem rm_X7_coughs_X7_chancesToCough : rmOk MX7_coughs MX7_chancesToCough := ⟨Nat.le_of_ble_eq_true rfl, Nat.le_of_ble_eq_true rfl⟩
theorem rm_X7_coughs_X7_tenthsInLowestTerms : rmOk MX7_coughs MX7_tenthsInLowestTerms := ⟨Nat.le_of_ble_eq_true rfl, Nat.le_of_ble_eq_true rfl⟩
theorem rm_X7_year_X7_isWithin : rmOk MX7_year MX7_isWithin := ⟨Nat.le_of_ble_eq_true rfl, Nat.le_of_ble_eq_true rfl⟩
theorem rm_X7_year_X5_copyFrom : rmOk MX7_year MX5_copyFrom := ⟨Nat.le_of_ble_eq_true rfl, Nat.le_of_ble_eq_true rfl⟩
theorem rm_X7_year_X5_doDrawn : rmOk MX7_year MX5_doDrawn := ⟨Nat.le_of_ble_eq_true rfl, Nat.le_of_ble_eq_true rfl⟩
theorem rm_X7_image_X7_isWithin : rmOk MX7_image MX7_isWithin := ⟨Nat.le_of_ble_eq_true rfl, Nat.le_of_ble_eq_true rfl⟩
theorem rm_X7_image_X7_imageAt : rmOk MX7_image MX7_imageAt := ⟨Nat.le_of_ble_eq_true rfl, Nat.le_of_ble_eq_true rfl⟩
theorem rm_X7_image_X0_keep : rmOk MX7_image MX0_keep := ⟨Nat.le_of_ble_eq_true rfl, Nat.le_of_ble_eq_true rfl⟩
theorem rm_X7_restore_X7_isWithin : rmOk MX7_restore MX7_isWithin := ⟨Nat.le_of_ble_eq_true rfl, Nat.le_of_ble_eq_true rfl⟩
theorem rm_X7_restore_X7_imageAt : rmOk MX7_restore MX7_imageAt := ⟨Nat.le_of_ble_eq_true rfl, Nat.le_of_ble_eq_true rfl⟩
theorem rm_X7_restore_X0_bringBack : rmOk MX7_restore MX0_bringBack := ⟨Nat.le_of_ble_eq_true rfl, Nat.le_of_ble_eq_true rfl⟩
theorem rm_X7_told_X7_toldOf : rmOk MX7_told MX7_toldOf := ⟨Nat.le_of_ble_eq_true rfl, Nat.le_of_ble_eq_true rfl⟩
theorem rm_X7_padCanBe_X1_faultPlace : rmOk MX7_padCanBe MX1_faultPlace := ⟨Nat.le_of_ble_eq_true rfl, Nat.le_of_ble_eq_true rfl⟩
theorem rm_X7_padCanBe_X5_copyFrom : rmOk MX7_padCanBe MX5_copyFrom := ⟨Nat.le_of_ble_eq_true rfl, Nat.le_of_ble_eq_true rfl⟩
theorem rm_X7_padCanBe_X6_tryRides : rmOk MX7_padCanBe MX6_tryRides := ⟨Nat.le_of_ble_eq_true rfl, Nat.le_of_ble_eq_true rfl⟩
theorem rm_X7_letAllMinutesPass_X5_copyFrom : rmOk MX7_letAllMinutesPass MX5_copyFrom := ⟨Nat.le_of_ble_eq_true rfl, Nat.le_of_ble_eq_true rfl⟩
theorem rm_X7_letAllMinutesPass_X5_passMinute : rmOk MX7_letAllMinutesPass MX5_passMinute := ⟨Nat.le_of_ble_eq_true rfl, Nat.le_of_ble_eq_true rfl⟩
theorem rm_X7_keepsSilence_X5_copyFrom : rmOk MX7_keepsSilence MX5_copyFrom := ⟨Nat.le_of_ble_eq_true rfl, Nat.le_of_ble_eq_true rfl⟩
theorem rm_X7_keepsSilence_X5_setBid : rmOk MX7_keepsSilence MX5_setBid := ⟨Nat.le_of_ble_eq_true rfl, Nat.le_of_ble_eq_true rfl⟩
theorem rm_X7_keepsSilence_X5_ridesAt : rmOk MX7_keepsSilence MX5_ridesAt := ⟨Nat.le_of_ble_eq_true rfl, Nat.le_of_ble_eq_true rfl⟩
theorem rm_X7_keepsSilence_X5_isTunnel : rmOk MX7_keepsSilence MX5_isTunnel := ⟨Nat.le_of_ble_eq_true rfl, Nat.le_of_ble_eq_true rfl⟩
theorem rm_X7_keepsSilence_X5_isHolder : rmOk MX7_keepsSilence MX5_isHolder := ⟨Nat.le_of_ble_eq_true rfl, Nat.le_of_ble_eq_true rfl⟩
theorem rm_X7_keepsSilence_X5_passMinute : rmOk MX7_keepsSilence MX5_passMinute := ⟨Nat.le_of_ble_eq_true rfl, Nat.le_of_ble_eq_true rfl⟩
theorem rm_X7_paidInTrial_X7_isTraveller : rmOk MX7_paidInTrial MX7_isTraveller := ⟨Nat.le_of_ble_eq_true rfl, Nat.le_of_ble_eq_true rfl⟩
theorem rm_X7_paidByCompartment_X7_paidInTrial : rmOk MX7_paidByCompartment MX7_paidInTrial := ⟨Nat.le_of_ble_eq_true rfl, Nat.le_of_ble_eq_true rfl⟩
theorem rm_X7_topPayer_X7_paidInTrial : rmOk MX7_topPayer MX7_paidInTrial := ⟨Nat.le_of_ble_eq_true rfl, Nat.le_of_ble_eq_true rfl⟩
theorem rm_X7_leftAtMost_J6_bitCount : rmOk MX7_leftAtMost MJ6_bitCount := ⟨Nat.le_of_ble_eq_true rfl, Nat.le_of_ble_eq_true rfl⟩
theorem rm_X7_chancesToCough_X5_copyFrom : rmOk MX7_chancesToCough MX5_copyFrom := ⟨Nat.le_of_ble_eq_true rfl, Nat.le_of_ble_eq_true rfl⟩
theorem rm_X7_chancesToCough_X5_holderOf : rmOk MX7_chancesToCough MX5_holderOf := ⟨Nat.le_of_ble_eq_true rfl, Nat.le_of_ble_eq_true rfl⟩
theorem rm_X7_chancesToCough_X5_ridersOf : rmOk MX7_chancesToCough MX5_ridersOf := ⟨Nat.le_of_ble_eq_true rfl, Nat.le_of_ble_eq_true rfl⟩
theorem rm_X7_chancesToCough_J6_bitCount : rmOk MX7_chancesToCough MJ6_bitCount := ⟨Nat.le_of_ble_eq_true rfl, Nat.le_of_ble_eq_true rfl⟩
theorem rm_X7_chancesToCough_X5_passMinute : rmOk MX7_chancesToCough MX5_passMinute := ⟨Nat.le_of_ble_eq_true rfl, Nat.le_of_ble_eq_true rfl⟩
theorem rm_X7_toldOf_X7_isTraveller : rmOk MX7_toldOf MX7_isTraveller := ⟨Nat.le_of_ble_eq_true rfl, Nat.le_of_ble_eq_true rfl⟩
theorem rm_X8_isOne_X8_in : rmOk MX8_isOne MX8_in := ⟨Nat.le_of_ble_eq_true rfl, Nat.le_of_ble_eq_true rfl⟩
theorem rm_X8_isRoom_X8_in : rmOk MX8_isRoom MX8_in := ⟨Nat.le_of_ble_eq_true rfl, Nat.le_of_ble_eq_true rfl⟩
theorem rm_X8_line_X8_in : rmOk MX8_line MX8_in := ⟨Nat.le_of_ble_eq_true rfl, Nat.le_of_ble_eq_true rfl⟩
theorem rm_X8_tunnel_X8_in : rmOk MX8_tunnel MX8_in := ⟨Nat.le_of_ble_eq_true rfl, Nat.le_of_ble_eq_true rfl⟩
theorem rm_X8_tunnel_X8_bits : rmOk MX8_tunnel MX8_bits := ⟨Nat.le_of_ble_eq_true rfl, Nat.le_of_ble_eq_true rfl⟩
theorem rm_X8_rides_X8_in : rmOk MX8_rides MX8_in := ⟨Nat.le_of_ble_eq_true rfl, Nat.le_of_ble_eq_true rfl⟩
theorem rm_X8_ride_X8_isOne : rmOk MX8_ride MX8_isOne := ⟨Nat.le_of_ble_eq_true rfl, Nat.le_of_ble_eq_true rfl⟩
theorem rm_X8_ride_X8_in : rmOk MX8_ride MX8_in := ⟨Nat.le_of_ble_eq_true rfl, Nat.le_of_ble_eq_true rfl⟩
theorem rm_X8_ride_X8_rides : rmOk MX8_ride MX8_rides := ⟨Nat.le_of_ble_eq_true rfl, Nat.le_of_ble_eq_true rfl⟩
theorem rm_X8_seat_X8_isOne : rmOk MX8_seat MX8_isOne := ⟨Nat.le_of_ble_eq_true rfl, Nat.le_of_ble_eq_true rfl⟩
theorem rm_X8_seat_X8_isRoom : rmOk MX8_seat MX8_isRoom := ⟨Nat.le_of_ble_eq_true rfl, Nat.le_of_ble_eq_true rfl⟩
theorem rm_X8_purse_X8_isOne : rmOk MX8_purse MX8_isOne := ⟨Nat.le_of_ble_eq_true rfl, Nat.le_of_ble_eq_true rfl⟩
theorem rm_X8_purse_X8_in : rmOk MX8_purse MX8_in := ⟨Nat.le_of_ble_eq_true rfl, Nat.le_of_ble_eq_true rfl⟩
theorem rm_X8_fine_X8_in : rmOk MX8_fine MX8_in := ⟨Nat.le_of_ble_eq_true rfl, Nat.le_of_ble_eq_true rfl⟩
theorem rm_X8_say_X8_in : rmOk MX8_say MX8_in := ⟨Nat.le_of_ble_eq_true rfl, Nat.le_of_ble_eq_true rfl⟩
theorem rm_X8_isLetter_X8_in : rmOk MX8_isLetter MX8_in := ⟨Nat.le_of_ble_eq_true rfl, Nat.le_of_ble_eq_true rfl⟩
theorem rm_X8_isDigit_X8_in : rmOk MX8_isDigit MX8_in := ⟨Nat.le_of_ble_eq_true rfl, Nat.le_of_ble_eq_true rfl⟩
theorem rm_X8_faultOf_X8_isLetter : rmOk MX8_faultOf MX8_isLetter := ⟨Nat.le_of_ble_eq_true rfl, Nat.le_of_ble_eq_true rfl⟩
theorem rm_X8_faultOf_X8_isDigit : rmOk MX8_faultOf MX8_isDigit := ⟨Nat.le_of_ble_eq_true rfl, Nat.le_of_ble_eq_true rfl⟩
theorem rm_X8_fault_X8_faultOf : rmOk MX8_fault MX8_faultOf := ⟨Nat.le_of_ble_eq_true rfl, Nat.le_of_ble_eq_true rfl⟩
theorem rm_X8_isTunnel_X8_has : rmOk MX8_isTunnel MX8_has := ⟨Nat.le_of_ble_eq_true rfl, Nat.le_of_ble_eq_true rfl⟩
theorem rm_X8_holder_X8_isTunnel : rmOk MX8_holder MX8_isTunnel := ⟨Nat.le_of_ble_eq_true rfl, Nat.le_of_ble_eq_true rfl⟩
theorem rm_X8_holder_X8_rides : rmOk MX8_holder MX8_rides := ⟨Nat.le_of_ble_eq_true rfl, Nat.le_of_ble_eq_true rfl⟩
theorem rm_X8_pass_X8_holder : rmOk MX8_pass MX8_holder := ⟨Nat.le_of_ble_eq_true rfl, Nat.le_of_ble_eq_true rfl⟩
theorem rm_X8_ridesNow_X8_rides : rmOk MX8_ridesNow MX8_rides := ⟨Nat.le_of_ble_eq_true rfl, Nat.le_of_ble_eq_true rfl⟩
theorem rm_X8_maySpeak_X8_holder : rmOk MX8_maySpeak MX8_holder := ⟨Nat.le_of_ble_eq_true rfl, Nat.le_of_ble_eq_true rfl⟩
theorem rm_X8_maySpeak_X8_ridesNow : rmOk MX8_maySpeak MX8_ridesNow := ⟨Nat.le_of_ble_eq_true rfl, Nat.le_of_ble_eq_true rfl⟩
theorem rm_X8_cough_X8_holder : rmOk MX8_cough MX8_holder := ⟨Nat.le_of_ble_eq_true rfl, Nat.le_of_ble_eq_true rfl⟩
theorem rm_X8_whyNot_X8_ridesNow : rmOk MX8_whyNot MX8_ridesNow := ⟨Nat.le_of_ble_eq_true rfl, Nat.le_of_ble_eq_true rfl⟩
theorem rm_X8_whyNot_X8_maySpeak : rmOk MX8_whyNot MX8_maySpeak := ⟨Nat.le_of_ble_eq_true rfl, Nat.le_of_ble_eq_true rfl⟩
theorem rm_X8_goRides_X8_asNow : rmOk MX8_goRides MX8_asNow := ⟨Nat.le_of_ble_eq_true rfl, Nat.le_of_ble_eq_true rfl⟩
theorem rm_X8_goRides_X8_pass : rmOk MX8_goRides MX8_pass := ⟨Nat.le_of_ble_eq_true rfl, Nat.le_of_ble_eq_true rfl⟩
theorem rm_X8_goRides_X8_isDigit : rmOk MX8_goRides MX8_isDigit := ⟨Nat.le_of_ble_eq_true rfl, Nat.le_of_ble_eq_true rfl⟩
theorem rm_X8_goRides_X8_whyNot : rmOk MX8_goRides MX8_whyNot := ⟨Nat.le_of_ble_eq_true rfl, Nat.le_of_ble_eq_true rfl⟩
theorem rm_X8_goRides_X8_cough : rmOk MX8_goRides MX8_cough := ⟨Nat.le_of_ble_eq_true rfl, Nat.le_of_ble_eq_true rfl⟩
theorem rm_X8_judge_X8_in : rmOk MX8_judge MX8_in := ⟨Nat.le_of_ble_eq_true rfl, Nat.le_of_ble_eq_true rfl⟩
theorem rm_X8_judge_X8_faultOf : rmOk MX8_judge MX8_faultOf := ⟨Nat.le_of_ble_eq_true rfl, Nat.le_of_ble_eq_true rfl⟩
theorem rm_X8_judge_X8_goRides : rmOk MX8_judge MX8_goRides := ⟨Nat.le_of_ble_eq_true rfl, Nat.le_of_ble_eq_true rfl⟩
theorem rm_X8_barOfRides_X8_faultOf : rmOk MX8_barOfRides MX8_faultOf := ⟨Nat.le_of_ble_eq_true rfl, Nat.le_of_ble_eq_true rfl⟩
theorem rm_X8_barOfRides_X8_goRides : rmOk MX8_barOfRides MX8_goRides := ⟨Nat.le_of_ble_eq_true rfl, Nat.le_of_ble_eq_true rfl⟩
theorem rm_X8_done_X8_barOfRides : rmOk MX8_done MX8_barOfRides := ⟨Nat.le_of_ble_eq_true rfl, Nat.le_of_ble_eq_true rfl⟩
theorem rm_X8_behind_X8_in : rmOk MX8_behind MX8_in := ⟨Nat.le_of_ble_eq_true rfl, Nat.le_of_ble_eq_true rfl⟩
theorem rm_X8_behind_X8_barOfRides : rmOk MX8_behind MX8_barOfRides := ⟨Nat.le_of_ble_eq_true rfl, Nat.le_of_ble_eq_true rfl⟩
theorem rm_X8_holds_X8_isRoom : rmOk MX8_holds MX8_isRoom := ⟨Nat.le_of_ble_eq_true rfl, Nat.le_of_ble_eq_true rfl⟩
theorem rm_X8_holds_X8_asNow : rmOk MX8_holds MX8_asNow := ⟨Nat.le_of_ble_eq_true rfl, Nat.le_of_ble_eq_true rfl⟩
theorem rm_X8_holds_X8_holder : rmOk MX8_holds MX8_holder := ⟨Nat.le_of_ble_eq_true rfl, Nat.le_of_ble_eq_true rfl⟩
theorem rm_X8_hears_X8_isOne : rmOk MX8_hears MX8_isOne := ⟨Nat.le_of_ble_eq_true rfl, Nat.le_of_ble_eq_true rfl⟩
theorem rm_X8_hears_X8_asNow : rmOk MX8_hears MX8_asNow := ⟨Nat.le_of_ble_eq_true rfl, Nat.le_of_ble_eq_true rfl⟩
theorem rm_X8_hears_X8_maySpeak : rmOk MX8_hears MX8_maySpeak := ⟨Nat.le_of_ble_eq_true rfl, Nat.le_of_ble_eq_true rfl⟩
theorem rm_X8_hears_X8_ridesNow : rmOk MX8_hears MX8_ridesNow := ⟨Nat.le_of_ble_eq_true rfl, Nat.le_of_ble_eq_true rfl⟩
theorem rm_X8_forecast_X8_isRoom : rmOk MX8_forecast MX8_isRoom := ⟨Nat.le_of_ble_eq_true rfl, Nat.le_of_ble_eq_true rfl⟩
theorem rm_X8_forecast_X8_in : rmOk MX8_forecast MX8_in := ⟨Nat.le_of_ble_eq_true rfl, Nat.le_of_ble_eq_true rfl⟩
theorem rm_X8_forecast_X8_asNow : rmOk MX8_forecast MX8_asNow := ⟨Nat.le_of_ble_eq_true rfl, Nat.le_of_ble_eq_true rfl⟩
theorem rm_X8_forecast_X8_pass : rmOk MX8_forecast MX8_pass := ⟨Nat.le_of_ble_eq_true rfl, Nat.le_of_ble_eq_true rfl⟩
theorem rm_X8_forecast_X8_holder : rmOk MX8_forecast MX8_holder := ⟨Nat.le_of_ble_eq_true rfl, Nat.le_of_ble_eq_true rfl⟩
theorem rm_X8_toEnd_X8_pass : rmOk MX8_toEnd MX8_pass := ⟨Nat.le_of_ble_eq_true rfl, Nat.le_of_ble_eq_true rfl⟩
theorem rm_X8_rests_X8_isOne : rmOk MX8_rests MX8_isOne := ⟨Nat.le_of_ble_eq_true rfl, Nat.le_of_ble_eq_true rfl⟩
theorem rm_X8_rests_X8_asNow : rmOk MX8_rests MX8_asNow := ⟨Nat.le_of_ble_eq_true rfl, Nat.le_of_ble_eq_true rfl⟩
theorem rm_X8_rests_X8_toEnd : rmOk MX8_rests MX8_toEnd := ⟨Nat.le_of_ble_eq_true rfl, Nat.le_of_ble_eq_true rfl⟩
theorem rm_X8_talks_X8_isOne : rmOk MX8_talks MX8_isOne := ⟨Nat.le_of_ble_eq_true rfl, Nat.le_of_ble_eq_true rfl⟩
theorem rm_X8_talks_X8_asNow : rmOk MX8_talks MX8_asNow := ⟨Nat.le_of_ble_eq_true rfl, Nat.le_of_ble_eq_true rfl⟩
theorem rm_X8_talks_X8_maySpeak : rmOk MX8_talks MX8_maySpeak := ⟨Nat.le_of_ble_eq_true rfl, Nat.le_of_ble_eq_true rfl⟩
theorem rm_X8_talks_X8_ridesNow : rmOk MX8_talks MX8_ridesNow := ⟨Nat.le_of_ble_eq_true rfl, Nat.le_of_ble_eq_true rfl⟩
theorem rm_X8_talks_X8_pass : rmOk MX8_talks MX8_pass := ⟨Nat.le_of_ble_eq_true rfl, Nat.le_of_ble_eq_true rfl⟩
theorem rm_X8_buy_X8_isOne : rmOk MX8_buy MX8_isOne := ⟨Nat.le_of_ble_eq_true rfl, Nat.le_of_ble_eq_true rfl⟩
theorem rm_X8_buy_X8_in : rmOk MX8_buy MX8_in := ⟨Nat.le_of_ble_eq_true rfl, Nat.le_of_ble_eq_true rfl⟩
theorem rm_X8_buy_X8_asNow : rmOk MX8_buy MX8_asNow := ⟨Nat.le_of_ble_eq_true rfl, Nat.le_of_ble_eq_true rfl⟩
theorem rm_X8_buy_X8_ridesNow : rmOk MX8_buy MX8_ridesNow := ⟨Nat.le_of_ble_eq_true rfl, Nat.le_of_ble_eq_true rfl⟩
theorem rm_X8_buy_X8_isTunnel : rmOk MX8_buy MX8_isTunnel := ⟨Nat.le_of_ble_eq_true rfl, Nat.le_of_ble_eq_true rfl⟩
theorem rm_X8_buy_X8_holder : rmOk MX8_buy MX8_holder := ⟨Nat.le_of_ble_eq_true rfl, Nat.le_of_ble_eq_true rfl⟩
theorem rm_X8_buy_X8_pass : rmOk MX8_buy MX8_pass := ⟨Nat.le_of_ble_eq_true rfl, Nat.le_of_ble_eq_true rfl⟩
theorem rm_X8_ridesAtAll_X8_rides : rmOk MX8_ridesAtAll MX8_rides := ⟨Nat.le_of_ble_eq_true rfl, Nat.le_of_ble_eq_true rfl⟩
theorem rm_X8_rideAtOnce_X8_rides : rmOk MX8_rideAtOnce MX8_rides := ⟨Nat.le_of_ble_eq_true rfl, Nat.le_of_ble_eq_true rfl⟩
theorem rm_X8_seats_X8_in : rmOk MX8_seats MX8_in := ⟨Nat.le_of_ble_eq_true rfl, Nat.le_of_ble_eq_true rfl⟩
theorem rm_X8_seats_X8_ridesAtAll : rmOk MX8_seats MX8_ridesAtAll := ⟨Nat.le_of_ble_eq_true rfl, Nat.le_of_ble_eq_true rfl⟩
theorem rm_X8_seats_X8_rideAtOnce : rmOk MX8_seats MX8_rideAtOnce := ⟨Nat.le_of_ble_eq_true rfl, Nat.le_of_ble_eq_true rfl⟩
theorem rm_X8_seats_X8_has : rmOk MX8_seats MX8_has := ⟨Nat.le_of_ble_eq_true rfl, Nat.le_of_ble_eq_true rfl⟩
theorem rm_X8_goWord_X8_isTunnel : rmOk MX8_goWord MX8_isTunnel := ⟨Nat.le_of_ble_eq_true rfl, Nat.le_of_ble_eq_true rfl⟩
theorem rm_X8_goWord_X8_rides : rmOk MX8_goWord MX8_rides := ⟨Nat.le_of_ble_eq_true rfl, Nat.le_of_ble_eq_true rfl⟩
theorem rm_X8_goWord_X8_has : rmOk MX8_goWord MX8_has := ⟨Nat.le_of_ble_eq_true rfl, Nat.le_of_ble_eq_true rfl⟩
theorem rm_X8_word_X8_isOne : rmOk MX8_word MX8_isOne := ⟨Nat.le_of_ble_eq_true rfl, Nat.le_of_ble_eq_true rfl⟩
theorem rm_X8_word_X8_in : rmOk MX8_word MX8_in := ⟨Nat.le_of_ble_eq_true rfl, Nat.le_of_ble_eq_true rfl⟩
theorem rm_X8_word_X8_goWord : rmOk MX8_word MX8_goWord := ⟨Nat.le_of_ble_eq_true rfl, Nat.le_of_ble_eq_true rfl⟩
theorem rm_X8_heard_X8_isOne : rmOk MX8_heard MX8_isOne := ⟨Nat.le_of_ble_eq_true rfl, Nat.le_of_ble_eq_true rfl⟩
theorem rm_X8_heard_X8_in : rmOk MX8_heard MX8_in := ⟨Nat.le_of_ble_eq_true rfl, Nat.le_of_ble_eq_true rfl⟩
theorem rm_X8_heard_X8_goWord : rmOk MX8_heard MX8_goWord := ⟨Nat.le_of_ble_eq_true rfl, Nat.le_of_ble_eq_true rfl⟩
theorem rm_X8_richest_X8_in : rmOk MX8_richest MX8_in := ⟨Nat.le_of_ble_eq_true rfl, Nat.le_of_ble_eq_true rfl⟩
theorem rm_X8_richest_X8_asNow : rmOk MX8_richest MX8_asNow := ⟨Nat.le_of_ble_eq_true rfl, Nat.le_of_ble_eq_true rfl⟩
theorem rm_X8_richest_X8_toEnd : rmOk MX8_richest MX8_toEnd := ⟨Nat.le_of_ble_eq_true rfl, Nat.le_of_ble_eq_true rfl⟩
theorem rm_X8_seen_X8_isOne : rmOk MX8_seen MX8_isOne := ⟨Nat.le_of_ble_eq_true rfl, Nat.le_of_ble_eq_true rfl⟩
theorem rm_X8_seen_X8_in : rmOk MX8_seen MX8_in := ⟨Nat.le_of_ble_eq_true rfl, Nat.le_of_ble_eq_true rfl⟩
theorem rm_X8_humSet_X8_ridesAtAll : rmOk MX8_humSet MX8_ridesAtAll := ⟨Nat.le_of_ble_eq_true rfl, Nat.le_of_ble_eq_true rfl⟩
theorem rm_X8_humSet_X8_rides : rmOk MX8_humSet MX8_rides := ⟨Nat.le_of_ble_eq_true rfl, Nat.le_of_ble_eq_true rfl⟩
theorem rm_X8_hum_X8_humSet : rmOk MX8_hum MX8_humSet := ⟨Nat.le_of_ble_eq_true rfl, Nat.le_of_ble_eq_true rfl⟩
theorem rm_X8_watch_X8_in : rmOk MX8_watch MX8_in := ⟨Nat.le_of_ble_eq_true rfl, Nat.le_of_ble_eq_true rfl⟩
theorem rm_X8_watch_X8_humSet : rmOk MX8_watch MX8_humSet := ⟨Nat.le_of_ble_eq_true rfl, Nat.le_of_ble_eq_true rfl⟩
theorem rm_X8_watch_X8_has : rmOk MX8_watch MX8_has := ⟨Nat.le_of_ble_eq_true rfl, Nat.le_of_ble_eq_true rfl⟩
theorem rm_X8_watch_X8_rides : rmOk MX8_watch MX8_rides := ⟨Nat.le_of_ble_eq_true rfl, Nat.le_of_ble_eq_true rfl⟩
theorem rm_X8_watch_X8_bits : rmOk MX8_watch MX8_bits := ⟨Nat.le_of_ble_eq_true rfl, Nat.le_of_ble_eq_true rfl⟩
theorem rm_X8_auction_X8_in : rmOk MX8_auction MX8_in := ⟨Nat.le_of_ble_eq_true rfl, Nat.le_of_ble_eq_true rfl⟩
theorem rm_X8_coughs_X8_isRoom : rmOk MX8_coughs MX8_isRoom := ⟨Nat.le_of_ble_eq_true rfl, Nat.le_of_ble_eq_true rfl⟩
theorem rm_X8_coughs_X8_in : rmOk MX8_coughs MX8_in := ⟨Nat.le_of_ble_eq_true rfl, Nat.le_of_ble_eq_true rfl⟩
theorem rm_X8_coughs_X8_asNow : rmOk MX8_coughs MX8_asNow := ⟨Nat.le_of_ble_eq_true rfl, Nat.le_of_ble_eq_true rfl⟩
theorem rm_X8_coughs_X8_holder : rmOk MX8_coughs MX8_holder := ⟨Nat.le_of_ble_eq_true rfl, Nat.le_of_ble_eq_true rfl⟩
theorem rm_X8_coughs_X8_ridesNow : rmOk MX8_coughs MX8_ridesNow := ⟨Nat.le_of_ble_eq_true rfl, Nat.le_of_ble_eq_true rfl⟩
theorem rm_X8_coughs_X8_pass : rmOk MX8_coughs MX8_pass := ⟨Nat.le_of_ble_eq_true rfl, Nat.le_of_ble_eq_true rfl⟩
theorem rm_X8_year_X8_in : rmOk MX8_year MX8_in := ⟨Nat.le_of_ble_eq_true rfl, Nat.le_of_ble_eq_true rfl⟩
theorem rm_X8_year_X8_asNow : rmOk MX8_year MX8_asNow := ⟨Nat.le_of_ble_eq_true rfl, Nat.le_of_ble_eq_true rfl⟩
theorem rm_X8_year_X8_pass : rmOk MX8_year MX8_pass := ⟨Nat.le_of_ble_eq_true rfl, Nat.le_of_ble_eq_true rfl⟩
theorem rm_X8_year_X8_ridesNow : rmOk MX8_year MX8_ridesNow := ⟨Nat.le_of_ble_eq_true rfl, Nat.le_of_ble_eq_true rfl⟩
theorem rm_X8_year_X8_cough : rmOk MX8_year MX8_cough := ⟨Nat.le_of_ble_eq_true rfl, Nat.le_of_ble_eq_true rfl⟩
theorem rm_X8_image_X8_in : rmOk MX8_image MX8_in := ⟨Nat.le_of_ble_eq_true rfl, Nat.le_of_ble_eq_true rfl⟩
theorem rm_X8_restore_X8_in : rmOk MX8_restore MX8_in := ⟨Nat.le_of_ble_eq_true rfl, Nat.le_of_ble_eq_true rfl⟩
theorem rm_X8_told_X8_isOne : rmOk MX8_told MX8_isOne := ⟨Nat.le_of_ble_eq_true rfl, Nat.le_of_ble_eq_true rfl⟩
