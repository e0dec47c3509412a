abbrev St : Type := Nat → Nat → Int32
abbrev Sh : Type := (Nat × List (Option Nat)) ⊕ (Nat × Bool)
/-- the world: objects (class, fields: a place, or an int), arrays (length, of booleans?) -/
def shL : List Sh := [.inl (7, [some 1, some 7, some 13, some 15, some 16, some 19, some 21, some 22, some 32]), .inl (5, [none, none, none, none, none, none, some 2, some 3, some 4, some 5, some 6]), .inr (6, false), .inr (6, false), .inr (6, false), .inr (6, false), .inr (6, false), .inl (5, [none, none, none, none, none, none, some 8, some 9, some 10, some 11, some 12]), .inr (6, false), .inr (6, false), .inr (6, false), .inr (6, false), .inr (6, false), .inl (1, [some 14, none]), .inr (60, false), .inl (6, [none, none]), .inl (4, [some 17, some 18, none]), .inr (8, false), .inr (8, false), .inl (3, [none, none, none, some 20]), .inr (6, false), .inl (2, [none, none, none]), .inl (0, [none, some 23, some 29]), .inl (5, [none, none, none, none, none, none, some 24, some 25, some 26, some 27, some 28]), .inr (6, false), .inr (6, false), .inr (6, false), .inr (6, false), .inr (6, false), .inl (4, [some 30, some 31, none]), .inr (8, false), .inr (8, false), .inl (0, [none, some 33, some 39]), .inl (5, [none, none, none, none, none, none, some 34, some 35, some 36, some 37, some 38]), .inr (6, false), .inr (6, false), .inr (6, false), .inr (6, false), .inr (6, false), .inl (4, [some 40, some 41, none]), .inr (8, false), .inr (8, false), .inl (8, [none, none, some 43, some 44, some 45, some 46, some 47, none, none, none, none, some 48, none, some 49, some 50, some 51, none, none, none, some 52, some 53, none, none, none, some 54, some 55, some 56]), .inr (6, false), .inr (6, false), .inr (6, false), .inr (6, false), .inr (6, false), .inr (16, false), .inr (60, false), .inr (6, false), .inr (6, false), .inr (6, false), .inr (3, false), .inr (21, false), .inr (140, false), .inr (2, true)]
def sh (p : Nat) : Sh := shL.getD p (.inr (0, false))
theorem sh_0 : sh 0 = .inl (7, [some 1, some 7, some 13, some 15, some 16, some 19, some 21, some 22, some 32]) := rfl
theorem sh_1 : sh 1 = .inl (5, [none, none, none, none, none, none, some 2, some 3, some 4, some 5, some 6]) := rfl
theorem sh_2 : sh 2 = .inr (6, false) := rfl
theorem sh_3 : sh 3 = .inr (6, false) := rfl
theorem sh_4 : sh 4 = .inr (6, false) := rfl
theorem sh_5 : sh 5 = .inr (6, false) := rfl
theorem sh_6 : sh 6 = .inr (6, false) := rfl
theorem sh_7 : sh 7 = .inl (5, [none, none, none, none, none, none, some 8, some 9, some 10, some 11, some 12]) := rfl
theorem sh_8 : sh 8 = .inr (6, false) := rfl
theorem sh_9 : sh 9 = .inr (6, false) := rfl
theorem sh_10 : sh 10 = .inr (6, false) := rfl
theorem sh_11 : sh 11 = .inr (6, false) := rfl
theorem sh_12 : sh 12 = .inr (6, false) := rfl
theorem sh_13 : sh 13 = .inl (1, [some 14, none]) := rfl
theorem sh_14 : sh 14 = .inr (60, false) := rfl
theorem sh_15 : sh 15 = .inl (6, [none, none]) := rfl
theorem sh_16 : sh 16 = .inl (4, [some 17, some 18, none]) := rfl
theorem sh_17 : sh 17 = .inr (8, false) := rfl
theorem sh_18 : sh 18 = .inr (8, false) := rfl
theorem sh_19 : sh 19 = .inl (3, [none, none, none, some 20]) := rfl
theorem sh_20 : sh 20 = .inr (6, false) := rfl
theorem sh_21 : sh 21 = .inl (2, [none, none, none]) := rfl
theorem sh_22 : sh 22 = .inl (0, [none, some 23, some 29]) := rfl
theorem sh_23 : sh 23 = .inl (5, [none, none, none, none, none, none, some 24, some 25, some 26, some 27, some 28]) := rfl
theorem sh_24 : sh 24 = .inr (6, false) := rfl
theorem sh_25 : sh 25 = .inr (6, false) := rfl
theorem sh_26 : sh 26 = .inr (6, false) := rfl
theorem sh_27 : sh 27 = .inr (6, false) := rfl
theorem sh_28 : sh 28 = .inr (6, false) := rfl
theorem sh_29 : sh 29 = .inl (4, [some 30, some 31, none]) := rfl
theorem sh_30 : sh 30 = .inr (8, false) := rfl
theorem sh_31 : sh 31 = .inr (8, false) := rfl
theorem sh_32 : sh 32 = .inl (0, [none, some 33, some 39]) := rfl
theorem sh_33 : sh 33 = .inl (5, [none, none, none, none, none, none, some 34, some 35, some 36, some 37, some 38]) := rfl
theorem sh_34 : sh 34 = .inr (6, false) := rfl
theorem sh_35 : sh 35 = .inr (6, false) := rfl
theorem sh_36 : sh 36 = .inr (6, false) := rfl
theorem sh_37 : sh 37 = .inr (6, false) := rfl
theorem sh_38 : sh 38 = .inr (6, false) := rfl
theorem sh_39 : sh 39 = .inl (4, [some 40, some 41, none]) := rfl
theorem sh_40 : sh 40 = .inr (8, false) := rfl
theorem sh_41 : sh 41 = .inr (8, false) := rfl
theorem sh_42 : sh 42 = .inl (8, [none, none, some 43, some 44, some 45, some 46, some 47, none, none, none, none, some 48, none, some 49, some 50, some 51, none, none, none, some 52, some 53, none, none, none, some 54, some 55, some 56]) := rfl
theorem sh_43 : sh 43 = .inr (6, false) := rfl
theorem sh_44 : sh 44 = .inr (6, false) := rfl
theorem sh_45 : sh 45 = .inr (6, false) := rfl
theorem sh_46 : sh 46 = .inr (6, false) := rfl
theorem sh_47 : sh 47 = .inr (6, false) := rfl
theorem sh_48 : sh 48 = .inr (16, false) := rfl
theorem sh_49 : sh 49 = .inr (60, false) := rfl
theorem sh_50 : sh 50 = .inr (6, false) := rfl
theorem sh_51 : sh 51 = .inr (6, false) := rfl
theorem sh_52 : sh 52 = .inr (6, false) := rfl
theorem sh_53 : sh 53 = .inr (3, false) := rfl
theorem sh_54 : sh 54 = .inr (21, false) := rfl
theorem sh_55 : sh 55 = .inr (140, false) := rfl
theorem sh_56 : sh 56 = .inr (2, true) := rfl
theorem sh_lt {p : Nat} (h : sh p ≠ .inr (0, false)) : p < 57 := by
  rcases Nat.lt_or_ge p 57 with q | q
  · exact q
  · exact absurd (by unfold sh; rw [List.getD_eq_getElem?_getD, List.getElem?_eq_none (show shL.length ≤ p from q)]; rfl) h
def ups (σ : St) (p i : Nat) (x : Int32) : St := fun q j => if q = p then (if j = i then x else σ q j) else σ q j
theorem ups_at (σ : St) (p i : Nat) (x : Int32) : ups σ p i x p = upd (σ p) i x := by funext j; simp [ups, upd]
theorem ups_ne (σ : St) {p q : Nat} (i : Nat) (x : Int32) (h : q ≠ p) : ups σ p i x q = σ q := by funext j; simp [ups, h]
def cv (ad : Nat → Nat) : Value → Value
  | .ref p => .ref (ad p)
  | v => v
theorem cv_cat (ad : Nat → Nat) (v : Value) : (cv ad v).category = v.category := by cases v <;> rfl
def fv (ad : Nat → Nat) (f : Nat → Int32) : List (Option Nat) → Nat → List Value
  | [], _ => []
  | none :: r, i => .int (f i) :: fv ad f r (i + 1)
  | some q :: r, i => .ref (ad q) :: fv ad f r (i + 1)
theorem fv_at (ad : Nat → Nat) (f : Nat → Int32) : ∀ (ks : List (Option Nat)) (i j : Nat), (fv ad f ks i)[j]? = (ks[j]?).map (fun o => match o with | none => Value.int (f (i + j)) | some q => .ref (ad q))
  | [], i, j => by simp [fv]
  | none :: r, i, 0 => by simp [fv]
  | some q :: r, i, 0 => by simp [fv]
  | none :: r, i, j + 1 => by simp [fv, fv_at ad f r (i + 1) j, Nat.add_assoc, Nat.add_comm 1 j]
  | some q :: r, i, j + 1 => by simp [fv, fv_at ad f r (i + 1) j, Nat.add_assoc, Nat.add_comm 1 j]
theorem fv_len (ad : Nat → Nat) (f : Nat → Int32) : ∀ (ks : List (Option Nat)) (i : Nat), (fv ad f ks i).length = ks.length
  | [], i => rfl
  | none :: r, i => by simp [fv, fv_len ad f r (i + 1)]
  | some q :: r, i => by simp [fv, fv_len ad f r (i + 1)]
theorem fv_set (ad : Nat → Nat) (f : Nat → Int32) (ks : List (Option Nat)) (j : Nat) (x : Int32) (h : ks[j]? = some none) : (fv ad f ks 0).set j (.int x) = fv ad (upd f j x) ks 0 := by
  apply List.ext_getElem?
  intro n
  rw [List.getElem?_set, fv_at, fv_at]
  by_cases hn : j = n
  · subst hn
    have hl : j < ks.length := (List.getElem?_eq_some_iff.mp h).1
    have h2 : ks[j] = none := (List.getElem?_eq_some_iff.mp h).2
    simp [fv_len, hl, h2, upd]
  · rw [if_neg hn]
    cases hk : ks[n]? with
    | none => rfl
    | some o => cases o with
      | none => simp [upd, Ne.symm hn]
      | some q => rfl
def ent (ad : Nat → Nat) (cA : Nat → ClassId) (σ : St) (p : Nat) : va_E := match sh p with
  | .inl (ci, ks) => .inr (ci, fv ad (σ p) ks 0)
  | .inr (n, _) => .inl (cA p, n, .inl (σ p))
def wl (ad : Nat → Nat) (cA : Nat → ClassId) (σ : St) : va_W := (List.range 57).map (fun p => (ad p, ent ad cA σ p))
def tyl (cA : Nat → ClassId) : List (ClassId × FieldType) := (List.range 57).map (fun p => (cA p, match sh p with | .inr (_, true) => .boolean | _ => .int))
theorem wl_at {ad : Nat → Nat} {cA : Nat → ClassId} {σ : St} {p : Nat} (h : p < 57) : (wl ad cA σ)[p]? = some (ad p, ent ad cA σ p) := by
  simp [wl, h]
theorem wl_len (ad : Nat → Nat) (cA : Nat → ClassId) (σ : St) : (wl ad cA σ).length = 57 := by simp [wl]
theorem wl_obj {ad : Nat → Nat} {cA : Nat → ClassId} {σ : St} {p ci : Nat} {ks : List (Option Nat)} (h : sh p = .inl (ci, ks)) : (wl ad cA σ)[p]? = some (ad p, .inr (ci, fv ad (σ p) ks 0)) := by
  rw [wl_at (sh_lt (by rw [h]; simp))]; simp only [ent, h]
theorem wl_arr {ad : Nat → Nat} {cA : Nat → ClassId} {σ : St} {p n : Nat} {b : Bool} (h : sh p = .inr (n, b)) (hn : 0 < n) : (wl ad cA σ)[p]? = some (ad p, .inl (cA p, n, .inl (σ p))) := by
  rw [wl_at (sh_lt (by rw [h]; intro e; cases e; omega))]; simp only [ent, h]
theorem ty_arr {cA : Nat → ClassId} {p n : Nat} (h : sh p = .inr (n, false)) (hn : 0 < n) : (tyl cA)[p]? = some (cA p, .int) := by
  have hp : p < 57 := sh_lt (by rw [h]; intro e; cases e; omega)
  simp [tyl, hp, h]
theorem ty_arrZ {cA : Nat → ClassId} {p n : Nat} (h : sh p = .inr (n, true)) : (tyl cA)[p]? = some (cA p, .boolean) := by
  have hp : p < 57 := sh_lt (by rw [h]; intro e; cases e)
  simp [tyl, hp, h]
theorem wl_set {ad : Nat → Nat} {cA : Nat → ClassId} {σ : St} {p i : Nat} {x : Int32} {e : va_E} (he : ent ad cA (ups σ p i x) p = e) : (wl ad cA σ).set p (ad p, e) = wl ad cA (ups σ p i x) := by
  apply List.ext_getElem?
  intro n
  rw [List.getElem?_set, wl_len]
  by_cases hn : p = n
  · subst hn
    by_cases hp : p < 57
    · rw [if_pos rfl, if_pos hp, wl_at hp, he]
    · rw [if_pos rfl, if_neg hp, List.getElem?_eq_none (by rw [wl_len]; omega)]
  · rw [if_neg hn]
    by_cases hq : n < 57
    · rw [wl_at hq, wl_at hq]
      simp only [ent, ups_ne σ i x (Ne.symm hn)]
    · rw [List.getElem?_eq_none (by rw [wl_len]; omega), List.getElem?_eq_none (by rw [wl_len]; omega)]
theorem wl_putO {ad : Nat → Nat} {cA : Nat → ClassId} {σ : St} {p ci j : Nat} {ks : List (Option Nat)} {x : Int32} (h : sh p = .inl (ci, ks)) (hj : ks[j]? = some none) : (wl ad cA σ).set p (ad p, .inr (ci, (fv ad (σ p) ks 0).set j (.int x))) = wl ad cA (ups σ p j x) := by
  refine wl_set ?_
  simp only [ent, h, ups_at, fv_set ad (σ p) ks j x hj]
theorem wl_putA {ad : Nat → Nat} {cA : Nat → ClassId} {σ : St} {p n i : Nat} {b : Bool} {x : Int32} (h : sh p = .inr (n, b)) : (wl ad cA σ).set p (ad p, .inl (cA p, n, .inl (upd (σ p) i x))) = wl ad cA (ups σ p i x) := by
  refine wl_set ?_
  simp only [ent, h, ups_at]
/-! locals -/
def lvl (ad : Nat → Nat) : Nat → List (Option Value) → List (Nat × Value)
  | _, [] => []
  | i, none :: r => lvl ad (i + 1) r
  | i, some v :: r => (i, cv ad v) :: lvl ad (i + 1) r
theorem lvl_mem {ad : Nat → Nat} : ∀ {ls : List (Option Value)} {i : Nat} {q : Nat × Value}, q ∈ lvl ad i ls → ∃ (k : Nat) (v : Value), ls[k]? = some (some v) ∧ q = (i + k, cv ad v)
  | [], i, q, h => by simp [lvl] at h
  | none :: r, i, q, h => by
    obtain ⟨k, v, h1, h2⟩ := lvl_mem (ls := r) (i := i + 1) h
    exact ⟨k + 1, v, by simpa using h1, by rw [h2]; congr 1; omega⟩
  | some w :: r, i, q, h => by
    rcases List.mem_cons.mp h with h | h
    · exact ⟨0, w, by simp, by rw [h]; rfl⟩
    · obtain ⟨k, v, h1, h2⟩ := lvl_mem (ls := r) (i := i + 1) h
      exact ⟨k + 1, v, by simpa using h1, by rw [h2]; congr 1; omega⟩
theorem lvl_in {ad : Nat → Nat} : ∀ {ls : List (Option Value)} {i k : Nat} {v : Value}, ls[k]? = some (some v) → (i + k, cv ad v) ∈ lvl ad i ls
  | [], i, k, v, h => by simp at h
  | none :: r, i, 0, v, h => by simp at h
  | none :: r, i, k + 1, v, h => by
    have := lvl_in (ad := ad) (ls := r) (i := i + 1) (k := k) (v := v) (by simpa using h)
    rw [show i + (k + 1) = i + 1 + k by omega]
    exact this
  | some w :: r, i, 0, v, h => by
    simp at h
    subst h
    exact List.mem_cons_self
  | some w :: r, i, k + 1, v, h => by
    have := lvl_in (ad := ad) (ls := r) (i := i + 1) (k := k) (v := v) (by simpa using h)
    rw [show i + (k + 1) = i + 1 + k by omega]
    exact List.mem_cons_of_mem _ this
theorem lv_mono {ls : Array Slot} {n : Nat} {l l' : List (Nat × Value)} (h : lv_has ls n l) (hl : ∀ q ∈ l', q ∈ l) : lv_has ls n l' := ⟨h.1, h.2.1, fun q hq => h.2.2 q (hl q hq)⟩
def nlg : Option Value → Bool
  | some (.long _) => false
  | some (.double _) => false
  | _ => true
theorem nlg_cat {v : Value} (h : nlg (some v) = true) : ¬ v.category = 2 := by cases v <;> simp [nlg, Value.category] at h ⊢
/-- the value ahead of place i is no long -/
def nlp (ls : List (Option Value)) (i : Nat) : Bool := match i with
  | 0 => true
  | j + 1 => nlg ((ls[j]?).getD none)
theorem st_mem {ad : Nat → Nat} {ls : List (Option Value)} {i : Nat} {v : Value} (hi : i < ls.length) (hp : nlp ls i = true) : ∀ q ∈ lvl ad 0 (ls.set i (some v)), q ∈ (i, cv ad v) :: (lvl ad 0 ls).filter (fun q => !(q.1 == i) && !(q.1 + 1 == i && q.2.category == 2)) := by
  intro q hq
  obtain ⟨k, w, h1, h2⟩ := lvl_mem hq
  rw [Nat.zero_add] at h2
  by_cases hk : k = i
  · subst hk
    rw [List.getElem?_set_self hi] at h1
    cases h1
    rw [h2]
    exact List.mem_cons_self
  · rw [List.getElem?_set_ne (Ne.symm hk)] at h1
    refine List.mem_cons_of_mem _ (List.mem_filter.mpr ⟨?_, ?_⟩)
    · rw [h2]
      have := lvl_in (ad := ad) (i := 0) h1
      rwa [Nat.zero_add] at this
    · rw [h2]
      simp only [Bool.and_eq_true, Bool.not_eq_true', beq_eq_false_iff_ne, ne_eq, hk, not_false_eq_true, true_and]
      rw [Bool.eq_false_iff]
      intro hc
      simp only [Bool.and_eq_true, beq_iff_eq] at hc
      obtain ⟨c1, c2⟩ := hc
      subst c1
      rw [cv_cat] at c2
      have hp2 : nlg ((ls[k]?).getD none) = true := hp
      rw [h1] at hp2
      exact nlg_cat hp2 c2
theorem st_mem2 {ad : Nat → Nat} {ls : List (Option Value)} {i : Nat} {v : Value} (hi : i + 1 < ls.length) (hp : nlp ls i = true) : ∀ q ∈ lvl ad 0 ((ls.set i (some v)).set (i + 1) none), q ∈ (i, cv ad v) :: (lvl ad 0 ls).filter (fun q => !(q.1 == i) && (!(q.1 == i + 1) && !(q.1 + 1 == i && q.2.category == 2))) := by
  intro q hq
  obtain ⟨k, w, h1, h2⟩ := lvl_mem hq
  rw [Nat.zero_add] at h2
  by_cases hk1 : k = i + 1
  · subst hk1
    rw [List.getElem?_set_self (by simpa using hi)] at h1
    cases h1
  · rw [List.getElem?_set_ne (Ne.symm hk1)] at h1
    by_cases hk : k = i
    · subst hk
      rw [List.getElem?_set_self (by omega)] at h1
      cases h1
      rw [h2]
      exact List.mem_cons_self
    · rw [List.getElem?_set_ne (Ne.symm hk)] at h1
      refine List.mem_cons_of_mem _ (List.mem_filter.mpr ⟨?_, ?_⟩)
      · rw [h2]
        have := lvl_in (ad := ad) (i := 0) h1
        rwa [Nat.zero_add] at this
      · rw [h2]
        simp only [Bool.and_eq_true, Bool.not_eq_true', beq_eq_false_iff_ne, ne_eq, hk, hk1, not_false_eq_true, true_and]
        rw [Bool.eq_false_iff]
        intro hc
        simp only [Bool.and_eq_true, beq_iff_eq] at hc
        obtain ⟨c1, c2⟩ := hc
        subst c1
        rw [cv_cat] at c2
        have hp2 : nlg ((ls[k]?).getD none) = true := hp
        rw [h1] at hp2
        exact nlg_cat hp2 c2
/-! the judgement -/
abbrev Gt : Type := (Program × Launch × Env × Room × State × MethodId × Array Value × List Frame × Method × Code) × va_G × (Nat → Nat) × (Nat → ClassId) × (Nat → Prop) × (Nat × Nat) × (State → Prop)
def Nst (U : State) : Prop := ∀ w ∈ nst, va_Nw w U
def CX (g : Gt) (M : Mt) : Prop := match g with
  | ((p, l, e, R, s, m, args, below, meth, c), D, ad, cA, A, (kc, ks), Q) => p.tables.exec = Jvm.exec ∧ c.code = mC M ∧ c.maxLocals = mL M ∧ s.vm.findClass (mY M).cls = some m.cls ∧ (∀ w ∈ lw_gd, w.before args s = true) ∧ Nst s ∧ va_K D cls (tyl cA) s ∧ (∀ q, s.heap.size ≤ q → A q) ∧ (mF M ≤ R.frames ∧ mO M ≤ R.locals) ∧ (kc ≤ R.cells ∧ ks ≤ R.slots)
def ZW (g : Gt) (pc : Nat) (ls : List (Option Value)) (st : List Value) (σ : St) : Prop := match g with
  | ((p, l, e, R, s, m, args, below, meth, c), D, ad, cA, A, (kc, ks), Q) => ∀ (H : Heap) (locs : List Loc) (lsa : Array Slot), va_P D cls (wl ad cA σ) H → va_D A (wl ad cA σ) → va_S A s.heap H locs → ls.length = c.maxLocals → lv_has lsa c.maxLocals (lvl ad 0 ls) → W p l e R s m args below meth c H locs kc ks Q (F0 m pc lsa (st.map (cv ad)))
/-- a row of the code: what stands at pc, how long it is, where the next one is -/
def Dc (M : Mt) (pc pc1 : Nat) (i : Instr) (len : Nat) : Prop := decode (mC M) pc = .ok (i, len) ∧ pc + len = pc1
theorem lvl_at {ad : Nat → Nat} {ls : List (Option Value)} {lsa : Array Slot} {n i : Nat} {v : Value} (h : lv_has lsa n (lvl ad 0 ls)) (hi : ls[i]? = some (some v)) : lsa[i]? = some (.val (cv ad v)) := by
  have h1 := lvl_in (ad := ad) (i := 0) hi
  rw [Nat.zero_add] at h1
  exact h.2.2 _ h1
section ZR
variable {g : Gt} {M : Mt} {pc pc1 i : Nat} {ls : List (Option Value)} {st : List Value} {σ : St}
theorem zw_iloadn {x : Int32} (X : CX g M) {q : Fin 4} (hq : (q : Nat) = i) (d : Dc M pc pc1 (.iload_n q) 1) (hl : ls[i]? = some (some (.int x))) (k : ZW g pc1 ls (.int x :: st) σ) : ZW g pc ls st σ := by
  obtain ⟨⟨p, l, e, R, s, m, args, below, meth, c⟩, D, ad, cA, A, ⟨kc, ks⟩, Q⟩ := g
  obtain ⟨hx, hb, -⟩ := X
  obtain ⟨d1, rfl⟩ := d
  intro H locs lsa hP hD hS hn hh
  exact lv_iload_n hx hb d1 hq (lvl_at hh hl) (k H locs lsa hP hD hS hn hh)
theorem zw_iload {x : Int32} (X : CX g M) (d : Dc M pc pc1 (.iload i) 2) (hl : ls[i]? = some (some (.int x))) (k : ZW g pc1 ls (.int x :: st) σ) : ZW g pc ls st σ := by
  obtain ⟨⟨p, l, e, R, s, m, args, below, meth, c⟩, D, ad, cA, A, ⟨kc, ks⟩, Q⟩ := g
  obtain ⟨hx, hb, -⟩ := X
  obtain ⟨d1, rfl⟩ := d
  intro H locs lsa hP hD hS hn hh
  exact lv_iload hx hb d1 (lvl_at hh hl) (k H locs lsa hP hD hS hn hh)
theorem zw_lloadn {x : Int64} (X : CX g M) {q : Fin 4} (hq : (q : Nat) = i) (d : Dc M pc pc1 (.lload_n q) 1) (hl : ls[i]? = some (some (.long x))) (k : ZW g pc1 ls (.long x :: st) σ) : ZW g pc ls st σ := by
  obtain ⟨⟨p, l, e, R, s, m, args, below, meth, c⟩, D, ad, cA, A, ⟨kc, ks⟩, Q⟩ := g
  obtain ⟨hx, hb, -⟩ := X
  obtain ⟨d1, rfl⟩ := d
  intro H locs lsa hP hD hS hn hh
  exact lv_lload_n hx hb d1 hq (lvl_at hh hl) (k H locs lsa hP hD hS hn hh)
theorem zw_lload {x : Int64} (X : CX g M) (d : Dc M pc pc1 (.lload i) 2) (hl : ls[i]? = some (some (.long x))) (k : ZW g pc1 ls (.long x :: st) σ) : ZW g pc ls st σ := by
  obtain ⟨⟨p, l, e, R, s, m, args, below, meth, c⟩, D, ad, cA, A, ⟨kc, ks⟩, Q⟩ := g
  obtain ⟨hx, hb, -⟩ := X
  obtain ⟨d1, rfl⟩ := d
  intro H locs lsa hP hD hS hn hh
  exact lv_lload hx hb d1 (lvl_at hh hl) (k H locs lsa hP hD hS hn hh)
theorem zw_aloadn {x : Nat} (X : CX g M) {q : Fin 4} (hq : (q : Nat) = i) (d : Dc M pc pc1 (.aload_n q) 1) (hl : ls[i]? = some (some (.ref x))) (k : ZW g pc1 ls (.ref x :: st) σ) : ZW g pc ls st σ := by
  obtain ⟨⟨p, l, e, R, s, m, args, below, meth, c⟩, D, ad, cA, A, ⟨kc, ks⟩, Q⟩ := g
  obtain ⟨hx, hb, -⟩ := X
  obtain ⟨d1, rfl⟩ := d
  intro H locs lsa hP hD hS hn hh
  exact lv_aload_n hx hb d1 hq (lvl_at hh hl) (k H locs lsa hP hD hS hn hh)
theorem zw_istoren {x : Int32} (X : CX g M) {q : Fin 4} (hq : (q : Nat) = i) (d : Dc M pc pc1 (.istore_n q) 1) (hi : i < ls.length) (hp : nlp ls i = true) (k : ZW g pc1 (ls.set i (some (.int x))) st σ) : ZW g pc ls (.int x :: st) σ := by
  obtain ⟨⟨p, l, e, R, s, m, args, below, meth, c⟩, D, ad, cA, A, ⟨kc, ks⟩, Q⟩ := g
  obtain ⟨hx, hb, -⟩ := X
  obtain ⟨d1, rfl⟩ := d
  intro H locs lsa hP hD hS hn hh
  exact lv_istore_n hx hb d1 hq hh (by rw [← hn]; exact hi) rfl (fun ls' h' => k H locs ls' hP hD hS (by rw [List.length_set]; exact hn) (lv_mono h' (st_mem hi hp)))
theorem zw_istore {x : Int32} (X : CX g M) (d : Dc M pc pc1 (.istore i) 2) (hi : i < ls.length) (hp : nlp ls i = true) (k : ZW g pc1 (ls.set i (some (.int x))) st σ) : ZW g pc ls (.int x :: st) σ := by
  obtain ⟨⟨p, l, e, R, s, m, args, below, meth, c⟩, D, ad, cA, A, ⟨kc, ks⟩, Q⟩ := g
  obtain ⟨hx, hb, -⟩ := X
  obtain ⟨d1, rfl⟩ := d
  intro H locs lsa hP hD hS hn hh
  exact lv_istore hx hb d1 hh (by rw [← hn]; exact hi) rfl (fun ls' h' => k H locs ls' hP hD hS (by rw [List.length_set]; exact hn) (lv_mono h' (st_mem hi hp)))
theorem zw_astoren {x : Nat} (X : CX g M) {q : Fin 4} (hq : (q : Nat) = i) (d : Dc M pc pc1 (.astore_n q) 1) (hi : i < ls.length) (hp : nlp ls i = true) (k : ZW g pc1 (ls.set i (some (.ref x))) st σ) : ZW g pc ls (.ref x :: st) σ := by
  obtain ⟨⟨p, l, e, R, s, m, args, below, meth, c⟩, D, ad, cA, A, ⟨kc, ks⟩, Q⟩ := g
  obtain ⟨hx, hb, -⟩ := X
  obtain ⟨d1, rfl⟩ := d
  intro H locs lsa hP hD hS hn hh
  exact lv_astore_n hx hb d1 hq hh (by rw [← hn]; exact hi) rfl (fun ls' h' => k H locs ls' hP hD hS (by rw [List.length_set]; exact hn) (lv_mono h' (st_mem (v := .ref x) hi hp)))
theorem zw_lstoren {x : Int64} (X : CX g M) {q : Fin 4} (hq : (q : Nat) = i) (d : Dc M pc pc1 (.lstore_n q) 1) (hi : i + 1 < ls.length) (hp : nlp ls i = true) (k : ZW g pc1 ((ls.set i (some (.long x))).set (i + 1) none) st σ) : ZW g pc ls (.long x :: st) σ := by
  obtain ⟨⟨p, l, e, R, s, m, args, below, meth, c⟩, D, ad, cA, A, ⟨kc, ks⟩, Q⟩ := g
  obtain ⟨hx, hb, -⟩ := X
  obtain ⟨d1, rfl⟩ := d
  intro H locs lsa hP hD hS hn hh
  exact lv_lstore_n hx hb d1 hq hh (by rw [← hn]; exact hi) rfl (fun ls' h' => k H locs ls' hP hD hS (by rw [List.length_set, List.length_set]; exact hn) (lv_mono h' (st_mem2 hi hp)))
theorem zw_lstore {x : Int64} (X : CX g M) (d : Dc M pc pc1 (.lstore i) 2) (hi : i + 1 < ls.length) (hp : nlp ls i = true) (k : ZW g pc1 ((ls.set i (some (.long x))).set (i + 1) none) st σ) : ZW g pc ls (.long x :: st) σ := by
  obtain ⟨⟨p, l, e, R, s, m, args, below, meth, c⟩, D, ad, cA, A, ⟨kc, ks⟩, Q⟩ := g
  obtain ⟨hx, hb, -⟩ := X
  obtain ⟨d1, rfl⟩ := d
  intro H locs lsa hP hD hS hn hh
  exact lv_lstore hx hb d1 hh (by rw [← hn]; exact hi) rfl (fun ls' h' => k H locs ls' hP hD hS (by rw [List.length_set, List.length_set]; exact hn) (lv_mono h' (st_mem2 hi hp)))
theorem lvl_place {ad : Nat → Nat} {ls : List (Option Value)} {k : Nat} {v : Value} (h : ls[k]? = some (some v)) : ∃ j : Nat, (lvl ad 0 ls)[j]? = some (k, cv ad v) := by
  have h1 := lvl_in (ad := ad) (i := 0) h
  rw [Nat.zero_add] at h1
  exact List.getElem?_of_mem h1
theorem zw_iinc {x v : Int32} {n : Int} (X : CX g M) (d : Dc M pc pc1 (.iinc i n) 3) (hl : ls[i]? = some (some (.int x))) (hv : x + Int32.ofInt n = v) (hi : i < ls.length) (hp : nlp ls i = true) (k : ZW g pc1 (ls.set i (some (.int v))) st σ) : ZW g pc ls st σ := by
  obtain ⟨⟨p, l, e, R, s, m, args, below, meth, c⟩, D, ad, cA, A, ⟨kc, ks⟩, Q⟩ := g
  obtain ⟨hx, hb, -⟩ := X
  obtain ⟨d1, rfl⟩ := d
  intro H locs lsa hP hD hS hn hh
  obtain ⟨j, hj⟩ := lvl_place (ad := ad) hl
  exact lv_iinc hx hb d1 hh hj hv (by rw [← hn]; exact hi) rfl (fun ls' h' => k H locs ls' hP hD hS (by rw [List.length_set]; exact hn) (lv_mono h' (st_mem hi hp)))
end ZR

theorem zw_iload_0 {g : Gt} {M : Mt} {pc pc1 : Nat} {st : List Value} {σ : St} {x : Int32} {r : List (Option Value)} (X : CX g M) (d : Dc M pc pc1 (.iload_n 0) 1) (k : ZW g pc1 (some (.int x) :: r) (.int x :: st) σ) : ZW g pc (some (.int x) :: r) st σ := zw_iloadn (i := 0) X (q := 0) rfl d rfl k
theorem zw_lload_0 {g : Gt} {M : Mt} {pc pc1 : Nat} {st : List Value} {σ : St} {x : Int64} {r : List (Option Value)} (X : CX g M) (d : Dc M pc pc1 (.lload_n 0) 1) (k : ZW g pc1 (some (.long x) :: r) (.long x :: st) σ) : ZW g pc (some (.long x) :: r) st σ := zw_lloadn (i := 0) X (q := 0) rfl d rfl k
theorem zw_aload_0 {g : Gt} {M : Mt} {pc pc1 : Nat} {st : List Value} {σ : St} {x : Nat} {r : List (Option Value)} (X : CX g M) (d : Dc M pc pc1 (.aload_n 0) 1) (k : ZW g pc1 (some (.ref x) :: r) (.ref x :: st) σ) : ZW g pc (some (.ref x) :: r) st σ := zw_aloadn (i := 0) X (q := 0) rfl d rfl k
theorem zw_iload_1 {g : Gt} {M : Mt} {pc pc1 : Nat} {st : List Value} {σ : St} {x : Int32} {a0 : Option Value} {r : List (Option Value)} (X : CX g M) (d : Dc M pc pc1 (.iload_n 1) 1) (k : ZW g pc1 (a0 :: some (.int x) :: r) (.int x :: st) σ) : ZW g pc (a0 :: some (.int x) :: r) st σ := zw_iloadn (i := 1) X (q := 1) rfl d rfl k
theorem zw_lload_1 {g : Gt} {M : Mt} {pc pc1 : Nat} {st : List Value} {σ : St} {x : Int64} {a0 : Option Value} {r : List (Option Value)} (X : CX g M) (d : Dc M pc pc1 (.lload_n 1) 1) (k : ZW g pc1 (a0 :: some (.long x) :: r) (.long x :: st) σ) : ZW g pc (a0 :: some (.long x) :: r) st σ := zw_lloadn (i := 1) X (q := 1) rfl d rfl k
theorem zw_aload_1 {g : Gt} {M : Mt} {pc pc1 : Nat} {st : List Value} {σ : St} {x : Nat} {a0 : Option Value} {r : List (Option Value)} (X : CX g M) (d : Dc M pc pc1 (.aload_n 1) 1) (k : ZW g pc1 (a0 :: some (.ref x) :: r) (.ref x :: st) σ) : ZW g pc (a0 :: some (.ref x) :: r) st σ := zw_aloadn (i := 1) X (q := 1) rfl d rfl k
theorem zw_iload_2 {g : Gt} {M : Mt} {pc pc1 : Nat} {st : List Value} {σ : St} {x : Int32} {a0 a1 : Option Value} {r : List (Option Value)} (X : CX g M) (d : Dc M pc pc1 (.iload_n 2) 1) (k : ZW g pc1 (a0 :: a1 :: some (.int x) :: r) (.int x :: st) σ) : ZW g pc (a0 :: a1 :: some (.int x) :: r) st σ := zw_iloadn (i := 2) X (q := 2) rfl d rfl k
theorem zw_lload_2 {g : Gt} {M : Mt} {pc pc1 : Nat} {st : List Value} {σ : St} {x : Int64} {a0 a1 : Option Value} {r : List (Option Value)} (X : CX g M) (d : Dc M pc pc1 (.lload_n 2) 1) (k : ZW g pc1 (a0 :: a1 :: some (.long x) :: r) (.long x :: st) σ) : ZW g pc (a0 :: a1 :: some (.long x) :: r) st σ := zw_lloadn (i := 2) X (q := 2) rfl d rfl k
theorem zw_aload_2 {g : Gt} {M : Mt} {pc pc1 : Nat} {st : List Value} {σ : St} {x : Nat} {a0 a1 : Option Value} {r : List (Option Value)} (X : CX g M) (d : Dc M pc pc1 (.aload_n 2) 1) (k : ZW g pc1 (a0 :: a1 :: some (.ref x) :: r) (.ref x :: st) σ) : ZW g pc (a0 :: a1 :: some (.ref x) :: r) st σ := zw_aloadn (i := 2) X (q := 2) rfl d rfl k
theorem zw_iload_3 {g : Gt} {M : Mt} {pc pc1 : Nat} {st : List Value} {σ : St} {x : Int32} {a0 a1 a2 : Option Value} {r : List (Option Value)} (X : CX g M) (d : Dc M pc pc1 (.iload_n 3) 1) (k : ZW g pc1 (a0 :: a1 :: a2 :: some (.int x) :: r) (.int x :: st) σ) : ZW g pc (a0 :: a1 :: a2 :: some (.int x) :: r) st σ := zw_iloadn (i := 3) X (q := 3) rfl d rfl k
theorem zw_lload_3 {g : Gt} {M : Mt} {pc pc1 : Nat} {st : List Value} {σ : St} {x : Int64} {a0 a1 a2 : Option Value} {r : List (Option Value)} (X : CX g M) (d : Dc M pc pc1 (.lload_n 3) 1) (k : ZW g pc1 (a0 :: a1 :: a2 :: some (.long x) :: r) (.long x :: st) σ) : ZW g pc (a0 :: a1 :: a2 :: some (.long x) :: r) st σ := zw_lloadn (i := 3) X (q := 3) rfl d rfl k
theorem zw_aload_3 {g : Gt} {M : Mt} {pc pc1 : Nat} {st : List Value} {σ : St} {x : Nat} {a0 a1 a2 : Option Value} {r : List (Option Value)} (X : CX g M) (d : Dc M pc pc1 (.aload_n 3) 1) (k : ZW g pc1 (a0 :: a1 :: a2 :: some (.ref x) :: r) (.ref x :: st) σ) : ZW g pc (a0 :: a1 :: a2 :: some (.ref x) :: r) st σ := zw_aloadn (i := 3) X (q := 3) rfl d rfl k
theorem zw_iload_4 {g : Gt} {M : Mt} {pc pc1 : Nat} {st : List Value} {σ : St} {x : Int32} {a0 a1 a2 a3 : Option Value} {r : List (Option Value)} (X : CX g M) (d : Dc M pc pc1 (.iload 4) 2) (k : ZW g pc1 (a0 :: a1 :: a2 :: a3 :: some (.int x) :: r) (.int x :: st) σ) : ZW g pc (a0 :: a1 :: a2 :: a3 :: some (.int x) :: r) st σ := zw_iload (i := 4) X d rfl k
theorem zw_lload_4 {g : Gt} {M : Mt} {pc pc1 : Nat} {st : List Value} {σ : St} {x : Int64} {a0 a1 a2 a3 : Option Value} {r : List (Option Value)} (X : CX g M) (d : Dc M pc pc1 (.lload 4) 2) (k : ZW g pc1 (a0 :: a1 :: a2 :: a3 :: some (.long x) :: r) (.long x :: st) σ) : ZW g pc (a0 :: a1 :: a2 :: a3 :: some (.long x) :: r) st σ := zw_lload (i := 4) X d rfl k
theorem zw_iload_5 {g : Gt} {M : Mt} {pc pc1 : Nat} {st : List Value} {σ : St} {x : Int32} {a0 a1 a2 a3 a4 : Option Value} {r : List (Option Value)} (X : CX g M) (d : Dc M pc pc1 (.iload 5) 2) (k : ZW g pc1 (a0 :: a1 :: a2 :: a3 :: a4 :: some (.int x) :: r) (.int x :: st) σ) : ZW g pc (a0 :: a1 :: a2 :: a3 :: a4 :: some (.int x) :: r) st σ := zw_iload (i := 5) X d rfl k
theorem zw_lload_5 {g : Gt} {M : Mt} {pc pc1 : Nat} {st : List Value} {σ : St} {x : Int64} {a0 a1 a2 a3 a4 : Option Value} {r : List (Option Value)} (X : CX g M) (d : Dc M pc pc1 (.lload 5) 2) (k : ZW g pc1 (a0 :: a1 :: a2 :: a3 :: a4 :: some (.long x) :: r) (.long x :: st) σ) : ZW g pc (a0 :: a1 :: a2 :: a3 :: a4 :: some (.long x) :: r) st σ := zw_lload (i := 5) X d rfl k
theorem zw_iload_6 {g : Gt} {M : Mt} {pc pc1 : Nat} {st : List Value} {σ : St} {x : Int32} {a0 a1 a2 a3 a4 a5 : Option Value} {r : List (Option Value)} (X : CX g M) (d : Dc M pc pc1 (.iload 6) 2) (k : ZW g pc1 (a0 :: a1 :: a2 :: a3 :: a4 :: a5 :: some (.int x) :: r) (.int x :: st) σ) : ZW g pc (a0 :: a1 :: a2 :: a3 :: a4 :: a5 :: some (.int x) :: r) st σ := zw_iload (i := 6) X d rfl k
theorem zw_lload_6 {g : Gt} {M : Mt} {pc pc1 : Nat} {st : List Value} {σ : St} {x : Int64} {a0 a1 a2 a3 a4 a5 : Option Value} {r : List (Option Value)} (X : CX g M) (d : Dc M pc pc1 (.lload 6) 2) (k : ZW g pc1 (a0 :: a1 :: a2 :: a3 :: a4 :: a5 :: some (.long x) :: r) (.long x :: st) σ) : ZW g pc (a0 :: a1 :: a2 :: a3 :: a4 :: a5 :: some (.long x) :: r) st σ := zw_lload (i := 6) X d rfl k
theorem zw_iload_7 {g : Gt} {M : Mt} {pc pc1 : Nat} {st : List Value} {σ : St} {x : Int32} {a0 a1 a2 a3 a4 a5 a6 : Option Value} {r : List (Option Value)} (X : CX g M) (d : Dc M pc pc1 (.iload 7) 2) (k : ZW g pc1 (a0 :: a1 :: a2 :: a3 :: a4 :: a5 :: a6 :: some (.int x) :: r) (.int x :: st) σ) : ZW g pc (a0 :: a1 :: a2 :: a3 :: a4 :: a5 :: a6 :: some (.int x) :: r) st σ := zw_iload (i := 7) X d rfl k
theorem zw_lload_7 {g : Gt} {M : Mt} {pc pc1 : Nat} {st : List Value} {σ : St} {x : Int64} {a0 a1 a2 a3 a4 a5 a6 : Option Value} {r : List (Option Value)} (X : CX g M) (d : Dc M pc pc1 (.lload 7) 2) (k : ZW g pc1 (a0 :: a1 :: a2 :: a3 :: a4 :: a5 :: a6 :: some (.long x) :: r) (.long x :: st) σ) : ZW g pc (a0 :: a1 :: a2 :: a3 :: a4 :: a5 :: a6 :: some (.long x) :: r) st σ := zw_lload (i := 7) X d rfl k
theorem zw_iload_8 {g : Gt} {M : Mt} {pc pc1 : Nat} {st : List Value} {σ : St} {x : Int32} {a0 a1 a2 a3 a4 a5 a6 a7 : Option Value} {r : List (Option Value)} (X : CX g M) (d : Dc M pc pc1 (.iload 8) 2) (k : ZW g pc1 (a0 :: a1 :: a2 :: a3 :: a4 :: a5 :: a6 :: a7 :: some (.int x) :: r) (.int x :: st) σ) : ZW g pc (a0 :: a1 :: a2 :: a3 :: a4 :: a5 :: a6 :: a7 :: some (.int x) :: r) st σ := zw_iload (i := 8) X d rfl k
theorem zw_lload_8 {g : Gt} {M : Mt} {pc pc1 : Nat} {st : List Value} {σ : St} {x : Int64} {a0 a1 a2 a3 a4 a5 a6 a7 : Option Value} {r : List (Option Value)} (X : CX g M) (d : Dc M pc pc1 (.lload 8) 2) (k : ZW g pc1 (a0 :: a1 :: a2 :: a3 :: a4 :: a5 :: a6 :: a7 :: some (.long x) :: r) (.long x :: st) σ) : ZW g pc (a0 :: a1 :: a2 :: a3 :: a4 :: a5 :: a6 :: a7 :: some (.long x) :: r) st σ := zw_lload (i := 8) X d rfl k
theorem zw_iload_9 {g : Gt} {M : Mt} {pc pc1 : Nat} {st : List Value} {σ : St} {x : Int32} {a0 a1 a2 a3 a4 a5 a6 a7 a8 : Option Value} {r : List (Option Value)} (X : CX g M) (d : Dc M pc pc1 (.iload 9) 2) (k : ZW g pc1 (a0 :: a1 :: a2 :: a3 :: a4 :: a5 :: a6 :: a7 :: a8 :: some (.int x) :: r) (.int x :: st) σ) : ZW g pc (a0 :: a1 :: a2 :: a3 :: a4 :: a5 :: a6 :: a7 :: a8 :: some (.int x) :: r) st σ := zw_iload (i := 9) X d rfl k
theorem zw_lload_9 {g : Gt} {M : Mt} {pc pc1 : Nat} {st : List Value} {σ : St} {x : Int64} {a0 a1 a2 a3 a4 a5 a6 a7 a8 : Option Value} {r : List (Option Value)} (X : CX g M) (d : Dc M pc pc1 (.lload 9) 2) (k : ZW g pc1 (a0 :: a1 :: a2 :: a3 :: a4 :: a5 :: a6 :: a7 :: a8 :: some (.long x) :: r) (.long x :: st) σ) : ZW g pc (a0 :: a1 :: a2 :: a3 :: a4 :: a5 :: a6 :: a7 :: a8 :: some (.long x) :: r) st σ := zw_lload (i := 9) X d rfl k
theorem zw_iload_10 {g : Gt} {M : Mt} {pc pc1 : Nat} {st : List Value} {σ : St} {x : Int32} {a0 a1 a2 a3 a4 a5 a6 a7 a8 a9 : Option Value} {r : List (Option Value)} (X : CX g M) (d : Dc M pc pc1 (.iload 10) 2) (k : ZW g pc1 (a0 :: a1 :: a2 :: a3 :: a4 :: a5 :: a6 :: a7 :: a8 :: a9 :: some (.int x) :: r) (.int x :: st) σ) : ZW g pc (a0 :: a1 :: a2 :: a3 :: a4 :: a5 :: a6 :: a7 :: a8 :: a9 :: some (.int x) :: r) st σ := zw_iload (i := 10) X d rfl k
theorem zw_lload_10 {g : Gt} {M : Mt} {pc pc1 : Nat} {st : List Value} {σ : St} {x : Int64} {a0 a1 a2 a3 a4 a5 a6 a7 a8 a9 : Option Value} {r : List (Option Value)} (X : CX g M) (d : Dc M pc pc1 (.lload 10) 2) (k : ZW g pc1 (a0 :: a1 :: a2 :: a3 :: a4 :: a5 :: a6 :: a7 :: a8 :: a9 :: some (.long x) :: r) (.long x :: st) σ) : ZW g pc (a0 :: a1 :: a2 :: a3 :: a4 :: a5 :: a6 :: a7 :: a8 :: a9 :: some (.long x) :: r) st σ := zw_lload (i := 10) X d rfl k
theorem zw_iload_11 {g : Gt} {M : Mt} {pc pc1 : Nat} {st : List Value} {σ : St} {x : Int32} {a0 a1 a2 a3 a4 a5 a6 a7 a8 a9 a10 : Option Value} {r : List (Option Value)} (X : CX g M) (d : Dc M pc pc1 (.iload 11) 2) (k : ZW g pc1 (a0 :: a1 :: a2 :: a3 :: a4 :: a5 :: a6 :: a7 :: a8 :: a9 :: a10 :: some (.int x) :: r) (.int x :: st) σ) : ZW g pc (a0 :: a1 :: a2 :: a3 :: a4 :: a5 :: a6 :: a7 :: a8 :: a9 :: a10 :: some (.int x) :: r) st σ := zw_iload (i := 11) X d rfl k
theorem zw_lload_11 {g : Gt} {M : Mt} {pc pc1 : Nat} {st : List Value} {σ : St} {x : Int64} {a0 a1 a2 a3 a4 a5 a6 a7 a8 a9 a10 : Option Value} {r : List (Option Value)} (X : CX g M) (d : Dc M pc pc1 (.lload 11) 2) (k : ZW g pc1 (a0 :: a1 :: a2 :: a3 :: a4 :: a5 :: a6 :: a7 :: a8 :: a9 :: a10 :: some (.long x) :: r) (.long x :: st) σ) : ZW g pc (a0 :: a1 :: a2 :: a3 :: a4 :: a5 :: a6 :: a7 :: a8 :: a9 :: a10 :: some (.long x) :: r) st σ := zw_lload (i := 11) X d rfl k
theorem zw_iload_12 {g : Gt} {M : Mt} {pc pc1 : Nat} {st : List Value} {σ : St} {x : Int32} {a0 a1 a2 a3 a4 a5 a6 a7 a8 a9 a10 a11 : Option Value} {r : List (Option Value)} (X : CX g M) (d : Dc M pc pc1 (.iload 12) 2) (k : ZW g pc1 (a0 :: a1 :: a2 :: a3 :: a4 :: a5 :: a6 :: a7 :: a8 :: a9 :: a10 :: a11 :: some (.int x) :: r) (.int x :: st) σ) : ZW g pc (a0 :: a1 :: a2 :: a3 :: a4 :: a5 :: a6 :: a7 :: a8 :: a9 :: a10 :: a11 :: some (.int x) :: r) st σ := zw_iload (i := 12) X d rfl k
theorem zw_lload_12 {g : Gt} {M : Mt} {pc pc1 : Nat} {st : List Value} {σ : St} {x : Int64} {a0 a1 a2 a3 a4 a5 a6 a7 a8 a9 a10 a11 : Option Value} {r : List (Option Value)} (X : CX g M) (d : Dc M pc pc1 (.lload 12) 2) (k : ZW g pc1 (a0 :: a1 :: a2 :: a3 :: a4 :: a5 :: a6 :: a7 :: a8 :: a9 :: a10 :: a11 :: some (.long x) :: r) (.long x :: st) σ) : ZW g pc (a0 :: a1 :: a2 :: a3 :: a4 :: a5 :: a6 :: a7 :: a8 :: a9 :: a10 :: a11 :: some (.long x) :: r) st σ := zw_lload (i := 12) X d rfl k
theorem zw_iload_13 {g : Gt} {M : Mt} {pc pc1 : Nat} {st : List Value} {σ : St} {x : Int32} {a0 a1 a2 a3 a4 a5 a6 a7 a8 a9 a10 a11 a12 : Option Value} {r : List (Option Value)} (X : CX g M) (d : Dc M pc pc1 (.iload 13) 2) (k : ZW g pc1 (a0 :: a1 :: a2 :: a3 :: a4 :: a5 :: a6 :: a7 :: a8 :: a9 :: a10 :: a11 :: a12 :: some (.int x) :: r) (.int x :: st) σ) : ZW g pc (a0 :: a1 :: a2 :: a3 :: a4 :: a5 :: a6 :: a7 :: a8 :: a9 :: a10 :: a11 :: a12 :: some (.int x) :: r) st σ := zw_iload (i := 13) X d rfl k
theorem zw_lload_13 {g : Gt} {M : Mt} {pc pc1 : Nat} {st : List Value} {σ : St} {x : Int64} {a0 a1 a2 a3 a4 a5 a6 a7 a8 a9 a10 a11 a12 : Option Value} {r : List (Option Value)} (X : CX g M) (d : Dc M pc pc1 (.lload 13) 2) (k : ZW g pc1 (a0 :: a1 :: a2 :: a3 :: a4 :: a5 :: a6 :: a7 :: a8 :: a9 :: a10 :: a11 :: a12 :: some (.long x) :: r) (.long x :: st) σ) : ZW g pc (a0 :: a1 :: a2 :: a3 :: a4 :: a5 :: a6 :: a7 :: a8 :: a9 :: a10 :: a11 :: a12 :: some (.long x) :: r) st σ := zw_lload (i := 13) X d rfl k
theorem zw_istore_0 {g : Gt} {M : Mt} {pc pc1 : Nat} {st : List Value} {σ : St} {x : Int32} {b : Option Value} {r : List (Option Value)} (X : CX g M) (d : Dc M pc pc1 (.istore_n 0) 1) (k : ZW g pc1 (some (.int x) :: r) st σ) : ZW g pc (b :: r) (.int x :: st) σ := zw_istoren (i := 0) X (q := 0) rfl d (by simp) rfl k
theorem zw_astore_0 {g : Gt} {M : Mt} {pc pc1 : Nat} {st : List Value} {σ : St} {x : Nat} {b : Option Value} {r : List (Option Value)} (X : CX g M) (d : Dc M pc pc1 (.astore_n 0) 1) (k : ZW g pc1 (some (.ref x) :: r) st σ) : ZW g pc (b :: r) (.ref x :: st) σ := zw_astoren (i := 0) X (q := 0) rfl d (by simp) rfl k
theorem zw_iinc_0_p1 {g : Gt} {M : Mt} {pc pc1 : Nat} {st : List Value} {σ : St} {x : Int32} {r : List (Option Value)} (X : CX g M) (d : Dc M pc pc1 (.iinc 0 1) 3) (k : ZW g pc1 (some (.int (x + 1)) :: r) st σ) : ZW g pc (some (.int x) :: r) st σ := zw_iinc (i := 0) (x := x) X d rfl (congrArg (x + ·) (by decide)) (by simp) rfl k
theorem zw_iinc_0_m1 {g : Gt} {M : Mt} {pc pc1 : Nat} {st : List Value} {σ : St} {x : Int32} {r : List (Option Value)} (X : CX g M) (d : Dc M pc pc1 (.iinc 0 (-1)) 3) (k : ZW g pc1 (some (.int (x + (-1))) :: r) st σ) : ZW g pc (some (.int x) :: r) st σ := zw_iinc (i := 0) (x := x) X d rfl (congrArg (x + ·) (by decide)) (by simp) rfl k
theorem zw_iinc_0_p2 {g : Gt} {M : Mt} {pc pc1 : Nat} {st : List Value} {σ : St} {x : Int32} {r : List (Option Value)} (X : CX g M) (d : Dc M pc pc1 (.iinc 0 2) 3) (k : ZW g pc1 (some (.int (x + 2)) :: r) st σ) : ZW g pc (some (.int x) :: r) st σ := zw_iinc (i := 0) (x := x) X d rfl (congrArg (x + ·) (by decide)) (by simp) rfl k
theorem zw_iinc_0_p3 {g : Gt} {M : Mt} {pc pc1 : Nat} {st : List Value} {σ : St} {x : Int32} {r : List (Option Value)} (X : CX g M) (d : Dc M pc pc1 (.iinc 0 3) 3) (k : ZW g pc1 (some (.int (x + 3)) :: r) st σ) : ZW g pc (some (.int x) :: r) st σ := zw_iinc (i := 0) (x := x) X d rfl (congrArg (x + ·) (by decide)) (by simp) rfl k
theorem zw_istore_1 {g : Gt} {M : Mt} {pc pc1 : Nat} {st : List Value} {σ : St} {x : Int32} {a0 : Option Value} {b : Option Value} {r : List (Option Value)} (X : CX g M) (d : Dc M pc pc1 (.istore_n 1) 1) (k : ZW g pc1 (a0 :: some (.int x) :: r) st σ) (hp : nlg a0 = true := by rfl) : ZW g pc (a0 :: b :: r) (.int x :: st) σ := zw_istoren (i := 1) X (q := 1) rfl d (by simp) hp k
theorem zw_astore_1 {g : Gt} {M : Mt} {pc pc1 : Nat} {st : List Value} {σ : St} {x : Nat} {a0 : Option Value} {b : Option Value} {r : List (Option Value)} (X : CX g M) (d : Dc M pc pc1 (.astore_n 1) 1) (k : ZW g pc1 (a0 :: some (.ref x) :: r) st σ) (hp : nlg a0 = true := by rfl) : ZW g pc (a0 :: b :: r) (.ref x :: st) σ := zw_astoren (i := 1) X (q := 1) rfl d (by simp) hp k
theorem zw_iinc_1_p1 {g : Gt} {M : Mt} {pc pc1 : Nat} {st : List Value} {σ : St} {x : Int32} {a0 : Option Value} {r : List (Option Value)} (X : CX g M) (d : Dc M pc pc1 (.iinc 1 1) 3) (k : ZW g pc1 (a0 :: some (.int (x + 1)) :: r) st σ) (hp : nlg a0 = true := by rfl) : ZW g pc (a0 :: some (.int x) :: r) st σ := zw_iinc (i := 1) (x := x) X d rfl (congrArg (x + ·) (by decide)) (by simp) hp k
theorem zw_iinc_1_m1 {g : Gt} {M : Mt} {pc pc1 : Nat} {st : List Value} {σ : St} {x : Int32} {a0 : Option Value} {r : List (Option Value)} (X : CX g M) (d : Dc M pc pc1 (.iinc 1 (-1)) 3) (k : ZW g pc1 (a0 :: some (.int (x + (-1))) :: r) st σ) (hp : nlg a0 = true := by rfl) : ZW g pc (a0 :: some (.int x) :: r) st σ := zw_iinc (i := 1) (x := x) X d rfl (congrArg (x + ·) (by decide)) (by simp) hp k
theorem zw_iinc_1_p2 {g : Gt} {M : Mt} {pc pc1 : Nat} {st : List Value} {σ : St} {x : Int32} {a0 : Option Value} {r : List (Option Value)} (X : CX g M) (d : Dc M pc pc1 (.iinc 1 2) 3) (k : ZW g pc1 (a0 :: some (.int (x + 2)) :: r) st σ) (hp : nlg a0 = true := by rfl) : ZW g pc (a0 :: some (.int x) :: r) st σ := zw_iinc (i := 1) (x := x) X d rfl (congrArg (x + ·) (by decide)) (by simp) hp k
theorem zw_iinc_1_p3 {g : Gt} {M : Mt} {pc pc1 : Nat} {st : List Value} {σ : St} {x : Int32} {a0 : Option Value} {r : List (Option Value)} (X : CX g M) (d : Dc M pc pc1 (.iinc 1 3) 3) (k : ZW g pc1 (a0 :: some (.int (x + 3)) :: r) st σ) (hp : nlg a0 = true := by rfl) : ZW g pc (a0 :: some (.int x) :: r) st σ := zw_iinc (i := 1) (x := x) X d rfl (congrArg (x + ·) (by decide)) (by simp) hp k
theorem zw_istore_2 {g : Gt} {M : Mt} {pc pc1 : Nat} {st : List Value} {σ : St} {x : Int32} {a0 a1 : Option Value} {b : Option Value} {r : List (Option Value)} (X : CX g M) (d : Dc M pc pc1 (.istore_n 2) 1) (k : ZW g pc1 (a0 :: a1 :: some (.int x) :: r) st σ) (hp : nlg a1 = true := by rfl) : ZW g pc (a0 :: a1 :: b :: r) (.int x :: st) σ := zw_istoren (i := 2) X (q := 2) rfl d (by simp) hp k
theorem zw_astore_2 {g : Gt} {M : Mt} {pc pc1 : Nat} {st : List Value} {σ : St} {x : Nat} {a0 a1 : Option Value} {b : Option Value} {r : List (Option Value)} (X : CX g M) (d : Dc M pc pc1 (.astore_n 2) 1) (k : ZW g pc1 (a0 :: a1 :: some (.ref x) :: r) st σ) (hp : nlg a1 = true := by rfl) : ZW g pc (a0 :: a1 :: b :: r) (.ref x :: st) σ := zw_astoren (i := 2) X (q := 2) rfl d (by simp) hp k
theorem zw_iinc_2_p1 {g : Gt} {M : Mt} {pc pc1 : Nat} {st : List Value} {σ : St} {x : Int32} {a0 a1 : Option Value} {r : List (Option Value)} (X : CX g M) (d : Dc M pc pc1 (.iinc 2 1) 3) (k : ZW g pc1 (a0 :: a1 :: some (.int (x + 1)) :: r) st σ) (hp : nlg a1 = true := by rfl) : ZW g pc (a0 :: a1 :: some (.int x) :: r) st σ := zw_iinc (i := 2) (x := x) X d rfl (congrArg (x + ·) (by decide)) (by simp) hp k
theorem zw_iinc_2_m1 {g : Gt} {M : Mt} {pc pc1 : Nat} {st : List Value} {σ : St} {x : Int32} {a0 a1 : Option Value} {r : List (Option Value)} (X : CX g M) (d : Dc M pc pc1 (.iinc 2 (-1)) 3) (k : ZW g pc1 (a0 :: a1 :: some (.int (x + (-1))) :: r) st σ) (hp : nlg a1 = true := by rfl) : ZW g pc (a0 :: a1 :: some (.int x) :: r) st σ := zw_iinc (i := 2) (x := x) X d rfl (congrArg (x + ·) (by decide)) (by simp) hp k
theorem zw_iinc_2_p2 {g : Gt} {M : Mt} {pc pc1 : Nat} {st : List Value} {σ : St} {x : Int32} {a0 a1 : Option Value} {r : List (Option Value)} (X : CX g M) (d : Dc M pc pc1 (.iinc 2 2) 3) (k : ZW g pc1 (a0 :: a1 :: some (.int (x + 2)) :: r) st σ) (hp : nlg a1 = true := by rfl) : ZW g pc (a0 :: a1 :: some (.int x) :: r) st σ := zw_iinc (i := 2) (x := x) X d rfl (congrArg (x + ·) (by decide)) (by simp) hp k
theorem zw_iinc_2_p3 {g : Gt} {M : Mt} {pc pc1 : Nat} {st : List Value} {σ : St} {x : Int32} {a0 a1 : Option Value} {r : List (Option Value)} (X : CX g M) (d : Dc M pc pc1 (.iinc 2 3) 3) (k : ZW g pc1 (a0 :: a1 :: some (.int (x + 3)) :: r) st σ) (hp : nlg a1 = true := by rfl) : ZW g pc (a0 :: a1 :: some (.int x) :: r) st σ := zw_iinc (i := 2) (x := x) X d rfl (congrArg (x + ·) (by decide)) (by simp) hp k
theorem zw_istore_3 {g : Gt} {M : Mt} {pc pc1 : Nat} {st : List Value} {σ : St} {x : Int32} {a0 a1 a2 : Option Value} {b : Option Value} {r : List (Option Value)} (X : CX g M) (d : Dc M pc pc1 (.istore_n 3) 1) (k : ZW g pc1 (a0 :: a1 :: a2 :: some (.int x) :: r) st σ) (hp : nlg a2 = true := by rfl) : ZW g pc (a0 :: a1 :: a2 :: b :: r) (.int x :: st) σ := zw_istoren (i := 3) X (q := 3) rfl d (by simp) hp k
theorem zw_astore_3 {g : Gt} {M : Mt} {pc pc1 : Nat} {st : List Value} {σ : St} {x : Nat} {a0 a1 a2 : Option Value} {b : Option Value} {r : List (Option Value)} (X : CX g M) (d : Dc M pc pc1 (.astore_n 3) 1) (k : ZW g pc1 (a0 :: a1 :: a2 :: some (.ref x) :: r) st σ) (hp : nlg a2 = true := by rfl) : ZW g pc (a0 :: a1 :: a2 :: b :: r) (.ref x :: st) σ := zw_astoren (i := 3) X (q := 3) rfl d (by simp) hp k
theorem zw_iinc_3_p1 {g : Gt} {M : Mt} {pc pc1 : Nat} {st : List Value} {σ : St} {x : Int32} {a0 a1 a2 : Option Value} {r : List (Option Value)} (X : CX g M) (d : Dc M pc pc1 (.iinc 3 1) 3) (k : ZW g pc1 (a0 :: a1 :: a2 :: some (.int (x + 1)) :: r) st σ) (hp : nlg a2 = true := by rfl) : ZW g pc (a0 :: a1 :: a2 :: some (.int x) :: r) st σ := zw_iinc (i := 3) (x := x) X d rfl (congrArg (x + ·) (by decide)) (by simp) hp k
theorem zw_iinc_3_m1 {g : Gt} {M : Mt} {pc pc1 : Nat} {st : List Value} {σ : St} {x : Int32} {a0 a1 a2 : Option Value} {r : List (Option Value)} (X : CX g M) (d : Dc M pc pc1 (.iinc 3 (-1)) 3) (k : ZW g pc1 (a0 :: a1 :: a2 :: some (.int (x + (-1))) :: r) st σ) (hp : nlg a2 = true := by rfl) : ZW g pc (a0 :: a1 :: a2 :: some (.int x) :: r) st σ := zw_iinc (i := 3) (x := x) X d rfl (congrArg (x + ·) (by decide)) (by simp) hp k
theorem zw_iinc_3_p2 {g : Gt} {M : Mt} {pc pc1 : Nat} {st : List Value} {σ : St} {x : Int32} {a0 a1 a2 : Option Value} {r : List (Option Value)} (X : CX g M) (d : Dc M pc pc1 (.iinc 3 2) 3) (k : ZW g pc1 (a0 :: a1 :: a2 :: some (.int (x + 2)) :: r) st σ) (hp : nlg a2 = true := by rfl) : ZW g pc (a0 :: a1 :: a2 :: some (.int x) :: r) st σ := zw_iinc (i := 3) (x := x) X d rfl (congrArg (x + ·) (by decide)) (by simp) hp k
theorem zw_iinc_3_p3 {g : Gt} {M : Mt} {pc pc1 : Nat} {st : List Value} {σ : St} {x : Int32} {a0 a1 a2 : Option Value} {r : List (Option Value)} (X : CX g M) (d : Dc M pc pc1 (.iinc 3 3) 3) (k : ZW g pc1 (a0 :: a1 :: a2 :: some (.int (x + 3)) :: r) st σ) (hp : nlg a2 = true := by rfl) : ZW g pc (a0 :: a1 :: a2 :: some (.int x) :: r) st σ := zw_iinc (i := 3) (x := x) X d rfl (congrArg (x + ·) (by decide)) (by simp) hp k
theorem zw_istore_4 {g : Gt} {M : Mt} {pc pc1 : Nat} {st : List Value} {σ : St} {x : Int32} {a0 a1 a2 a3 : Option Value} {b : Option Value} {r : List (Option Value)} (X : CX g M) (d : Dc M pc pc1 (.istore 4) 2) (k : ZW g pc1 (a0 :: a1 :: a2 :: a3 :: some (.int x) :: r) st σ) (hp : nlg a3 = true := by rfl) : ZW g pc (a0 :: a1 :: a2 :: a3 :: b :: r) (.int x :: st) σ := zw_istore (i := 4) X d (by simp) hp k
theorem zw_iinc_4_p1 {g : Gt} {M : Mt} {pc pc1 : Nat} {st : List Value} {σ : St} {x : Int32} {a0 a1 a2 a3 : Option Value} {r : List (Option Value)} (X : CX g M) (d : Dc M pc pc1 (.iinc 4 1) 3) (k : ZW g pc1 (a0 :: a1 :: a2 :: a3 :: some (.int (x + 1)) :: r) st σ) (hp : nlg a3 = true := by rfl) : ZW g pc (a0 :: a1 :: a2 :: a3 :: some (.int x) :: r) st σ := zw_iinc (i := 4) (x := x) X d rfl (congrArg (x + ·) (by decide)) (by simp) hp k
theorem zw_iinc_4_m1 {g : Gt} {M : Mt} {pc pc1 : Nat} {st : List Value} {σ : St} {x : Int32} {a0 a1 a2 a3 : Option Value} {r : List (Option Value)} (X : CX g M) (d : Dc M pc pc1 (.iinc 4 (-1)) 3) (k : ZW g pc1 (a0 :: a1 :: a2 :: a3 :: some (.int (x + (-1))) :: r) st σ) (hp : nlg a3 = true := by rfl) : ZW g pc (a0 :: a1 :: a2 :: a3 :: some (.int x) :: r) st σ := zw_iinc (i := 4) (x := x) X d rfl (congrArg (x + ·) (by decide)) (by simp) hp k
theorem zw_iinc_4_p2 {g : Gt} {M : Mt} {pc pc1 : Nat} {st : List Value} {σ : St} {x : Int32} {a0 a1 a2 a3 : Option Value} {r : List (Option Value)} (X : CX g M) (d : Dc M pc pc1 (.iinc 4 2) 3) (k : ZW g pc1 (a0 :: a1 :: a2 :: a3 :: some (.int (x + 2)) :: r) st σ) (hp : nlg a3 = true := by rfl) : ZW g pc (a0 :: a1 :: a2 :: a3 :: some (.int x) :: r) st σ := zw_iinc (i := 4) (x := x) X d rfl (congrArg (x + ·) (by decide)) (by simp) hp k
theorem zw_iinc_4_p3 {g : Gt} {M : Mt} {pc pc1 : Nat} {st : List Value} {σ : St} {x : Int32} {a0 a1 a2 a3 : Option Value} {r : List (Option Value)} (X : CX g M) (d : Dc M pc pc1 (.iinc 4 3) 3) (k : ZW g pc1 (a0 :: a1 :: a2 :: a3 :: some (.int (x + 3)) :: r) st σ) (hp : nlg a3 = true := by rfl) : ZW g pc (a0 :: a1 :: a2 :: a3 :: some (.int x) :: r) st σ := zw_iinc (i := 4) (x := x) X d rfl (congrArg (x + ·) (by decide)) (by simp) hp k
theorem zw_istore_5 {g : Gt} {M : Mt} {pc pc1 : Nat} {st : List Value} {σ : St} {x : Int32} {a0 a1 a2 a3 a4 : Option Value} {b : Option Value} {r : List (Option Value)} (X : CX g M) (d : Dc M pc pc1 (.istore 5) 2) (k : ZW g pc1 (a0 :: a1 :: a2 :: a3 :: a4 :: some (.int x) :: r) st σ) (hp : nlg a4 = true := by rfl) : ZW g pc (a0 :: a1 :: a2 :: a3 :: a4 :: b :: r) (.int x :: st) σ := zw_istore (i := 5) X d (by simp) hp k
theorem zw_iinc_5_p1 {g : Gt} {M : Mt} {pc pc1 : Nat} {st : List Value} {σ : St} {x : Int32} {a0 a1 a2 a3 a4 : Option Value} {r : List (Option Value)} (X : CX g M) (d : Dc M pc pc1 (.iinc 5 1) 3) (k : ZW g pc1 (a0 :: a1 :: a2 :: a3 :: a4 :: some (.int (x + 1)) :: r) st σ) (hp : nlg a4 = true := by rfl) : ZW g pc (a0 :: a1 :: a2 :: a3 :: a4 :: some (.int x) :: r) st σ := zw_iinc (i := 5) (x := x) X d rfl (congrArg (x + ·) (by decide)) (by simp) hp k
theorem zw_iinc_5_m1 {g : Gt} {M : Mt} {pc pc1 : Nat} {st : List Value} {σ : St} {x : Int32} {a0 a1 a2 a3 a4 : Option Value} {r : List (Option Value)} (X : CX g M) (d : Dc M pc pc1 (.iinc 5 (-1)) 3) (k : ZW g pc1 (a0 :: a1 :: a2 :: a3 :: a4 :: some (.int (x + (-1))) :: r) st σ) (hp : nlg a4 = true := by rfl) : ZW g pc (a0 :: a1 :: a2 :: a3 :: a4 :: some (.int x) :: r) st σ := zw_iinc (i := 5) (x := x) X d rfl (congrArg (x + ·) (by decide)) (by simp) hp k
theorem zw_iinc_5_p2 {g : Gt} {M : Mt} {pc pc1 : Nat} {st : List Value} {σ : St} {x : Int32} {a0 a1 a2 a3 a4 : Option Value} {r : List (Option Value)} (X : CX g M) (d : Dc M pc pc1 (.iinc 5 2) 3) (k : ZW g pc1 (a0 :: a1 :: a2 :: a3 :: a4 :: some (.int (x + 2)) :: r) st σ) (hp : nlg a4 = true := by rfl) : ZW g pc (a0 :: a1 :: a2 :: a3 :: a4 :: some (.int x) :: r) st σ := zw_iinc (i := 5) (x := x) X d rfl (congrArg (x + ·) (by decide)) (by simp) hp k
theorem zw_iinc_5_p3 {g : Gt} {M : Mt} {pc pc1 : Nat} {st : List Value} {σ : St} {x : Int32} {a0 a1 a2 a3 a4 : Option Value} {r : List (Option Value)} (X : CX g M) (d : Dc M pc pc1 (.iinc 5 3) 3) (k : ZW g pc1 (a0 :: a1 :: a2 :: a3 :: a4 :: some (.int (x + 3)) :: r) st σ) (hp : nlg a4 = true := by rfl) : ZW g pc (a0 :: a1 :: a2 :: a3 :: a4 :: some (.int x) :: r) st σ := zw_iinc (i := 5) (x := x) X d rfl (congrArg (x + ·) (by decide)) (by simp) hp k
theorem zw_istore_6 {g : Gt} {M : Mt} {pc pc1 : Nat} {st : List Value} {σ : St} {x : Int32} {a0 a1 a2 a3 a4 a5 : Option Value} {b : Option Value} {r : List (Option Value)} (X : CX g M) (d : Dc M pc pc1 (.istore 6) 2) (k : ZW g pc1 (a0 :: a1 :: a2 :: a3 :: a4 :: a5 :: some (.int x) :: r) st σ) (hp : nlg a5 = true := by rfl) : ZW g pc (a0 :: a1 :: a2 :: a3 :: a4 :: a5 :: b :: r) (.int x :: st) σ := zw_istore (i := 6) X d (by simp) hp k
theorem zw_iinc_6_p1 {g : Gt} {M : Mt} {pc pc1 : Nat} {st : List Value} {σ : St} {x : Int32} {a0 a1 a2 a3 a4 a5 : Option Value} {r : List (Option Value)} (X : CX g M) (d : Dc M pc pc1 (.iinc 6 1) 3) (k : ZW g pc1 (a0 :: a1 :: a2 :: a3 :: a4 :: a5 :: some (.int (x + 1)) :: r) st σ) (hp : nlg a5 = true := by rfl) : ZW g pc (a0 :: a1 :: a2 :: a3 :: a4 :: a5 :: some (.int x) :: r) st σ := zw_iinc (i := 6) (x := x) X d rfl (congrArg (x + ·) (by decide)) (by simp) hp k
theorem zw_iinc_6_m1 {g : Gt} {M : Mt} {pc pc1 : Nat} {st : List Value} {σ : St} {x : Int32} {a0 a1 a2 a3 a4 a5 : Option Value} {r : List (Option Value)} (X : CX g M) (d : Dc M pc pc1 (.iinc 6 (-1)) 3) (k : ZW g pc1 (a0 :: a1 :: a2 :: a3 :: a4 :: a5 :: some (.int (x + (-1))) :: r) st σ) (hp : nlg a5 = true := by rfl) : ZW g pc (a0 :: a1 :: a2 :: a3 :: a4 :: a5 :: some (.int x) :: r) st σ := zw_iinc (i := 6) (x := x) X d rfl (congrArg (x + ·) (by decide)) (by simp) hp k
theorem zw_iinc_6_p2 {g : Gt} {M : Mt} {pc pc1 : Nat} {st : List Value} {σ : St} {x : Int32} {a0 a1 a2 a3 a4 a5 : Option Value} {r : List (Option Value)} (X : CX g M) (d : Dc M pc pc1 (.iinc 6 2) 3) (k : ZW g pc1 (a0 :: a1 :: a2 :: a3 :: a4 :: a5 :: some (.int (x + 2)) :: r) st σ) (hp : nlg a5 = true := by rfl) : ZW g pc (a0 :: a1 :: a2 :: a3 :: a4 :: a5 :: some (.int x) :: r) st σ := zw_iinc (i := 6) (x := x) X d rfl (congrArg (x + ·) (by decide)) (by simp) hp k
theorem zw_iinc_6_p3 {g : Gt} {M : Mt} {pc pc1 : Nat} {st : List Value} {σ : St} {x : Int32} {a0 a1 a2 a3 a4 a5 : Option Value} {r : List (Option Value)} (X : CX g M) (d : Dc M pc pc1 (.iinc 6 3) 3) (k : ZW g pc1 (a0 :: a1 :: a2 :: a3 :: a4 :: a5 :: some (.int (x + 3)) :: r) st σ) (hp : nlg a5 = true := by rfl) : ZW g pc (a0 :: a1 :: a2 :: a3 :: a4 :: a5 :: some (.int x) :: r) st σ := zw_iinc (i := 6) (x := x) X d rfl (congrArg (x + ·) (by decide)) (by simp) hp k
theorem zw_istore_7 {g : Gt} {M : Mt} {pc pc1 : Nat} {st : List Value} {σ : St} {x : Int32} {a0 a1 a2 a3 a4 a5 a6 : Option Value} {b : Option Value} {r : List (Option Value)} (X : CX g M) (d : Dc M pc pc1 (.istore 7) 2) (k : ZW g pc1 (a0 :: a1 :: a2 :: a3 :: a4 :: a5 :: a6 :: some (.int x) :: r) st σ) (hp : nlg a6 = true := by rfl) : ZW g pc (a0 :: a1 :: a2 :: a3 :: a4 :: a5 :: a6 :: b :: r) (.int x :: st) σ := zw_istore (i := 7) X d (by simp) hp k
theorem zw_iinc_7_p1 {g : Gt} {M : Mt} {pc pc1 : Nat} {st : List Value} {σ : St} {x : Int32} {a0 a1 a2 a3 a4 a5 a6 : Option Value} {r : List (Option Value)} (X : CX g M) (d : Dc M pc pc1 (.iinc 7 1) 3) (k : ZW g pc1 (a0 :: a1 :: a2 :: a3 :: a4 :: a5 :: a6 :: some (.int (x + 1)) :: r) st σ) (hp : nlg a6 = true := by rfl) : ZW g pc (a0 :: a1 :: a2 :: a3 :: a4 :: a5 :: a6 :: some (.int x) :: r) st σ := zw_iinc (i := 7) (x := x) X d rfl (congrArg (x + ·) (by decide)) (by simp) hp k
theorem zw_iinc_7_m1 {g : Gt} {M : Mt} {pc pc1 : Nat} {st : List Value} {σ : St} {x : Int32} {a0 a1 a2 a3 a4 a5 a6 : Option Value} {r : List (Option Value)} (X : CX g M) (d : Dc M pc pc1 (.iinc 7 (-1)) 3) (k : ZW g pc1 (a0 :: a1 :: a2 :: a3 :: a4 :: a5 :: a6 :: some (.int (x + (-1))) :: r) st σ) (hp : nlg a6 = true := by rfl) : ZW g pc (a0 :: a1 :: a2 :: a3 :: a4 :: a5 :: a6 :: some (.int x) :: r) st σ := zw_iinc (i := 7) (x := x) X d rfl (congrArg (x + ·) (by decide)) (by simp) hp k
theorem zw_iinc_7_p2 {g : Gt} {M : Mt} {pc pc1 : Nat} {st : List Value} {σ : St} {x : Int32} {a0 a1 a2 a3 a4 a5 a6 : Option Value} {r : List (Option Value)} (X : CX g M) (d : Dc M pc pc1 (.iinc 7 2) 3) (k : ZW g pc1 (a0 :: a1 :: a2 :: a3 :: a4 :: a5 :: a6 :: some (.int (x + 2)) :: r) st σ) (hp : nlg a6 = true := by rfl) : ZW g pc (a0 :: a1 :: a2 :: a3 :: a4 :: a5 :: a6 :: some (.int x) :: r) st σ := zw_iinc (i := 7) (x := x) X d rfl (congrArg (x + ·) (by decide)) (by simp) hp k
theorem zw_iinc_7_p3 {g : Gt} {M : Mt} {pc pc1 : Nat} {st : List Value} {σ : St} {x : Int32} {a0 a1 a2 a3 a4 a5 a6 : Option Value} {r : List (Option Value)} (X : CX g M) (d : Dc M pc pc1 (.iinc 7 3) 3) (k : ZW g pc1 (a0 :: a1 :: a2 :: a3 :: a4 :: a5 :: a6 :: some (.int (x + 3)) :: r) st σ) (hp : nlg a6 = true := by rfl) : ZW g pc (a0 :: a1 :: a2 :: a3 :: a4 :: a5 :: a6 :: some (.int x) :: r) st σ := zw_iinc (i := 7) (x := x) X d rfl (congrArg (x + ·) (by decide)) (by simp) hp k
theorem zw_istore_8 {g : Gt} {M : Mt} {pc pc1 : Nat} {st : List Value} {σ : St} {x : Int32} {a0 a1 a2 a3 a4 a5 a6 a7 : Option Value} {b : Option Value} {r : List (Option Value)} (X : CX g M) (d : Dc M pc pc1 (.istore 8) 2) (k : ZW g pc1 (a0 :: a1 :: a2 :: a3 :: a4 :: a5 :: a6 :: a7 :: some (.int x) :: r) st σ) (hp : nlg a7 = true := by rfl) : ZW g pc (a0 :: a1 :: a2 :: a3 :: a4 :: a5 :: a6 :: a7 :: b :: r) (.int x :: st) σ := zw_istore (i := 8) X d (by simp) hp k
theorem zw_iinc_8_p1 {g : Gt} {M : Mt} {pc pc1 : Nat} {st : List Value} {σ : St} {x : Int32} {a0 a1 a2 a3 a4 a5 a6 a7 : Option Value} {r : List (Option Value)} (X : CX g M) (d : Dc M pc pc1 (.iinc 8 1) 3) (k : ZW g pc1 (a0 :: a1 :: a2 :: a3 :: a4 :: a5 :: a6 :: a7 :: some (.int (x + 1)) :: r) st σ) (hp : nlg a7 = true := by rfl) : ZW g pc (a0 :: a1 :: a2 :: a3 :: a4 :: a5 :: a6 :: a7 :: some (.int x) :: r) st σ := zw_iinc (i := 8) (x := x) X d rfl (congrArg (x + ·) (by decide)) (by simp) hp k
theorem zw_iinc_8_m1 {g : Gt} {M : Mt} {pc pc1 : Nat} {st : List Value} {σ : St} {x : Int32} {a0 a1 a2 a3 a4 a5 a6 a7 : Option Value} {r : List (Option Value)} (X : CX g M) (d : Dc M pc pc1 (.iinc 8 (-1)) 3) (k : ZW g pc1 (a0 :: a1 :: a2 :: a3 :: a4 :: a5 :: a6 :: a7 :: some (.int (x + (-1))) :: r) st σ) (hp : nlg a7 = true := by rfl) : ZW g pc (a0 :: a1 :: a2 :: a3 :: a4 :: a5 :: a6 :: a7 :: some (.int x) :: r) st σ := zw_iinc (i := 8) (x := x) X d rfl (congrArg (x + ·) (by decide)) (by simp) hp k
theorem zw_iinc_8_p2 {g : Gt} {M : Mt} {pc pc1 : Nat} {st : List Value} {σ : St} {x : Int32} {a0 a1 a2 a3 a4 a5 a6 a7 : Option Value} {r : List (Option Value)} (X : CX g M) (d : Dc M pc pc1 (.iinc 8 2) 3) (k : ZW g pc1 (a0 :: a1 :: a2 :: a3 :: a4 :: a5 :: a6 :: a7 :: some (.int (x + 2)) :: r) st σ) (hp : nlg a7 = true := by rfl) : ZW g pc (a0 :: a1 :: a2 :: a3 :: a4 :: a5 :: a6 :: a7 :: some (.int x) :: r) st σ := zw_iinc (i := 8) (x := x) X d rfl (congrArg (x + ·) (by decide)) (by simp) hp k
theorem zw_iinc_8_p3 {g : Gt} {M : Mt} {pc pc1 : Nat} {st : List Value} {σ : St} {x : Int32} {a0 a1 a2 a3 a4 a5 a6 a7 : Option Value} {r : List (Option Value)} (X : CX g M) (d : Dc M pc pc1 (.iinc 8 3) 3) (k : ZW g pc1 (a0 :: a1 :: a2 :: a3 :: a4 :: a5 :: a6 :: a7 :: some (.int (x + 3)) :: r) st σ) (hp : nlg a7 = true := by rfl) : ZW g pc (a0 :: a1 :: a2 :: a3 :: a4 :: a5 :: a6 :: a7 :: some (.int x) :: r) st σ := zw_iinc (i := 8) (x := x) X d rfl (congrArg (x + ·) (by decide)) (by simp) hp k
theorem zw_istore_9 {g : Gt} {M : Mt} {pc pc1 : Nat} {st : List Value} {σ : St} {x : Int32} {a0 a1 a2 a3 a4 a5 a6 a7 a8 : Option Value} {b : Option Value} {r : List (Option Value)} (X : CX g M) (d : Dc M pc pc1 (.istore 9) 2) (k : ZW g pc1 (a0 :: a1 :: a2 :: a3 :: a4 :: a5 :: a6 :: a7 :: a8 :: some (.int x) :: r) st σ) (hp : nlg a8 = true := by rfl) : ZW g pc (a0 :: a1 :: a2 :: a3 :: a4 :: a5 :: a6 :: a7 :: a8 :: b :: r) (.int x :: st) σ := zw_istore (i := 9) X d (by simp) hp k
theorem zw_iinc_9_p1 {g : Gt} {M : Mt} {pc pc1 : Nat} {st : List Value} {σ : St} {x : Int32} {a0 a1 a2 a3 a4 a5 a6 a7 a8 : Option Value} {r : List (Option Value)} (X : CX g M) (d : Dc M pc pc1 (.iinc 9 1) 3) (k : ZW g pc1 (a0 :: a1 :: a2 :: a3 :: a4 :: a5 :: a6 :: a7 :: a8 :: some (.int (x + 1)) :: r) st σ) (hp : nlg a8 = true := by rfl) : ZW g pc (a0 :: a1 :: a2 :: a3 :: a4 :: a5 :: a6 :: a7 :: a8 :: some (.int x) :: r) st σ := zw_iinc (i := 9) (x := x) X d rfl (congrArg (x + ·) (by decide)) (by simp) hp k
theorem zw_iinc_9_m1 {g : Gt} {M : Mt} {pc pc1 : Nat} {st : List Value} {σ : St} {x : Int32} {a0 a1 a2 a3 a4 a5 a6 a7 a8 : Option Value} {r : List (Option Value)} (X : CX g M) (d : Dc M pc pc1 (.iinc 9 (-1)) 3) (k : ZW g pc1 (a0 :: a1 :: a2 :: a3 :: a4 :: a5 :: a6 :: a7 :: a8 :: some (.int (x + (-1))) :: r) st σ) (hp : nlg a8 = true := by rfl) : ZW g pc (a0 :: a1 :: a2 :: a3 :: a4 :: a5 :: a6 :: a7 :: a8 :: some (.int x) :: r) st σ := zw_iinc (i := 9) (x := x) X d rfl (congrArg (x + ·) (by decide)) (by simp) hp k
theorem zw_iinc_9_p2 {g : Gt} {M : Mt} {pc pc1 : Nat} {st : List Value} {σ : St} {x : Int32} {a0 a1 a2 a3 a4 a5 a6 a7 a8 : Option Value} {r : List (Option Value)} (X : CX g M) (d : Dc M pc pc1 (.iinc 9 2) 3) (k : ZW g pc1 (a0 :: a1 :: a2 :: a3 :: a4 :: a5 :: a6 :: a7 :: a8 :: some (.int (x + 2)) :: r) st σ) (hp : nlg a8 = true := by rfl) : ZW g pc (a0 :: a1 :: a2 :: a3 :: a4 :: a5 :: a6 :: a7 :: a8 :: some (.int x) :: r) st σ := zw_iinc (i := 9) (x := x) X d rfl (congrArg (x + ·) (by decide)) (by simp) hp k
theorem zw_iinc_9_p3 {g : Gt} {M : Mt} {pc pc1 : Nat} {st : List Value} {σ : St} {x : Int32} {a0 a1 a2 a3 a4 a5 a6 a7 a8 : Option Value} {r : List (Option Value)} (X : CX g M) (d : Dc M pc pc1 (.iinc 9 3) 3) (k : ZW g pc1 (a0 :: a1 :: a2 :: a3 :: a4 :: a5 :: a6 :: a7 :: a8 :: some (.int (x + 3)) :: r) st σ) (hp : nlg a8 = true := by rfl) : ZW g pc (a0 :: a1 :: a2 :: a3 :: a4 :: a5 :: a6 :: a7 :: a8 :: some (.int x) :: r) st σ := zw_iinc (i := 9) (x := x) X d rfl (congrArg (x + ·) (by decide)) (by simp) hp k
theorem zw_istore_10 {g : Gt} {M : Mt} {pc pc1 : Nat} {st : List Value} {σ : St} {x : Int32} {a0 a1 a2 a3 a4 a5 a6 a7 a8 a9 : Option Value} {b : Option Value} {r : List (Option Value)} (X : CX g M) (d : Dc M pc pc1 (.istore 10) 2) (k : ZW g pc1 (a0 :: a1 :: a2 :: a3 :: a4 :: a5 :: a6 :: a7 :: a8 :: a9 :: some (.int x) :: r) st σ) (hp : nlg a9 = true := by rfl) : ZW g pc (a0 :: a1 :: a2 :: a3 :: a4 :: a5 :: a6 :: a7 :: a8 :: a9 :: b :: r) (.int x :: st) σ := zw_istore (i := 10) X d (by simp) hp k
theorem zw_iinc_10_p1 {g : Gt} {M : Mt} {pc pc1 : Nat} {st : List Value} {σ : St} {x : Int32} {a0 a1 a2 a3 a4 a5 a6 a7 a8 a9 : Option Value} {r : List (Option Value)} (X : CX g M) (d : Dc M pc pc1 (.iinc 10 1) 3) (k : ZW g pc1 (a0 :: a1 :: a2 :: a3 :: a4 :: a5 :: a6 :: a7 :: a8 :: a9 :: some (.int (x + 1)) :: r) st σ) (hp : nlg a9 = true := by rfl) : ZW g pc (a0 :: a1 :: a2 :: a3 :: a4 :: a5 :: a6 :: a7 :: a8 :: a9 :: some (.int x) :: r) st σ := zw_iinc (i := 10) (x := x) X d rfl (congrArg (x + ·) (by decide)) (by simp) hp k
theorem zw_iinc_10_m1 {g : Gt} {M : Mt} {pc pc1 : Nat} {st : List Value} {σ : St} {x : Int32} {a0 a1 a2 a3 a4 a5 a6 a7 a8 a9 : Option Value} {r : List (Option Value)} (X : CX g M) (d : Dc M pc pc1 (.iinc 10 (-1)) 3) (k : ZW g pc1 (a0 :: a1 :: a2 :: a3 :: a4 :: a5 :: a6 :: a7 :: a8 :: a9 :: some (.int (x + (-1))) :: r) st σ) (hp : nlg a9 = true := by rfl) : ZW g pc (a0 :: a1 :: a2 :: a3 :: a4 :: a5 :: a6 :: a7 :: a8 :: a9 :: some (.int x) :: r) st σ := zw_iinc (i := 10) (x := x) X d rfl (congrArg (x + ·) (by decide)) (by simp) hp k
theorem zw_iinc_10_p2 {g : Gt} {M : Mt} {pc pc1 : Nat} {st : List Value} {σ : St} {x : Int32} {a0 a1 a2 a3 a4 a5 a6 a7 a8 a9 : Option Value} {r : List (Option Value)} (X : CX g M) (d : Dc M pc pc1 (.iinc 10 2) 3) (k : ZW g pc1 (a0 :: a1 :: a2 :: a3 :: a4 :: a5 :: a6 :: a7 :: a8 :: a9 :: some (.int (x + 2)) :: r) st σ) (hp : nlg a9 = true := by rfl) : ZW g pc (a0 :: a1 :: a2 :: a3 :: a4 :: a5 :: a6 :: a7 :: a8 :: a9 :: some (.int x) :: r) st σ := zw_iinc (i := 10) (x := x) X d rfl (congrArg (x + ·) (by decide)) (by simp) hp k
theorem zw_iinc_10_p3 {g : Gt} {M : Mt} {pc pc1 : Nat} {st : List Value} {σ : St} {x : Int32} {a0 a1 a2 a3 a4 a5 a6 a7 a8 a9 : Option Value} {r : List (Option Value)} (X : CX g M) (d : Dc M pc pc1 (.iinc 10 3) 3) (k : ZW g pc1 (a0 :: a1 :: a2 :: a3 :: a4 :: a5 :: a6 :: a7 :: a8 :: a9 :: some (.int (x + 3)) :: r) st σ) (hp : nlg a9 = true := by rfl) : ZW g pc (a0 :: a1 :: a2 :: a3 :: a4 :: a5 :: a6 :: a7 :: a8 :: a9 :: some (.int x) :: r) st σ := zw_iinc (i := 10) (x := x) X d rfl (congrArg (x + ·) (by decide)) (by simp) hp k
theorem zw_istore_11 {g : Gt} {M : Mt} {pc pc1 : Nat} {st : List Value} {σ : St} {x : Int32} {a0 a1 a2 a3 a4 a5 a6 a7 a8 a9 a10 : Option Value} {b : Option Value} {r : List (Option Value)} (X : CX g M) (d : Dc M pc pc1 (.istore 11) 2) (k : ZW g pc1 (a0 :: a1 :: a2 :: a3 :: a4 :: a5 :: a6 :: a7 :: a8 :: a9 :: a10 :: some (.int x) :: r) st σ) (hp : nlg a10 = true := by rfl) : ZW g pc (a0 :: a1 :: a2 :: a3 :: a4 :: a5 :: a6 :: a7 :: a8 :: a9 :: a10 :: b :: r) (.int x :: st) σ := zw_istore (i := 11) X d (by simp) hp k
theorem zw_iinc_11_p1 {g : Gt} {M : Mt} {pc pc1 : Nat} {st : List Value} {σ : St} {x : Int32} {a0 a1 a2 a3 a4 a5 a6 a7 a8 a9 a10 : Option Value} {r : List (Option Value)} (X : CX g M) (d : Dc M pc pc1 (.iinc 11 1) 3) (k : ZW g pc1 (a0 :: a1 :: a2 :: a3 :: a4 :: a5 :: a6 :: a7 :: a8 :: a9 :: a10 :: some (.int (x + 1)) :: r) st σ) (hp : nlg a10 = true := by rfl) : ZW g pc (a0 :: a1 :: a2 :: a3 :: a4 :: a5 :: a6 :: a7 :: a8 :: a9 :: a10 :: some (.int x) :: r) st σ := zw_iinc (i := 11) (x := x) X d rfl (congrArg (x + ·) (by decide)) (by simp) hp k
theorem zw_iinc_11_m1 {g : Gt} {M : Mt} {pc pc1 : Nat} {st : List Value} {σ : St} {x : Int32} {a0 a1 a2 a3 a4 a5 a6 a7 a8 a9 a10 : Option Value} {r : List (Option Value)} (X : CX g M) (d : Dc M pc pc1 (.iinc 11 (-1)) 3) (k : ZW g pc1 (a0 :: a1 :: a2 :: a3 :: a4 :: a5 :: a6 :: a7 :: a8 :: a9 :: a10 :: some (.int (x + (-1))) :: r) st σ) (hp : nlg a10 = true := by rfl) : ZW g pc (a0 :: a1 :: a2 :: a3 :: a4 :: a5 :: a6 :: a7 :: a8 :: a9 :: a10 :: some (.int x) :: r) st σ := zw_iinc (i := 11) (x := x) X d rfl (congrArg (x + ·) (by decide)) (by simp) hp k
theorem zw_iinc_11_p2 {g : Gt} {M : Mt} {pc pc1 : Nat} {st : List Value} {σ : St} {x : Int32} {a0 a1 a2 a3 a4 a5 a6 a7 a8 a9 a10 : Option Value} {r : List (Option Value)} (X : CX g M) (d : Dc M pc pc1 (.iinc 11 2) 3) (k : ZW g pc1 (a0 :: a1 :: a2 :: a3 :: a4 :: a5 :: a6 :: a7 :: a8 :: a9 :: a10 :: some (.int (x + 2)) :: r) st σ) (hp : nlg a10 = true := by rfl) : ZW g pc (a0 :: a1 :: a2 :: a3 :: a4 :: a5 :: a6 :: a7 :: a8 :: a9 :: a10 :: some (.int x) :: r) st σ := zw_iinc (i := 11) (x := x) X d rfl (congrArg (x + ·) (by decide)) (by simp) hp k
theorem zw_iinc_11_p3 {g : Gt} {M : Mt} {pc pc1 : Nat} {st : List Value} {σ : St} {x : Int32} {a0 a1 a2 a3 a4 a5 a6 a7 a8 a9 a10 : Option Value} {r : List (Option Value)} (X : CX g M) (d : Dc M pc pc1 (.iinc 11 3) 3) (k : ZW g pc1 (a0 :: a1 :: a2 :: a3 :: a4 :: a5 :: a6 :: a7 :: a8 :: a9 :: a10 :: some (.int (x + 3)) :: r) st σ) (hp : nlg a10 = true := by rfl) : ZW g pc (a0 :: a1 :: a2 :: a3 :: a4 :: a5 :: a6 :: a7 :: a8 :: a9 :: a10 :: some (.int x) :: r) st σ := zw_iinc (i := 11) (x := x) X d rfl (congrArg (x + ·) (by decide)) (by simp) hp k
theorem zw_istore_12 {g : Gt} {M : Mt} {pc pc1 : Nat} {st : List Value} {σ : St} {x : Int32} {a0 a1 a2 a3 a4 a5 a6 a7 a8 a9 a10 a11 : Option Value} {b : Option Value} {r : List (Option Value)} (X : CX g M) (d : Dc M pc pc1 (.istore 12) 2) (k : ZW g pc1 (a0 :: a1 :: a2 :: a3 :: a4 :: a5 :: a6 :: a7 :: a8 :: a9 :: a10 :: a11 :: some (.int x) :: r) st σ) (hp : nlg a11 = true := by rfl) : ZW g pc (a0 :: a1 :: a2 :: a3 :: a4 :: a5 :: a6 :: a7 :: a8 :: a9 :: a10 :: a11 :: b :: r) (.int x :: st) σ := zw_istore (i := 12) X d (by simp) hp k
theorem zw_iinc_12_p1 {g : Gt} {M : Mt} {pc pc1 : Nat} {st : List Value} {σ : St} {x : Int32} {a0 a1 a2 a3 a4 a5 a6 a7 a8 a9 a10 a11 : Option Value} {r : List (Option Value)} (X : CX g M) (d : Dc M pc pc1 (.iinc 12 1) 3) (k : ZW g pc1 (a0 :: a1 :: a2 :: a3 :: a4 :: a5 :: a6 :: a7 :: a8 :: a9 :: a10 :: a11 :: some (.int (x + 1)) :: r) st σ) (hp : nlg a11 = true := by rfl) : ZW g pc (a0 :: a1 :: a2 :: a3 :: a4 :: a5 :: a6 :: a7 :: a8 :: a9 :: a10 :: a11 :: some (.int x) :: r) st σ := zw_iinc (i := 12) (x := x) X d rfl (congrArg (x + ·) (by decide)) (by simp) hp k
theorem zw_iinc_12_m1 {g : Gt} {M : Mt} {pc pc1 : Nat} {st : List Value} {σ : St} {x : Int32} {a0 a1 a2 a3 a4 a5 a6 a7 a8 a9 a10 a11 : Option Value} {r : List (Option Value)} (X : CX g M) (d : Dc M pc pc1 (.iinc 12 (-1)) 3) (k : ZW g pc1 (a0 :: a1 :: a2 :: a3 :: a4 :: a5 :: a6 :: a7 :: a8 :: a9 :: a10 :: a11 :: some (.int (x + (-1))) :: r) st σ) (hp : nlg a11 = true := by rfl) : ZW g pc (a0 :: a1 :: a2 :: a3 :: a4 :: a5 :: a6 :: a7 :: a8 :: a9 :: a10 :: a11 :: some (.int x) :: r) st σ := zw_iinc (i := 12) (x := x) X d rfl (congrArg (x + ·) (by decide)) (by simp) hp k
theorem zw_iinc_12_p2 {g : Gt} {M : Mt} {pc pc1 : Nat} {st : List Value} {σ : St} {x : Int32} {a0 a1 a2 a3 a4 a5 a6 a7 a8 a9 a10 a11 : Option Value} {r : List (Option Value)} (X : CX g M) (d : Dc M pc pc1 (.iinc 12 2) 3) (k : ZW g pc1 (a0 :: a1 :: a2 :: a3 :: a4 :: a5 :: a6 :: a7 :: a8 :: a9 :: a10 :: a11 :: some (.int (x + 2)) :: r) st σ) (hp : nlg a11 = true := by rfl) : ZW g pc (a0 :: a1 :: a2 :: a3 :: a4 :: a5 :: a6 :: a7 :: a8 :: a9 :: a10 :: a11 :: some (.int x) :: r) st σ := zw_iinc (i := 12) (x := x) X d rfl (congrArg (x + ·) (by decide)) (by simp) hp k
theorem zw_iinc_12_p3 {g : Gt} {M : Mt} {pc pc1 : Nat} {st : List Value} {σ : St} {x : Int32} {a0 a1 a2 a3 a4 a5 a6 a7 a8 a9 a10 a11 : Option Value} {r : List (Option Value)} (X : CX g M) (d : Dc M pc pc1 (.iinc 12 3) 3) (k : ZW g pc1 (a0 :: a1 :: a2 :: a3 :: a4 :: a5 :: a6 :: a7 :: a8 :: a9 :: a10 :: a11 :: some (.int (x + 3)) :: r) st σ) (hp : nlg a11 = true := by rfl) : ZW g pc (a0 :: a1 :: a2 :: a3 :: a4 :: a5 :: a6 :: a7 :: a8 :: a9 :: a10 :: a11 :: some (.int x) :: r) st σ := zw_iinc (i := 12) (x := x) X d rfl (congrArg (x + ·) (by decide)) (by simp) hp k
theorem zw_istore_13 {g : Gt} {M : Mt} {pc pc1 : Nat} {st : List Value} {σ : St} {x : Int32} {a0 a1 a2 a3 a4 a5 a6 a7 a8 a9 a10 a11 a12 : Option Value} {b : Option Value} {r : List (Option Value)} (X : CX g M) (d : Dc M pc pc1 (.istore 13) 2) (k : ZW g pc1 (a0 :: a1 :: a2 :: a3 :: a4 :: a5 :: a6 :: a7 :: a8 :: a9 :: a10 :: a11 :: a12 :: some (.int x) :: r) st σ) (hp : nlg a12 = true := by rfl) : ZW g pc (a0 :: a1 :: a2 :: a3 :: a4 :: a5 :: a6 :: a7 :: a8 :: a9 :: a10 :: a11 :: a12 :: b :: r) (.int x :: st) σ := zw_istore (i := 13) X d (by simp) hp k
theorem zw_iinc_13_p1 {g : Gt} {M : Mt} {pc pc1 : Nat} {st : List Value} {σ : St} {x : Int32} {a0 a1 a2 a3 a4 a5 a6 a7 a8 a9 a10 a11 a12 : Option Value} {r : List (Option Value)} (X : CX g M) (d : Dc M pc pc1 (.iinc 13 1) 3) (k : ZW g pc1 (a0 :: a1 :: a2 :: a3 :: a4 :: a5 :: a6 :: a7 :: a8 :: a9 :: a10 :: a11 :: a12 :: some (.int (x + 1)) :: r) st σ) (hp : nlg a12 = true := by rfl) : ZW g pc (a0 :: a1 :: a2 :: a3 :: a4 :: a5 :: a6 :: a7 :: a8 :: a9 :: a10 :: a11 :: a12 :: some (.int x) :: r) st σ := zw_iinc (i := 13) (x := x) X d rfl (congrArg (x + ·) (by decide)) (by simp) hp k
theorem zw_iinc_13_m1 {g : Gt} {M : Mt} {pc pc1 : Nat} {st : List Value} {σ : St} {x : Int32} {a0 a1 a2 a3 a4 a5 a6 a7 a8 a9 a10 a11 a12 : Option Value} {r : List (Option Value)} (X : CX g M) (d : Dc M pc pc1 (.iinc 13 (-1)) 3) (k : ZW g pc1 (a0 :: a1 :: a2 :: a3 :: a4 :: a5 :: a6 :: a7 :: a8 :: a9 :: a10 :: a11 :: a12 :: some (.int (x + (-1))) :: r) st σ) (hp : nlg a12 = true := by rfl) : ZW g pc (a0 :: a1 :: a2 :: a3 :: a4 :: a5 :: a6 :: a7 :: a8 :: a9 :: a10 :: a11 :: a12 :: some (.int x) :: r) st σ := zw_iinc (i := 13) (x := x) X d rfl (congrArg (x + ·) (by decide)) (by simp) hp k
theorem zw_iinc_13_p2 {g : Gt} {M : Mt} {pc pc1 : Nat} {st : List Value} {σ : St} {x : Int32} {a0 a1 a2 a3 a4 a5 a6 a7 a8 a9 a10 a11 a12 : Option Value} {r : List (Option Value)} (X : CX g M) (d : Dc M pc pc1 (.iinc 13 2) 3) (k : ZW g pc1 (a0 :: a1 :: a2 :: a3 :: a4 :: a5 :: a6 :: a7 :: a8 :: a9 :: a10 :: a11 :: a12 :: some (.int (x + 2)) :: r) st σ) (hp : nlg a12 = true := by rfl) : ZW g pc (a0 :: a1 :: a2 :: a3 :: a4 :: a5 :: a6 :: a7 :: a8 :: a9 :: a10 :: a11 :: a12 :: some (.int x) :: r) st σ := zw_iinc (i := 13) (x := x) X d rfl (congrArg (x + ·) (by decide)) (by simp) hp k
theorem zw_iinc_13_p3 {g : Gt} {M : Mt} {pc pc1 : Nat} {st : List Value} {σ : St} {x : Int32} {a0 a1 a2 a3 a4 a5 a6 a7 a8 a9 a10 a11 a12 : Option Value} {r : List (Option Value)} (X : CX g M) (d : Dc M pc pc1 (.iinc 13 3) 3) (k : ZW g pc1 (a0 :: a1 :: a2 :: a3 :: a4 :: a5 :: a6 :: a7 :: a8 :: a9 :: a10 :: a11 :: a12 :: some (.int (x + 3)) :: r) st σ) (hp : nlg a12 = true := by rfl) : ZW g pc (a0 :: a1 :: a2 :: a3 :: a4 :: a5 :: a6 :: a7 :: a8 :: a9 :: a10 :: a11 :: a12 :: some (.int x) :: r) st σ := zw_iinc (i := 13) (x := x) X d rfl (congrArg (x + ·) (by decide)) (by simp) hp k
theorem zw_lstore_0 {g : Gt} {M : Mt} {pc pc1 : Nat} {st : List Value} {σ : St} {x : Int64} {b b1 : Option Value} {r : List (Option Value)} (X : CX g M) (d : Dc M pc pc1 (.lstore_n 0) 1) (k : ZW g pc1 (some (.long x) :: none :: r) st σ) : ZW g pc (b :: b1 :: r) (.long x :: st) σ := zw_lstoren (i := 0) X (q := 0) rfl d (by simp) rfl k
theorem zw_lstore_1 {g : Gt} {M : Mt} {pc pc1 : Nat} {st : List Value} {σ : St} {x : Int64} {a0 : Option Value} {b b1 : Option Value} {r : List (Option Value)} (X : CX g M) (d : Dc M pc pc1 (.lstore_n 1) 1) (k : ZW g pc1 (a0 :: some (.long x) :: none :: r) st σ) (hp : nlg a0 = true := by rfl) : ZW g pc (a0 :: b :: b1 :: r) (.long x :: st) σ := zw_lstoren (i := 1) X (q := 1) rfl d (by simp) hp k
theorem zw_lstore_2 {g : Gt} {M : Mt} {pc pc1 : Nat} {st : List Value} {σ : St} {x : Int64} {a0 a1 : Option Value} {b b1 : Option Value} {r : List (Option Value)} (X : CX g M) (d : Dc M pc pc1 (.lstore_n 2) 1) (k : ZW g pc1 (a0 :: a1 :: some (.long x) :: none :: r) st σ) (hp : nlg a1 = true := by rfl) : ZW g pc (a0 :: a1 :: b :: b1 :: r) (.long x :: st) σ := zw_lstoren (i := 2) X (q := 2) rfl d (by simp) hp k
theorem zw_lstore_3 {g : Gt} {M : Mt} {pc pc1 : Nat} {st : List Value} {σ : St} {x : Int64} {a0 a1 a2 : Option Value} {b b1 : Option Value} {r : List (Option Value)} (X : CX g M) (d : Dc M pc pc1 (.lstore_n 3) 1) (k : ZW g pc1 (a0 :: a1 :: a2 :: some (.long x) :: none :: r) st σ) (hp : nlg a2 = true := by rfl) : ZW g pc (a0 :: a1 :: a2 :: b :: b1 :: r) (.long x :: st) σ := zw_lstoren (i := 3) X (q := 3) rfl d (by simp) hp k
theorem zw_lstore_4 {g : Gt} {M : Mt} {pc pc1 : Nat} {st : List Value} {σ : St} {x : Int64} {a0 a1 a2 a3 : Option Value} {b b1 : Option Value} {r : List (Option Value)} (X : CX g M) (d : Dc M pc pc1 (.lstore 4) 2) (k : ZW g pc1 (a0 :: a1 :: a2 :: a3 :: some (.long x) :: none :: r) st σ) (hp : nlg a3 = true := by rfl) : ZW g pc (a0 :: a1 :: a2 :: a3 :: b :: b1 :: r) (.long x :: st) σ := zw_lstore (i := 4) X d (by simp) hp k
theorem zw_lstore_5 {g : Gt} {M : Mt} {pc pc1 : Nat} {st : List Value} {σ : St} {x : Int64} {a0 a1 a2 a3 a4 : Option Value} {b b1 : Option Value} {r : List (Option Value)} (X : CX g M) (d : Dc M pc pc1 (.lstore 5) 2) (k : ZW g pc1 (a0 :: a1 :: a2 :: a3 :: a4 :: some (.long x) :: none :: r) st σ) (hp : nlg a4 = true := by rfl) : ZW g pc (a0 :: a1 :: a2 :: a3 :: a4 :: b :: b1 :: r) (.long x :: st) σ := zw_lstore (i := 5) X d (by simp) hp k
theorem zw_lstore_6 {g : Gt} {M : Mt} {pc pc1 : Nat} {st : List Value} {σ : St} {x : Int64} {a0 a1 a2 a3 a4 a5 : Option Value} {b b1 : Option Value} {r : List (Option Value)} (X : CX g M) (d : Dc M pc pc1 (.lstore 6) 2) (k : ZW g pc1 (a0 :: a1 :: a2 :: a3 :: a4 :: a5 :: some (.long x) :: none :: r) st σ) (hp : nlg a5 = true := by rfl) : ZW g pc (a0 :: a1 :: a2 :: a3 :: a4 :: a5 :: b :: b1 :: r) (.long x :: st) σ := zw_lstore (i := 6) X d (by simp) hp k
theorem zw_lstore_7 {g : Gt} {M : Mt} {pc pc1 : Nat} {st : List Value} {σ : St} {x : Int64} {a0 a1 a2 a3 a4 a5 a6 : Option Value} {b b1 : Option Value} {r : List (Option Value)} (X : CX g M) (d : Dc M pc pc1 (.lstore 7) 2) (k : ZW g pc1 (a0 :: a1 :: a2 :: a3 :: a4 :: a5 :: a6 :: some (.long x) :: none :: r) st σ) (hp : nlg a6 = true := by rfl) : ZW g pc (a0 :: a1 :: a2 :: a3 :: a4 :: a5 :: a6 :: b :: b1 :: r) (.long x :: st) σ := zw_lstore (i := 7) X d (by simp) hp k
theorem zw_lstore_8 {g : Gt} {M : Mt} {pc pc1 : Nat} {st : List Value} {σ : St} {x : Int64} {a0 a1 a2 a3 a4 a5 a6 a7 : Option Value} {b b1 : Option Value} {r : List (Option Value)} (X : CX g M) (d : Dc M pc pc1 (.lstore 8) 2) (k : ZW g pc1 (a0 :: a1 :: a2 :: a3 :: a4 :: a5 :: a6 :: a7 :: some (.long x) :: none :: r) st σ) (hp : nlg a7 = true := by rfl) : ZW g pc (a0 :: a1 :: a2 :: a3 :: a4 :: a5 :: a6 :: a7 :: b :: b1 :: r) (.long x :: st) σ := zw_lstore (i := 8) X d (by simp) hp k
theorem zw_lstore_9 {g : Gt} {M : Mt} {pc pc1 : Nat} {st : List Value} {σ : St} {x : Int64} {a0 a1 a2 a3 a4 a5 a6 a7 a8 : Option Value} {b b1 : Option Value} {r : List (Option Value)} (X : CX g M) (d : Dc M pc pc1 (.lstore 9) 2) (k : ZW g pc1 (a0 :: a1 :: a2 :: a3 :: a4 :: a5 :: a6 :: a7 :: a8 :: some (.long x) :: none :: r) st σ) (hp : nlg a8 = true := by rfl) : ZW g pc (a0 :: a1 :: a2 :: a3 :: a4 :: a5 :: a6 :: a7 :: a8 :: b :: b1 :: r) (.long x :: st) σ := zw_lstore (i := 9) X d (by simp) hp k
theorem zw_lstore_10 {g : Gt} {M : Mt} {pc pc1 : Nat} {st : List Value} {σ : St} {x : Int64} {a0 a1 a2 a3 a4 a5 a6 a7 a8 a9 : Option Value} {b b1 : Option Value} {r : List (Option Value)} (X : CX g M) (d : Dc M pc pc1 (.lstore 10) 2) (k : ZW g pc1 (a0 :: a1 :: a2 :: a3 :: a4 :: a5 :: a6 :: a7 :: a8 :: a9 :: some (.long x) :: none :: r) st σ) (hp : nlg a9 = true := by rfl) : ZW g pc (a0 :: a1 :: a2 :: a3 :: a4 :: a5 :: a6 :: a7 :: a8 :: a9 :: b :: b1 :: r) (.long x :: st) σ := zw_lstore (i := 10) X d (by simp) hp k
theorem zw_lstore_11 {g : Gt} {M : Mt} {pc pc1 : Nat} {st : List Value} {σ : St} {x : Int64} {a0 a1 a2 a3 a4 a5 a6 a7 a8 a9 a10 : Option Value} {b b1 : Option Value} {r : List (Option Value)} (X : CX g M) (d : Dc M pc pc1 (.lstore 11) 2) (k : ZW g pc1 (a0 :: a1 :: a2 :: a3 :: a4 :: a5 :: a6 :: a7 :: a8 :: a9 :: a10 :: some (.long x) :: none :: r) st σ) (hp : nlg a10 = true := by rfl) : ZW g pc (a0 :: a1 :: a2 :: a3 :: a4 :: a5 :: a6 :: a7 :: a8 :: a9 :: a10 :: b :: b1 :: r) (.long x :: st) σ := zw_lstore (i := 11) X d (by simp) hp k
section ZS
variable {g : Gt} {M : Mt} {pc pc1 : Nat} {ls : List (Option Value)} {st : List Value} {σ : St}
theorem zw_iconst {n : Int} {v : Int32} (X : CX g M) (d : Dc M pc pc1 (.iconst n) 1) (hv : Int32.ofInt n = v) (k : ZW g pc1 ls (.int v :: st) σ) : ZW g pc ls (st) σ := by
  obtain ⟨⟨p, l, e, R, s, m, args, below, meth, c⟩, D, ad, cA, A, ⟨kc, ks⟩, Q⟩ := g
  obtain ⟨hx, hb, -⟩ := X
  obtain ⟨d1, rfl⟩ := d
  intro H locs lsa hP hD hS hn hh
  exact lv_iconst hx hb d1 hv (k H locs lsa hP hD hS hn hh)
theorem zw_bipush {n : Int} {v : Int32} (X : CX g M) (d : Dc M pc pc1 (.bipush n) 2) (hv : (Int8.ofInt n).toInt32 = v) (k : ZW g pc1 ls (.int v :: st) σ) : ZW g pc ls (st) σ := by
  obtain ⟨⟨p, l, e, R, s, m, args, below, meth, c⟩, D, ad, cA, A, ⟨kc, ks⟩, Q⟩ := g
  obtain ⟨hx, hb, -⟩ := X
  obtain ⟨d1, rfl⟩ := d
  intro H locs lsa hP hD hS hn hh
  exact lv_bipush hx hb d1 hv (k H locs lsa hP hD hS hn hh)
theorem zw_sipush {n : Int} {v : Int32} (X : CX g M) (d : Dc M pc pc1 (.sipush n) 3) (hv : (Int16.ofInt n).toInt32 = v) (k : ZW g pc1 ls (.int v :: st) σ) : ZW g pc ls (st) σ := by
  obtain ⟨⟨p, l, e, R, s, m, args, below, meth, c⟩, D, ad, cA, A, ⟨kc, ks⟩, Q⟩ := g
  obtain ⟨hx, hb, -⟩ := X
  obtain ⟨d1, rfl⟩ := d
  intro H locs lsa hP hD hS hn hh
  exact lv_sipush hx hb d1 hv (k H locs lsa hP hD hS hn hh)
theorem zw_lconst {n : Fin 2} {v : Int64} (X : CX g M) (d : Dc M pc pc1 (.lconst n) 1) (hv : Int64.ofNat (n : Nat) = v) (k : ZW g pc1 ls (.long v :: st) σ) : ZW g pc ls (st) σ := by
  obtain ⟨⟨p, l, e, R, s, m, args, below, meth, c⟩, D, ad, cA, A, ⟨kc, ks⟩, Q⟩ := g
  obtain ⟨hx, hb, -⟩ := X
  obtain ⟨d1, rfl⟩ := d
  intro H locs lsa hP hD hS hn hh
  exact lv_lconst hx hb d1 hv (k H locs lsa hP hD hS hn hh)
theorem zw_iadd {x y : Int32} (X : CX g M) (d : Dc M pc pc1 .iadd 1) (k : ZW g pc1 ls (.int (x + y) :: st) σ) : ZW g pc ls (.int y :: .int x :: st) σ := by
  obtain ⟨⟨p, l, e, R, s, m, args, below, meth, c⟩, D, ad, cA, A, ⟨kc, ks⟩, Q⟩ := g
  obtain ⟨hx, hb, -⟩ := X
  obtain ⟨d1, rfl⟩ := d
  intro H locs lsa hP hD hS hn hh
  exact lv_iadd hx hb d1 (k H locs lsa hP hD hS hn hh)
theorem zw_isub {x y : Int32} (X : CX g M) (d : Dc M pc pc1 .isub 1) (k : ZW g pc1 ls (.int (x - y) :: st) σ) : ZW g pc ls (.int y :: .int x :: st) σ := by
  obtain ⟨⟨p, l, e, R, s, m, args, below, meth, c⟩, D, ad, cA, A, ⟨kc, ks⟩, Q⟩ := g
  obtain ⟨hx, hb, -⟩ := X
  obtain ⟨d1, rfl⟩ := d
  intro H locs lsa hP hD hS hn hh
  exact lv_isub hx hb d1 (k H locs lsa hP hD hS hn hh)
theorem zw_imul {x y : Int32} (X : CX g M) (d : Dc M pc pc1 .imul 1) (k : ZW g pc1 ls (.int (x * y) :: st) σ) : ZW g pc ls (.int y :: .int x :: st) σ := by
  obtain ⟨⟨p, l, e, R, s, m, args, below, meth, c⟩, D, ad, cA, A, ⟨kc, ks⟩, Q⟩ := g
  obtain ⟨hx, hb, -⟩ := X
  obtain ⟨d1, rfl⟩ := d
  intro H locs lsa hP hD hS hn hh
  exact lv_imul hx hb d1 (k H locs lsa hP hD hS hn hh)
theorem zw_iand {x y : Int32} (X : CX g M) (d : Dc M pc pc1 .iand 1) (k : ZW g pc1 ls (.int (x &&& y) :: st) σ) : ZW g pc ls (.int y :: .int x :: st) σ := by
  obtain ⟨⟨p, l, e, R, s, m, args, below, meth, c⟩, D, ad, cA, A, ⟨kc, ks⟩, Q⟩ := g
  obtain ⟨hx, hb, -⟩ := X
  obtain ⟨d1, rfl⟩ := d
  intro H locs lsa hP hD hS hn hh
  exact lv_iand hx hb d1 (k H locs lsa hP hD hS hn hh)
theorem zw_ior {x y : Int32} (X : CX g M) (d : Dc M pc pc1 .ior 1) (k : ZW g pc1 ls (.int (x ||| y) :: st) σ) : ZW g pc ls (.int y :: .int x :: st) σ := by
  obtain ⟨⟨p, l, e, R, s, m, args, below, meth, c⟩, D, ad, cA, A, ⟨kc, ks⟩, Q⟩ := g
  obtain ⟨hx, hb, -⟩ := X
  obtain ⟨d1, rfl⟩ := d
  intro H locs lsa hP hD hS hn hh
  exact lv_ior hx hb d1 (k H locs lsa hP hD hS hn hh)
theorem zw_ixor {x y : Int32} (X : CX g M) (d : Dc M pc pc1 .ixor 1) (k : ZW g pc1 ls (.int (x ^^^ y) :: st) σ) : ZW g pc ls (.int y :: .int x :: st) σ := by
  obtain ⟨⟨p, l, e, R, s, m, args, below, meth, c⟩, D, ad, cA, A, ⟨kc, ks⟩, Q⟩ := g
  obtain ⟨hx, hb, -⟩ := X
  obtain ⟨d1, rfl⟩ := d
  intro H locs lsa hP hD hS hn hh
  exact lv_ixor hx hb d1 (k H locs lsa hP hD hS hn hh)
theorem zw_ishl {x y : Int32} (X : CX g M) (d : Dc M pc pc1 .ishl 1) (k : ZW g pc1 ls (.int (x <<< (y &&& 31)) :: st) σ) : ZW g pc ls (.int y :: .int x :: st) σ := by
  obtain ⟨⟨p, l, e, R, s, m, args, below, meth, c⟩, D, ad, cA, A, ⟨kc, ks⟩, Q⟩ := g
  obtain ⟨hx, hb, -⟩ := X
  obtain ⟨d1, rfl⟩ := d
  intro H locs lsa hP hD hS hn hh
  exact lv_ishl hx hb d1 (k H locs lsa hP hD hS hn hh)
theorem zw_ishr {x y : Int32} (X : CX g M) (d : Dc M pc pc1 .ishr 1) (k : ZW g pc1 ls (.int (x >>> (y &&& 31)) :: st) σ) : ZW g pc ls (.int y :: .int x :: st) σ := by
  obtain ⟨⟨p, l, e, R, s, m, args, below, meth, c⟩, D, ad, cA, A, ⟨kc, ks⟩, Q⟩ := g
  obtain ⟨hx, hb, -⟩ := X
  obtain ⟨d1, rfl⟩ := d
  intro H locs lsa hP hD hS hn hh
  exact lv_ishr hx hb d1 (k H locs lsa hP hD hS hn hh)
theorem zw_iushr {x y : Int32} (X : CX g M) (d : Dc M pc pc1 .iushr 1) (k : ZW g pc1 ls (.int (x.toUInt32 >>> (y.toUInt32 &&& Int32.toUInt32 31)).toInt32 :: st) σ) : ZW g pc ls (.int y :: .int x :: st) σ := by
  obtain ⟨⟨p, l, e, R, s, m, args, below, meth, c⟩, D, ad, cA, A, ⟨kc, ks⟩, Q⟩ := g
  obtain ⟨hx, hb, -⟩ := X
  obtain ⟨d1, rfl⟩ := d
  intro H locs lsa hP hD hS hn hh
  exact lv_iushr hx hb d1 rfl (k H locs lsa hP hD hS hn hh)
theorem zw_idiv {x y : Int32} (X : CX g M) (d : Dc M pc pc1 .idiv 1) (hne : ¬ y = 0) (k : ZW g pc1 ls (.int (x / y) :: st) σ) : ZW g pc ls (.int y :: .int x :: st) σ := by
  obtain ⟨⟨p, l, e, R, s, m, args, below, meth, c⟩, D, ad, cA, A, ⟨kc, ks⟩, Q⟩ := g
  obtain ⟨hx, hb, -⟩ := X
  obtain ⟨d1, rfl⟩ := d
  intro H locs lsa hP hD hS hn hh
  exact lv_idiv hx hb d1 hne (k H locs lsa hP hD hS hn hh)
theorem zw_irem {x y : Int32} (X : CX g M) (d : Dc M pc pc1 .irem 1) (hne : ¬ y = 0) (k : ZW g pc1 ls (.int (x - x / y * y) :: st) σ) : ZW g pc ls (.int y :: .int x :: st) σ := by
  obtain ⟨⟨p, l, e, R, s, m, args, below, meth, c⟩, D, ad, cA, A, ⟨kc, ks⟩, Q⟩ := g
  obtain ⟨hx, hb, -⟩ := X
  obtain ⟨d1, rfl⟩ := d
  intro H locs lsa hP hD hS hn hh
  exact lv_irem hx hb d1 hne (k H locs lsa hP hD hS hn hh)
theorem zw_ineg {x : Int32} (X : CX g M) (d : Dc M pc pc1 .ineg 1) (k : ZW g pc1 ls (.int (-x) :: st) σ) : ZW g pc ls (.int x :: st) σ := by
  obtain ⟨⟨p, l, e, R, s, m, args, below, meth, c⟩, D, ad, cA, A, ⟨kc, ks⟩, Q⟩ := g
  obtain ⟨hx, hb, -⟩ := X
  obtain ⟨d1, rfl⟩ := d
  intro H locs lsa hP hD hS hn hh
  exact lv_ineg hx hb d1 (k H locs lsa hP hD hS hn hh)
theorem zw_ladd {x y : Int64} (X : CX g M) (d : Dc M pc pc1 .ladd 1) (k : ZW g pc1 ls (.long (x + y) :: st) σ) : ZW g pc ls (.long y :: .long x :: st) σ := by
  obtain ⟨⟨p, l, e, R, s, m, args, below, meth, c⟩, D, ad, cA, A, ⟨kc, ks⟩, Q⟩ := g
  obtain ⟨hx, hb, -⟩ := X
  obtain ⟨d1, rfl⟩ := d
  intro H locs lsa hP hD hS hn hh
  exact lv_ladd hx hb d1 (k H locs lsa hP hD hS hn hh)
theorem zw_ldiv {x y : Int64} (X : CX g M) (d : Dc M pc pc1 .ldiv 1) (hne : ¬ y = 0) (k : ZW g pc1 ls (.long (x / y) :: st) σ) : ZW g pc ls (.long y :: .long x :: st) σ := by
  obtain ⟨⟨p, l, e, R, s, m, args, below, meth, c⟩, D, ad, cA, A, ⟨kc, ks⟩, Q⟩ := g
  obtain ⟨hx, hb, -⟩ := X
  obtain ⟨d1, rfl⟩ := d
  intro H locs lsa hP hD hS hn hh
  exact lv_ldiv hx hb d1 hne (k H locs lsa hP hD hS hn hh)
theorem zw_lrem {x y : Int64} (X : CX g M) (d : Dc M pc pc1 .lrem 1) (hne : ¬ y = 0) (k : ZW g pc1 ls (.long (x - x / y * y) :: st) σ) : ZW g pc ls (.long y :: .long x :: st) σ := by
  obtain ⟨⟨p, l, e, R, s, m, args, below, meth, c⟩, D, ad, cA, A, ⟨kc, ks⟩, Q⟩ := g
  obtain ⟨hx, hb, -⟩ := X
  obtain ⟨d1, rfl⟩ := d
  intro H locs lsa hP hD hS hn hh
  exact lv_lrem hx hb d1 hne (k H locs lsa hP hD hS hn hh)
theorem zw_lcmp {x y : Int64} (X : CX g M) (d : Dc M pc pc1 .lcmp 1) (k : ZW g pc1 ls (.int (lg_cmp x y) :: st) σ) : ZW g pc ls (.long y :: .long x :: st) σ := by
  obtain ⟨⟨p, l, e, R, s, m, args, below, meth, c⟩, D, ad, cA, A, ⟨kc, ks⟩, Q⟩ := g
  obtain ⟨hx, hb, -⟩ := X
  obtain ⟨d1, rfl⟩ := d
  intro H locs lsa hP hD hS hn hh
  exact W.lcmp hx hb d1 (k H locs lsa hP hD hS hn hh)
theorem zw_i2l {x : Int32} (X : CX g M) (d : Dc M pc pc1 .i2l 1) (k : ZW g pc1 ls (.long x.toInt64 :: st) σ) : ZW g pc ls (.int x :: st) σ := by
  obtain ⟨⟨p, l, e, R, s, m, args, below, meth, c⟩, D, ad, cA, A, ⟨kc, ks⟩, Q⟩ := g
  obtain ⟨hx, hb, -⟩ := X
  obtain ⟨d1, rfl⟩ := d
  intro H locs lsa hP hD hS hn hh
  exact lv_i2l hx hb d1 rfl (k H locs lsa hP hD hS hn hh)
theorem zw_dup_r {x : Nat} (X : CX g M) (d : Dc M pc pc1 .dup 1) (k : ZW g pc1 ls (.ref x :: .ref x :: st) σ) : ZW g pc ls (.ref x :: st) σ := by
  obtain ⟨⟨p, l, e, R, s, m, args, below, meth, c⟩, D, ad, cA, A, ⟨kc, ks⟩, Q⟩ := g
  obtain ⟨hx, hb, -⟩ := X
  obtain ⟨d1, rfl⟩ := d
  intro H locs lsa hP hD hS hn hh
  exact lv_dup hx hb d1 rfl (k H locs lsa hP hD hS hn hh)
theorem zw_dup_i {x : Int32} (X : CX g M) (d : Dc M pc pc1 .dup 1) (k : ZW g pc1 ls (.int x :: .int x :: st) σ) : ZW g pc ls (.int x :: st) σ := by
  obtain ⟨⟨p, l, e, R, s, m, args, below, meth, c⟩, D, ad, cA, A, ⟨kc, ks⟩, Q⟩ := g
  obtain ⟨hx, hb, -⟩ := X
  obtain ⟨d1, rfl⟩ := d
  intro H locs lsa hP hD hS hn hh
  exact lv_dup hx hb d1 rfl (k H locs lsa hP hD hS hn hh)
theorem zw_pop_i {x : Int32} (X : CX g M) (d : Dc M pc pc1 .pop 1) (k : ZW g pc1 ls (st) σ) : ZW g pc ls (.int x :: st) σ := by
  obtain ⟨⟨p, l, e, R, s, m, args, below, meth, c⟩, D, ad, cA, A, ⟨kc, ks⟩, Q⟩ := g
  obtain ⟨hx, hb, -⟩ := X
  obtain ⟨d1, rfl⟩ := d
  intro H locs lsa hP hD hS hn hh
  exact lv_pop hx hb d1 rfl (k H locs lsa hP hD hS hn hh)
theorem zw_dup2_ir {x : Int32} {y : Nat} (X : CX g M) (d : Dc M pc pc1 .dup2 1) (k : ZW g pc1 ls (.int x :: .ref y :: .int x :: .ref y :: st) σ) : ZW g pc ls (.int x :: .ref y :: st) σ := by
  obtain ⟨⟨p, l, e, R, s, m, args, below, meth, c⟩, D, ad, cA, A, ⟨kc, ks⟩, Q⟩ := g
  obtain ⟨hx, hb, -⟩ := X
  obtain ⟨d1, rfl⟩ := d
  intro H locs lsa hP hD hS hn hh
  exact lv_dup2_11 hx hb d1 rfl rfl (k H locs lsa hP hD hS hn hh)
theorem zw_icmpeq {x y : Int32} {off : Int} {tgt : Nat} (X : CX g M) (d : Dc M pc pc1 (.if_icmp .eq off) 3) (ht : (pc : Int) + off = (tgt : Int)) (kt : x = y → ZW g tgt ls st σ) (kf : ¬ x = y → ZW g pc1 ls st σ) : ZW g pc ls (.int y :: .int x :: st) σ := by
  obtain ⟨⟨p, l, e, R, s, m, args, below, meth, c⟩, D, ad, cA, A, ⟨kc, ks⟩, Q⟩ := g
  obtain ⟨hx, hb, -⟩ := X
  obtain ⟨d1, rfl⟩ := d
  intro H locs lsa hP hD hS hn hh
  exact lv_icmp_eq hx hb d1 ht (fun h => kt h H locs lsa hP hD hS hn hh) (fun h => kf h H locs lsa hP hD hS hn hh)
theorem zw_ifeq {x : Int32} {off : Int} {tgt : Nat} (X : CX g M) (d : Dc M pc pc1 (.ifCond .eq off) 3) (ht : (pc : Int) + off = (tgt : Int)) (kt : x = 0 → ZW g tgt ls st σ) (kf : ¬ x = 0 → ZW g pc1 ls st σ) : ZW g pc ls (.int x :: st) σ := by
  obtain ⟨⟨p, l, e, R, s, m, args, below, meth, c⟩, D, ad, cA, A, ⟨kc, ks⟩, Q⟩ := g
  obtain ⟨hx, hb, -⟩ := X
  obtain ⟨d1, rfl⟩ := d
  intro H locs lsa hP hD hS hn hh
  exact lv_if_eq hx hb d1 ht (fun h => kt h H locs lsa hP hD hS hn hh) (fun h => kf h H locs lsa hP hD hS hn hh)
theorem zw_icmpne {x y : Int32} {off : Int} {tgt : Nat} (X : CX g M) (d : Dc M pc pc1 (.if_icmp .ne off) 3) (ht : (pc : Int) + off = (tgt : Int)) (kt : ¬ x = y → ZW g tgt ls st σ) (kf : x = y → ZW g pc1 ls st σ) : ZW g pc ls (.int y :: .int x :: st) σ := by
  obtain ⟨⟨p, l, e, R, s, m, args, below, meth, c⟩, D, ad, cA, A, ⟨kc, ks⟩, Q⟩ := g
  obtain ⟨hx, hb, -⟩ := X
  obtain ⟨d1, rfl⟩ := d
  intro H locs lsa hP hD hS hn hh
  exact lv_icmp_ne hx hb d1 ht (fun h => kt h H locs lsa hP hD hS hn hh) (fun h => kf h H locs lsa hP hD hS hn hh)
theorem zw_ifne {x : Int32} {off : Int} {tgt : Nat} (X : CX g M) (d : Dc M pc pc1 (.ifCond .ne off) 3) (ht : (pc : Int) + off = (tgt : Int)) (kt : ¬ x = 0 → ZW g tgt ls st σ) (kf : x = 0 → ZW g pc1 ls st σ) : ZW g pc ls (.int x :: st) σ := by
  obtain ⟨⟨p, l, e, R, s, m, args, below, meth, c⟩, D, ad, cA, A, ⟨kc, ks⟩, Q⟩ := g
  obtain ⟨hx, hb, -⟩ := X
  obtain ⟨d1, rfl⟩ := d
  intro H locs lsa hP hD hS hn hh
  exact lv_if_ne hx hb d1 ht (fun h => kt h H locs lsa hP hD hS hn hh) (fun h => kf h H locs lsa hP hD hS hn hh)
theorem zw_icmplt {x y : Int32} {off : Int} {tgt : Nat} (X : CX g M) (d : Dc M pc pc1 (.if_icmp .lt off) 3) (ht : (pc : Int) + off = (tgt : Int)) (kt : x < y → ZW g tgt ls st σ) (kf : ¬ x < y → ZW g pc1 ls st σ) : ZW g pc ls (.int y :: .int x :: st) σ := by
  obtain ⟨⟨p, l, e, R, s, m, args, below, meth, c⟩, D, ad, cA, A, ⟨kc, ks⟩, Q⟩ := g
  obtain ⟨hx, hb, -⟩ := X
  obtain ⟨d1, rfl⟩ := d
  intro H locs lsa hP hD hS hn hh
  exact lv_icmp_lt hx hb d1 ht (fun h => kt h H locs lsa hP hD hS hn hh) (fun h => kf h H locs lsa hP hD hS hn hh)
theorem zw_iflt {x : Int32} {off : Int} {tgt : Nat} (X : CX g M) (d : Dc M pc pc1 (.ifCond .lt off) 3) (ht : (pc : Int) + off = (tgt : Int)) (kt : x < 0 → ZW g tgt ls st σ) (kf : ¬ x < 0 → ZW g pc1 ls st σ) : ZW g pc ls (.int x :: st) σ := by
  obtain ⟨⟨p, l, e, R, s, m, args, below, meth, c⟩, D, ad, cA, A, ⟨kc, ks⟩, Q⟩ := g
  obtain ⟨hx, hb, -⟩ := X
  obtain ⟨d1, rfl⟩ := d
  intro H locs lsa hP hD hS hn hh
  exact lv_if_lt hx hb d1 ht (fun h => kt h H locs lsa hP hD hS hn hh) (fun h => kf h H locs lsa hP hD hS hn hh)
theorem zw_icmpgt {x y : Int32} {off : Int} {tgt : Nat} (X : CX g M) (d : Dc M pc pc1 (.if_icmp .gt off) 3) (ht : (pc : Int) + off = (tgt : Int)) (kt : y < x → ZW g tgt ls st σ) (kf : ¬ y < x → ZW g pc1 ls st σ) : ZW g pc ls (.int y :: .int x :: st) σ := by
  obtain ⟨⟨p, l, e, R, s, m, args, below, meth, c⟩, D, ad, cA, A, ⟨kc, ks⟩, Q⟩ := g
  obtain ⟨hx, hb, -⟩ := X
  obtain ⟨d1, rfl⟩ := d
  intro H locs lsa hP hD hS hn hh
  exact lv_icmp_gt hx hb d1 ht (fun h => kt h H locs lsa hP hD hS hn hh) (fun h => kf h H locs lsa hP hD hS hn hh)
theorem zw_ifgt {x : Int32} {off : Int} {tgt : Nat} (X : CX g M) (d : Dc M pc pc1 (.ifCond .gt off) 3) (ht : (pc : Int) + off = (tgt : Int)) (kt : 0 < x → ZW g tgt ls st σ) (kf : ¬ 0 < x → ZW g pc1 ls st σ) : ZW g pc ls (.int x :: st) σ := by
  obtain ⟨⟨p, l, e, R, s, m, args, below, meth, c⟩, D, ad, cA, A, ⟨kc, ks⟩, Q⟩ := g
  obtain ⟨hx, hb, -⟩ := X
  obtain ⟨d1, rfl⟩ := d
  intro H locs lsa hP hD hS hn hh
  exact lv_if_gt hx hb d1 ht (fun h => kt h H locs lsa hP hD hS hn hh) (fun h => kf h H locs lsa hP hD hS hn hh)
theorem zw_icmpge {x y : Int32} {off : Int} {tgt : Nat} (X : CX g M) (d : Dc M pc pc1 (.if_icmp .ge off) 3) (ht : (pc : Int) + off = (tgt : Int)) (kt : ¬ x < y → ZW g tgt ls st σ) (kf : x < y → ZW g pc1 ls st σ) : ZW g pc ls (.int y :: .int x :: st) σ := by
  obtain ⟨⟨p, l, e, R, s, m, args, below, meth, c⟩, D, ad, cA, A, ⟨kc, ks⟩, Q⟩ := g
  obtain ⟨hx, hb, -⟩ := X
  obtain ⟨d1, rfl⟩ := d
  intro H locs lsa hP hD hS hn hh
  exact lv_icmp_ge hx hb d1 ht (fun h => kt (fun q => Int32.not_lt.mpr h q) H locs lsa hP hD hS hn hh) (fun h => kf (Int32.not_le.mp h) H locs lsa hP hD hS hn hh)
theorem zw_ifge {x : Int32} {off : Int} {tgt : Nat} (X : CX g M) (d : Dc M pc pc1 (.ifCond .ge off) 3) (ht : (pc : Int) + off = (tgt : Int)) (kt : ¬ x < 0 → ZW g tgt ls st σ) (kf : x < 0 → ZW g pc1 ls st σ) : ZW g pc ls (.int x :: st) σ := by
  obtain ⟨⟨p, l, e, R, s, m, args, below, meth, c⟩, D, ad, cA, A, ⟨kc, ks⟩, Q⟩ := g
  obtain ⟨hx, hb, -⟩ := X
  obtain ⟨d1, rfl⟩ := d
  intro H locs lsa hP hD hS hn hh
  exact lv_if_ge hx hb d1 ht (fun h => kt (fun q => Int32.not_lt.mpr h q) H locs lsa hP hD hS hn hh) (fun h => kf (Int32.not_le.mp h) H locs lsa hP hD hS hn hh)
theorem zw_icmple {x y : Int32} {off : Int} {tgt : Nat} (X : CX g M) (d : Dc M pc pc1 (.if_icmp .le off) 3) (ht : (pc : Int) + off = (tgt : Int)) (kt : ¬ y < x → ZW g tgt ls st σ) (kf : y < x → ZW g pc1 ls st σ) : ZW g pc ls (.int y :: .int x :: st) σ := by
  obtain ⟨⟨p, l, e, R, s, m, args, below, meth, c⟩, D, ad, cA, A, ⟨kc, ks⟩, Q⟩ := g
  obtain ⟨hx, hb, -⟩ := X
  obtain ⟨d1, rfl⟩ := d
  intro H locs lsa hP hD hS hn hh
  exact lv_icmp_le hx hb d1 ht (fun h => kt (fun q => Int32.not_lt.mpr h q) H locs lsa hP hD hS hn hh) (fun h => kf (Int32.not_le.mp h) H locs lsa hP hD hS hn hh)
theorem zw_ifle {x : Int32} {off : Int} {tgt : Nat} (X : CX g M) (d : Dc M pc pc1 (.ifCond .le off) 3) (ht : (pc : Int) + off = (tgt : Int)) (kt : ¬ 0 < x → ZW g tgt ls st σ) (kf : 0 < x → ZW g pc1 ls st σ) : ZW g pc ls (.int x :: st) σ := by
  obtain ⟨⟨p, l, e, R, s, m, args, below, meth, c⟩, D, ad, cA, A, ⟨kc, ks⟩, Q⟩ := g
  obtain ⟨hx, hb, -⟩ := X
  obtain ⟨d1, rfl⟩ := d
  intro H locs lsa hP hD hS hn hh
  exact lv_if_le hx hb d1 ht (fun h => kt (fun q => Int32.not_lt.mpr h q) H locs lsa hP hD hS hn hh) (fun h => kf (Int32.not_le.mp h) H locs lsa hP hD hS hn hh)
theorem zw_goto {off : Int} {tgt : Nat} (X : CX g M) (d : Dc M pc pc1 (.goto off) 3) (ht : (pc : Int) + off = (tgt : Int)) (k : ZW g tgt ls st σ) : ZW g pc ls st σ := by
  obtain ⟨⟨p, l, e, R, s, m, args, below, meth, c⟩, D, ad, cA, A, ⟨kc, ks⟩, Q⟩ := g
  obtain ⟨hx, hb, -⟩ := X
  obtain ⟨d1, rfl⟩ := d
  intro H locs lsa hP hD hS hn hh
  exact lv_goto hx hb d1 ht (k H locs lsa hP hD hS hn hh)
theorem zw_tabIn {dflt lo hi : Int} {offs : Array Int} {len : Nat} {x : Int32} {off : Int} {tgt : Nat} (X : CX g M) (d : Dc M pc pc1 (.tableswitch dflt lo hi offs) len) (h1 : ¬ x.toInt < lo) (h2 : ¬ hi < x.toInt) (ho : offs[(x.toInt - lo).toNat]? = some off) (ht : (pc : Int) + off = (tgt : Int)) (k : ZW g tgt ls st σ) : ZW g pc ls (.int x :: st) σ := by
  obtain ⟨⟨p, l, e, R, s, m, args, below, meth, c⟩, D, ad, cA, A, ⟨kc, ks⟩, Q⟩ := g
  obtain ⟨hx, hb, -⟩ := X
  obtain ⟨d1, rfl⟩ := d
  intro H locs lsa hP hD hS hn hh
  exact lv_tableIn hx hb d1 h1 h2 ho ht (k H locs lsa hP hD hS hn hh)
theorem zw_tabOut {dflt lo hi : Int} {offs : Array Int} {len : Nat} {x : Int32} {tgt : Nat} (X : CX g M) (d : Dc M pc pc1 (.tableswitch dflt lo hi offs) len) (h : x.toInt < lo ∨ hi < x.toInt) (ht : (pc : Int) + dflt = (tgt : Int)) (k : ZW g tgt ls st σ) : ZW g pc ls (.int x :: st) σ := by
  obtain ⟨⟨p, l, e, R, s, m, args, below, meth, c⟩, D, ad, cA, A, ⟨kc, ks⟩, Q⟩ := g
  obtain ⟨hx, hb, -⟩ := X
  obtain ⟨d1, rfl⟩ := d
  intro H locs lsa hP hD hS hn hh
  exact lv_tableOut hx hb d1 h ht (k H locs lsa hP hD hS hn hh)
theorem zw_ldc {idx : Nat} {v : Int32} (X : CX g M) (d : Dc M pc pc1 (.ldc idx) 2) (hk : Cond.constant (mY M).cls idx v ∈ lw_gd) (k : ZW g pc1 ls (.int v :: st) σ) : ZW g pc ls st σ := by
  obtain ⟨⟨p, l, e, R, s, m, args, below, meth, c⟩, D, ad, cA, A, ⟨kc, ks⟩, Q⟩ := g
  obtain ⟨hx, hb, hml, hown, hts, hN, hK, hA, hR, hRc⟩ := X
  obtain ⟨d1, rfl⟩ := d
  intro H locs lsa hP hD hS hn hh
  exact lv_ldc hx hb hown (hts _ hk) d1 (k H locs lsa hP hD hS hn hh)
theorem zw_ldcw {idx : Nat} {v : Int32} (X : CX g M) (d : Dc M pc pc1 (.ldc_w idx) 3) (hk : Cond.constant (mY M).cls idx v ∈ lw_gd) (k : ZW g pc1 ls (.int v :: st) σ) : ZW g pc ls st σ := by
  obtain ⟨⟨p, l, e, R, s, m, args, below, meth, c⟩, D, ad, cA, A, ⟨kc, ks⟩, Q⟩ := g
  obtain ⟨hx, hb, hml, hown, hts, hN, hK, hA, hR, hRc⟩ := X
  obtain ⟨d1, rfl⟩ := d
  intro H locs lsa hP hD hS hn hh
  exact lv_ldcw hx hb hown (hts _ hk) d1 (k H locs lsa hP hD hS hn hh)
theorem zw_ldc2 {idx : Nat} {v : Int64} (X : CX g M) (d : Dc M pc pc1 (.ldc2_w idx) 3) (hk : Cond.constantLong (mY M).cls idx v ∈ lw_gd) (k : ZW g pc1 ls (.long v :: st) σ) : ZW g pc ls st σ := by
  obtain ⟨⟨p, l, e, R, s, m, args, below, meth, c⟩, D, ad, cA, A, ⟨kc, ks⟩, Q⟩ := g
  obtain ⟨hx, hb, hml, hown, hts, hN, hK, hA, hR, hRc⟩ := X
  obtain ⟨d1, rfl⟩ := d
  intro H locs lsa hP hD hS hn hh
  exact lv_ldc2 hx hb hown (hts _ hk) d1 (k H locs lsa hP hD hS hn hh)
theorem zw_getI {idx ci j p0 : Nat} {kd : List (Option Nat)} (X : CX g M) (d : Dc M pc pc1 (.getfield idx) 3) (f : fLk (mY M).cls idx ci j) (hc : cOk ci) (hs : sh p0 = .inl (ci, kd)) (hj : kd[j]? = some none) (k : ZW g pc1 ls (.int (σ p0 j) :: st) σ) : ZW g pc ls (.ref p0 :: st) σ := by
  obtain ⟨⟨p, l, e, R, s, m, args, below, meth, c⟩, D, ad, cA, A, ⟨kc, ks⟩, Q⟩ := g
  obtain ⟨hx, hb, hml, hown, hts, hN, hK, hA, hR, hRc⟩ := X
  obtain ⟨d1, rfl⟩ := d
  intro H locs lsa hP hD hS hn hh
  obtain ⟨C, T, N, f1, f2, f3, f4⟩ := f
  obtain ⟨C', T', N', ty, g1, g2, g3, g4, -⟩ := hc
  cases f1.symm.trans g1
  subst f3
  exact va_get hx hb hts g2 hown hK hP p0 (wl_obj hs) f1 j f2 (hts _ f4) (fun _ h9 => h9) (v := .int (σ p0 j)) (by rw [fv_at, hj]; simp) d1 (k H locs lsa hP hD hS hn hh)
theorem zw_getR {idx ci j p0 q0 : Nat} {kd : List (Option Nat)} (X : CX g M) (d : Dc M pc pc1 (.getfield idx) 3) (f : fLk (mY M).cls idx ci j) (hc : cOk ci) (hs : sh p0 = .inl (ci, kd)) (hj : kd[j]? = some (some q0)) (k : ZW g pc1 ls (.ref q0 :: st) σ) : ZW g pc ls (.ref p0 :: st) σ := by
  obtain ⟨⟨p, l, e, R, s, m, args, below, meth, c⟩, D, ad, cA, A, ⟨kc, ks⟩, Q⟩ := g
  obtain ⟨hx, hb, hml, hown, hts, hN, hK, hA, hR, hRc⟩ := X
  obtain ⟨d1, rfl⟩ := d
  intro H locs lsa hP hD hS hn hh
  obtain ⟨C, T, N, f1, f2, f3, f4⟩ := f
  obtain ⟨C', T', N', ty, g1, g2, g3, g4, -⟩ := hc
  cases f1.symm.trans g1
  subst f3
  exact va_get hx hb hts g2 hown hK hP p0 (wl_obj hs) f1 j f2 (hts _ f4) (fun _ h9 => h9) (v := .ref (ad q0)) (by rw [fv_at, hj]; simp) d1 (k H locs lsa hP hD hS hn hh)
/-- what field j of class ci is: not final, of type ty -/
def fTy (ci j : Nat) (ty : FieldType) : Prop := ∃ (C : String) (T : u_T) (N : Nat), cls[ci]? = some (C, T, N) ∧ (T j).2.2.2 = false ∧ parseFieldDescriptor (T j).2.2.1 = some ty
theorem zw_putT {idx ci j p0 : Nat} {kd : List (Option Nat)} {x : Int32} (ty : FieldType) (hn1 : narrow ty (.int x) = .int x) (hn2 : fits ty (.int x) = true) (X : CX g M) (d : Dc M pc pc1 (.putfield idx) 3) (f : fLk (mY M).cls idx ci j) (hc : cOk ci) (ht : fTy ci j ty) (hs : sh p0 = .inl (ci, kd)) (hj : kd[j]? = some none) (k : ZW g pc1 ls st (ups σ p0 j x)) : ZW g pc ls (.int x :: .ref p0 :: st) σ := by
  obtain ⟨⟨p, l, e, R, s, m, args, below, meth, c⟩, D, ad, cA, A, ⟨kc, ks⟩, Q⟩ := g
  obtain ⟨hx, hb, hml, hown, hts, hN, hK, hA, hR, hRc⟩ := X
  obtain ⟨d1, rfl⟩ := d
  intro H locs lsa hP hD hS hn hh
  obtain ⟨C, T, N, f1, f2, f3, f4⟩ := f
  obtain ⟨C', T', N', ty0, g1, g2, g3, g4, -⟩ := hc
  obtain ⟨C2, T2, N2, t1, t2, t3⟩ := ht
  cases f1.symm.trans g1
  cases f1.symm.trans t1
  subst f3
  refine va_put hx hb hts g2 ty0 g3 g4 hown hK hP hD hS p0 (wl_obj hs) f1 j f2 (hts _ f4) (fun _ h9 => h9) t2 (v := .int x) t3 hn1 hn2 (by rw [fv_len]; exact (List.getElem?_eq_some_iff.mp hj).1) d1 (fun H1 locs1 hP1 hD1 hS1 => ?_)
  rw [wl_putO hs hj] at hP1 hD1
  exact k H1 locs1 lsa hP1 hD1 hS1 hn hh
theorem zw_put {idx ci j p0 : Nat} {kd : List (Option Nat)} {x : Int32} (X : CX g M) (d : Dc M pc pc1 (.putfield idx) 3) (f : fLk (mY M).cls idx ci j) (hc : cOk ci) (ht : fTy ci j .int) (hs : sh p0 = .inl (ci, kd)) (hj : kd[j]? = some none) (k : ZW g pc1 ls st (ups σ p0 j x)) : ZW g pc ls (.int x :: .ref p0 :: st) σ := zw_putT .int rfl rfl X d f hc ht hs hj k
theorem zw_iald {p0 n : Nat} {i : Int32} (X : CX g M) (d : Dc M pc pc1 .iaload 1) (hs : sh p0 = .inr (n, false)) (hi : vp_in i n) (k : ZW g pc1 ls (.int (σ p0 i.toNatClampNeg) :: st) σ) : ZW g pc ls (.int i :: .ref p0 :: st) σ := by
  obtain ⟨⟨p, l, e, R, s, m, args, below, meth, c⟩, D, ad, cA, A, ⟨kc, ks⟩, Q⟩ := g
  obtain ⟨hx, hb, hml, hown, hts, hN, hK, hA, hR, hRc⟩ := X
  obtain ⟨d1, rfl⟩ := d
  intro H locs lsa hP hD hS hn hh
  have hn0 : 0 < n := by rcases Nat.eq_zero_or_pos n with h | h; (subst h; exact absurd (Or.inr (Nat.zero_le _)) hi); exact h
  exact va_iald hx hb hK hP p0 p0 (wl_arr hs hn0) (ty_arr hs hn0) hi d1 (k H locs lsa hP hD hS hn hh)
theorem zw_zald {p0 n : Nat} {i : Int32} (X : CX g M) (d : Dc M pc pc1 .baload 1) (hs : sh p0 = .inr (n, true)) (hi : vp_in i n) (k : ZW g pc1 ls (.int (σ p0 i.toNatClampNeg) :: st) σ) : ZW g pc ls (.int i :: .ref p0 :: st) σ := by
  obtain ⟨⟨p, l, e, R, s, m, args, below, meth, c⟩, D, ad, cA, A, ⟨kc, ks⟩, Q⟩ := g
  obtain ⟨hx, hb, hml, hown, hts, hN, hK, hA, hR, hRc⟩ := X
  obtain ⟨d1, rfl⟩ := d
  intro H locs lsa hP hD hS hn hh
  have hn0 : 0 < n := by rcases Nat.eq_zero_or_pos n with h | h; (subst h; exact absurd (Or.inr (Nat.zero_le _)) hi); exact h
  exact va_zald hx hb hK hP p0 p0 (wl_arr hs hn0) (ty_arrZ hs) hi d1 (k H locs lsa hP hD hS hn hh)
theorem zw_iast {p0 n : Nat} {i x : Int32} (X : CX g M) (d : Dc M pc pc1 .iastore 1) (hs : sh p0 = .inr (n, false)) (hi : vp_in i n) (k : ZW g pc1 ls st (ups σ p0 i.toNatClampNeg x)) : ZW g pc ls (.int x :: .int i :: .ref p0 :: st) σ := by
  obtain ⟨⟨p, l, e, R, s, m, args, below, meth, c⟩, D, ad, cA, A, ⟨kc, ks⟩, Q⟩ := g
  obtain ⟨hx, hb, hml, hown, hts, hN, hK, hA, hR, hRc⟩ := X
  obtain ⟨d1, rfl⟩ := d
  intro H locs lsa hP hD hS hn hh
  have hn0 : 0 < n := by rcases Nat.eq_zero_or_pos n with h | h; (subst h; exact absurd (Or.inr (Nat.zero_le _)) hi); exact h
  refine va_iast hx hb hK hP hD hS p0 p0 (wl_arr hs hn0) (ty_arr hs hn0) hi d1 (fun H1 locs1 hP1 hD1 hS1 => ?_)
  rw [wl_putA hs] at hP1 hD1
  exact k H1 locs1 lsa hP1 hD1 hS1 hn hh
theorem zw_zast {p0 n : Nat} {i x : Int32} (X : CX g M) (d : Dc M pc pc1 .bastore 1) (hs : sh p0 = .inr (n, true)) (hi : vp_in i n) (hx1 : vp_nar .boolean x = x) (k : ZW g pc1 ls st (ups σ p0 i.toNatClampNeg x)) : ZW g pc ls (.int x :: .int i :: .ref p0 :: st) σ := by
  obtain ⟨⟨p, l, e, R, s, m, args, below, meth, c⟩, D, ad, cA, A, ⟨kc, ks⟩, Q⟩ := g
  obtain ⟨hx, hb, hml, hown, hts, hN, hK, hA, hR, hRc⟩ := X
  obtain ⟨d1, rfl⟩ := d
  intro H locs lsa hP hD hS hn hh
  have hn0 : 0 < n := by rcases Nat.eq_zero_or_pos n with h | h; (subst h; exact absurd (Or.inr (Nat.zero_le _)) hi); exact h
  refine va_zast hx hb hK hP hD hS p0 p0 (wl_arr hs hn0) (ty_arrZ hs) hi d1 (fun H1 locs1 hP1 hD1 hS1 => ?_)
  rw [hx1, wl_putA hs] at hP1 hD1
  exact k H1 locs1 lsa hP1 hD1 hS1 hn hh
theorem zw_ialdN {p0 n i : Nat} (X : CX g M) (d : Dc M pc pc1 .iaload 1) (hs : sh p0 = .inr (n, false)) (hi : i < n) (hn9 : n < 2 ^ 31) (k : ZW g pc1 ls (.int (σ p0 i) :: st) σ) : ZW g pc ls (.int (nI i) :: .ref p0 :: st) σ :=
  zw_iald X d hs (vp_in_nI hi hn9) (by rw [nI_clamp (by omega)]; exact k)
theorem zw_iastN {p0 n i : Nat} {x : Int32} (X : CX g M) (d : Dc M pc pc1 .iastore 1) (hs : sh p0 = .inr (n, false)) (hi : i < n) (hn9 : n < 2 ^ 31) (k : ZW g pc1 ls st (ups σ p0 i x)) : ZW g pc ls (.int x :: .int (nI i) :: .ref p0 :: st) σ :=
  zw_iast X d hs (vp_in_nI hi hn9) (by rw [nI_clamp (by omega)]; exact k)
end ZS

