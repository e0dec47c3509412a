def bI (b : Bool) : Int32 := if b then 1 else 0
theorem bI_t : bI true = 1 := rfl
theorem bI_f : bI false = 0 := rfl
/-! contracts -/
def ctP (D : va_G) (ad : Nat → Nat) (cA : Nat → ClassId) (σ : St) (sz : Nat) (as : List Value) : Array Value → State → Prop := va_Pc (as.map (cv ad)) (fun U => U.heap.size = sz ∧ va_P D cls (wl ad cA σ) U.heap ∧ va_K D cls (tyl cA) U ∧ va_D (fun _ => True) (wl ad cA σ) ∧ Nst U)
def ctQ (D : va_G) (ad : Nat → Nat) (cA : Nat → ClassId) (σ : St) (sz : Nat) (v : Option Value) (σ' : St) : Array Value → State → Outcome → State → Prop := fun _ st oc t => (oc = .returned (v.map (cv ad)) ∧ va_P D cls (wl ad cA σ') t.heap ∧ va_D (va_A (wl ad cA σ) sz) (wl ad cA σ')) ∧ va_F (va_A (wl ad cA σ) sz) st t
/-- method M, called with as in the world σ, answers v and leaves the world σ' -/
def Ct (M : Mt) (as : List Value) (σ : St) (v : Option Value) (σ' : St) : Prop := ∀ (l : Launch) (D : va_G) (ad : Nat → Nat) (cA : Nat → ClassId) (sz : Nat), Met l (mY M) (mWs M) (mRm M) (ctP D ad cA σ sz as) (ctQ D ad cA σ sz v σ') 0 0 (va_A (wl ad cA σ) sz)
def FnZ (g : Gt) (M : Mt) (v : Option Value) (σ' : St) : Prop := match g with
  | ((p, l, e, R, s, m, args, below, meth, c), D, ad, cA, A, (kc, ks), Q) => ∃ σ0 : St, Q = MQ below (ctQ D ad cA σ0 s.heap.size v σ') args s kc ks (va_A (wl ad cA σ0) s.heap.size) ∧ A = va_A (wl ad cA σ0) s.heap.size ∧ meth.locks = false ∧ meth.sig.returnType = mR M
theorem nst_on : ∀ w ∈ nst, w.onTables = true := by decide +kernel
theorem nst_same {u U : State} (h : u.vm = U.vm) (hN : Nst u) : Nst U := fun w hw => va_Nw.same (nst_on w hw) h (hN w hw)
theorem nst_warm {s U : State} (hW : s.WarmedH U.vm) (hN : Nst s) : Nst U := by
  intro w hw
  have h := hN w hw
  simp only [nst, List.mem_cons, List.not_mem_nil, or_false] at hw
  rcases hw with rfl | rfl
  · exact va_Nw.warmM hW h
  · exact va_Nw.warmM hW h
theorem ctP_blind {D : va_G} {ad : Nat → Nat} {cA : Nat → ClassId} {σ : St} {sz : Nat} {as : List Value} : FrameBlind (ctP D ad cA σ sz as) := by
  intro a U g mk q
  obtain ⟨q0, q1, qP, qK, qD, qN⟩ := q
  exact ⟨q0, q1, qP, va_K.moved (u := U) (U := U.calling g mk a) (Vm.Alike.refl U.vm) qK, qD, nst_same (u := U) (U := U.calling g mk a) rfl qN⟩
theorem lvl_args {ad : Nat → Nat} {n : Nat} : ∀ (as : List Value) (i : Nat), (as.all (fun v => v.category == 1)) = true → ∀ q ∈ lvl ad i (as.map some ++ List.replicate n none), q ∈ lv_args i (as.map (cv ad))
  | [], i, _, q, hq => by
    obtain ⟨k, v, h1, -⟩ := lvl_mem hq
    rw [List.map_nil, List.nil_append, List.getElem?_replicate] at h1
    split at h1 <;> cases h1
  | a :: as, i, h, q, hq => by
    simp only [List.all_cons, Bool.and_eq_true, beq_iff_eq] at h
    simp only [List.map_cons, List.cons_append, lvl] at hq
    simp only [List.map_cons, lv_args, cv_cat, h.1]
    rcases List.mem_cons.mp hq with hq | hq
    · rw [hq]; exact List.mem_cons_self
    · exact List.mem_cons_of_mem _ (lvl_args as (i + 1) h.2 q hq)
theorem lg_sl_len {ad : Nat → Nat} : ∀ (as : List Value), (as.all (fun v => v.category == 1)) = true → (lg_sl (as.map (cv ad))).length = as.length
  | [], _ => rfl
  | a :: as, h => by
    simp only [List.all_cons, Bool.and_eq_true, beq_iff_eq] at h
    have := lg_sl_len (ad := ad) as h.2
    simp only [lg_sl, List.map_cons, List.flatMap_cons, cv_cat, h.1, List.length_append] at this ⊢
    simp [this]; omega
theorem ct_of {M : Mt} {n : Nat} {as : List Value} {σ σ' : St} {v : Option Value} {ls0 : List (Option Value)} (ok : mOk M n) (hc : (as.all (fun v => v.category == 1)) = true) (hl : as.length ≤ mL M) (hls : as.map some ++ List.replicate (mL M - as.length) none = ls0)
    (body : ∀ g : Gt, CX g M → FnZ g M v σ' → ZW g 0 ls0 [] σ) : Ct M as σ v σ' := by
  intro l D ad cA sz
  refine Met.ofW (cc := mC M) (maxL := mL M) (ret := mR M) ok.2.2.2 rfl ?_
  intro p e s m args below meth c s₁ B hml hv
  obtain ⟨rfl, hsz, hP, hK, hD0, hN⟩ := hv
  subst hsz
  have hts := atoms_spec (ws := mWs M) B.pre
  have hl1 := lv_entry (as.map (cv ad)) (n := mL M) (by rw [lg_sl_len as hc]; exact hl)
  rw [lg_entry_eq]
  generalize (lg_sl (as.map (cv ad)) ++ List.replicate (mL M - (lg_sl (as.map (cv ad))).length) Slot.unset).toArray = lsa at hl1 ⊢
  subst hls
  refine body ((p, l, e, mRm M, s, m, (as.map (cv ad)).toArray, below, meth, c), D, ad, cA, va_A (wl ad cA σ) s.heap.size, (0, 0), _) ⟨B.exec, B.bytes, hml, findClass_of_methodNamed B.named, fun w hw => hts w (List.mem_cons_of_mem _ hw), hN, hK, fun q h => Or.inr h, ⟨Nat.le_refl _, Nat.le_refl _⟩, ⟨Nat.le_refl _, Nat.le_refl _⟩⟩ ⟨σ, rfl, rfl, B.notSynchronized, B.returns⟩ s.heap [] lsa hP hD0.self va_S.rf ?_ ?_
  · rw [hml]; simp; omega
  · rw [hml]; exact lv_mono hl1 (lvl_args as 0 hc)
section ZC
variable {g : Gt} {M : Mt} {pc pc1 : Nat} {ls : List (Option Value)} {st : List Value} {σ : St}
theorem zw_iret {x y : Int32} {σ' : St} (X : CX g M) (F : FnZ g M (some (.int y)) σ') (d : Dc M pc pc1 .ireturn 1) (hr : mR M = some .int) (hxy : x = y) (hσ : σ = σ') : ZW g pc ls [.int x] σ := by
  obtain ⟨⟨p, l, e, R, s, m, args, below, meth, c⟩, D, ad, cA, A, ⟨kc, ks⟩, Q⟩ := g
  obtain ⟨hx, hb, hml, hown, hts, hN, hK, hA, hR, hRc⟩ := X
  obtain ⟨d1, rfl⟩ := d
  intro H locs lsa hP hD hS hn hh
  subst hxy; subst hσ
  obtain ⟨σ0, rfl, rfl, hlk, hrt⟩ := F
  exact W.iret (v := x) hx hb (hrt.trans hr) (fun t ht hW => ⟨⟨rfl, by rw [ht]; exact hP, hD⟩, hS.F ht⟩) hS.2.2 d1 hlk
theorem zw_zret {x : Int32} {y : Bool} {σ' : St} (X : CX g M) (F : FnZ g M (some (.int (bI y))) σ') (d : Dc M pc pc1 .ireturn 1) (hr : mR M = some .boolean) (hxy : x = bI y) (hσ : σ = σ') : ZW g pc ls [.int x] σ := by
  obtain ⟨⟨p, l, e, R, s, m, args, below, meth, c⟩, D, ad, cA, A, ⟨kc, ks⟩, Q⟩ := g
  obtain ⟨hx, hb, hml, hown, hts, hN, hK, hA, hR, hRc⟩ := X
  obtain ⟨d1, rfl⟩ := d
  intro H locs lsa hP hD hS hn hh
  subst hxy; subst hσ
  obtain ⟨σ0, rfl, rfl, hlk, hrt⟩ := F
  exact W.zret (v := bI y) hx hb (hrt.trans hr) (by cases y <;> decide) (fun t ht hW => ⟨⟨rfl, by rw [ht]; exact hP, hD⟩, hS.F ht⟩) hS.2.2 d1 hlk
theorem zw_vret {σ' : St} (X : CX g M) (F : FnZ g M none σ') (d : Dc M pc pc1 .return_ 1) (hr : mR M = none) (hσ : σ = σ') : ZW g pc ls [] σ := by
  obtain ⟨⟨p, l, e, R, s, m, args, below, meth, c⟩, D, ad, cA, A, ⟨kc, ks⟩, Q⟩ := g
  obtain ⟨hx, hb, hml, hown, hts, hN, hK, hA, hR, hRc⟩ := X
  obtain ⟨d1, rfl⟩ := d
  intro H locs lsa hP hD hS hn hh
  subst hσ
  obtain ⟨σ0, rfl, rfl, hlk, hrt⟩ := F
  exact W.vret hx hb (hrt.trans hr) (fun t ht hW => ⟨⟨rfl, by rw [ht]; exact hP, hD⟩, hS.F ht⟩) hS.2.2 d1 hlk
theorem zw_lret {x y : Int64} {σ' : St} (X : CX g M) (F : FnZ g M (some (.long y)) σ') (d : Dc M pc pc1 .lreturn 1) (hr : mR M = some .long) (hxy : x = y) (hσ : σ = σ') : ZW g pc ls [.long x] σ := by
  obtain ⟨⟨p, l, e, R, s, m, args, below, meth, c⟩, D, ad, cA, A, ⟨kc, ks⟩, Q⟩ := g
  obtain ⟨hx, hb, hml, hown, hts, hN, hK, hA, hR, hRc⟩ := X
  obtain ⟨d1, rfl⟩ := d
  intro H locs lsa hP hD hS hn hh
  subst hxy; subst hσ
  obtain ⟨σ0, rfl, rfl, hlk, hrt⟩ := F
  exact W.lret (v := x) hx hb (hrt.trans hr) (fun t ht hW => ⟨⟨rfl, by rw [ht]; exact hP, hD⟩, hS.F ht⟩) hS.2.2 d1 hlk
theorem zw_aret {x : Nat} {C : String} {σ' : St} (X : CX g M) (F : FnZ g M (some (.ref x)) σ') (d : Dc M pc pc1 .areturn 1) (hr : mR M = some (.object C)) (hσ : σ = σ') : ZW g pc ls [.ref x] σ := by
  obtain ⟨⟨p, l, e, R, s, m, args, below, meth, c⟩, D, ad, cA, A, ⟨kc, ks⟩, Q⟩ := g
  obtain ⟨hx, hb, hml, hown, hts, hN, hK, hA, hR, hRc⟩ := X
  obtain ⟨d1, rfl⟩ := d
  intro H locs lsa hP hD hS hn hh
  subst hσ
  obtain ⟨σ0, rfl, rfl, hlk, hrt⟩ := F
  exact W.aret (v := .ref (ad x)) hx hb (hrt.trans hr) (Or.inl ⟨_, rfl⟩) (Or.inr ⟨_, rfl⟩) (fun t ht hW => ⟨⟨rfl, by rw [ht]; exact hP, hD⟩, hS.F ht⟩) hS.2.2 d1 hlk
end ZC
/-- behind a call -/
theorem zw_back {p : Program} {l : Launch} {e : Env} {R : Room} {s : State} {m : MethodId} {args : Array Value} {below : List Frame} {meth : Method} {c : Code} {H : Heap} {locs : List Loc} {kc ks pc : Nat} {Q : State → Prop} {D : va_G} {ad : Nat → Nat} {cA : Nat → ClassId} {A : Nat → Prop} {σ σ' : St} {v : Option Value} {lsa : Array Slot} {st0 rest : List Value} {a : Array Value}
    (hr : va_Run p l e R s m args below meth c H locs kc ks 0 0 (F0 m pc lsa st0) rest (ctQ D ad cA σ H.size v σ' a) (va_A (wl ad cA σ) H.size)) (hD : va_D A (wl ad cA σ)) (hS : va_S A s.heap H locs) (hA : ∀ q, s.heap.size ≤ q → A q)
    (kk : ∀ (H1 : Heap) (locs1 : List Loc), va_P D cls (wl ad cA σ') H1 → va_D A (wl ad cA σ') → va_S A s.heap H1 locs1 → W p l e R s m args below meth c H1 locs1 kc ks Q (F0 m (pc + 3) lsa ((v.map (cv ad)).toList ++ rest))) : W p l e R s m args below meth c H locs kc ks Q (F0 m pc lsa st0) := by
  intro T hT X
  obtain ⟨v', st₀, t, T', L, h0, X', hL, e1, e2, ⟨⟨hv, hP1, hD1⟩, hz, hk⟩, stp⟩ := hr T hT X
  cases hv
  rw [h0] at hz hk
  have hF : ∀ q, va_A (wl ad cA σ) H.size q → A q := by
    intro q h
    rcases h with ⟨k, ee, h⟩ | h
    · exact hD.2 k (q, ee) h
    · exact hA q (Nat.le_trans hS.1 h)
  obtain ⟨t2, a1, b1⟩ := kk T'.heap (locs ++ L) (by rw [e1]; exact hP1) (hD1.weaken (fun _ _ _ h => hF _ h)) ⟨Nat.le_trans hS.1 (by rw [e1]; exact hz), fun q h1 h2 => by rw [e1, hk q (Nat.lt_of_lt_of_le h1 hS.1) (fun z => h2 (hF q z))]; exact hS.2.1 q h1 h2, fun q hq => by
      rcases List.mem_append.mp hq with h | h
      · exact hS.2.2 q h
      · exact hF _ (hL q h)⟩ T' rfl X'
  exact ⟨t2, stp t2 a1, b1⟩
def rmOk (M M1 : Mt) : Prop := mF M1 + 1 ≤ mF M ∧ 8 + (mL M1 + 11) + mO M1 ≤ mO M
theorem gd_in {M : Mt} {n : Nat} (ok : mOk M n) : GoodIn lw_gd (mWs M) := by
  intro w hw
  rcases List.mem_cons.mp hw with h | h
  · rw [h]; exact ⟨ok.1, gd_good _ ok.1⟩
  · exact ⟨h, gd_good _ h⟩
theorem cat_map (ad : Nat → Nat) (st : List Value) : ((st.map (cv ad)).map fun v => v.category) = st.map fun v => v.category := by
  rw [List.map_map]
  exact List.map_congr_left (fun v _ => cv_cat ad v)
theorem ct_pre {D : va_G} {ad : Nat → Nat} {cA : Nat → ClassId} {σ : St} {as : List Value} {s : State} {H : Heap} {A : Nat → Prop} (hP : va_P D cls (wl ad cA σ) H) (hD : va_D A (wl ad cA σ)) (hK : va_K D cls (tyl cA) s) (hN : Nst s) : ∀ U : State, U.heap = H → s.WarmedH U.vm → ctP D ad cA σ H.size as (as.map (cv ad)).toArray U := by
  intro U hU hW
  exact ⟨rfl, by rw [hU], by rw [hU]; exact hP, va_K.moved hW.alike hK, hD.weaken (fun _ _ _ _ => trivial), nst_warm hW hN⟩
section ZD
variable {g : Gt} {M M1 : Mt} {pc pc1 idx n : Nat} {ls : List (Option Value)} {st : List Value} {σ σ' : St} {v : Option Value}
theorem zw_callV {b ci : Nat} {kd : List (Option Nat)} {As stk : List Value} (X : CX g M) (d : Dc M pc pc1 (.invokevirtual idx) 3) (lk : mLk (mY M).cls idx M1) (ok : mOk M1 n) (vi : mVirt M1) (hrm : rmOk M M1) (hs : sh b = .inl (ci, kd)) (hcl : (cls[ci]?).map (fun q => q.1) = some (mY M1).cls) (hn0 : As.length = n) (hst : stk = As.reverse ++ .ref b :: st) (hcat : (st.map fun v => v.category).sum ≤ 8) (ct : Ct M1 (.ref b :: As) σ v σ')
    (k : ZW g pc1 ls (v.toList ++ st) σ') : ZW g pc ls stk σ := by
  obtain ⟨⟨p, l, e, R, s, m, args, below, meth, c⟩, D, ad, cA, A, ⟨kc, ks⟩, Q⟩ := g
  obtain ⟨hx, hb, hml, hown, hts, hN, hK, hA, hR, hRc⟩ := X
  obtain ⟨d1, rfl⟩ := d
  intro H locs lsa hP hD hS hn hh
  subst hst
  obtain ⟨q, hq1, hq2⟩ : ∃ q, cls[ci]? = some q ∧ q.1 = (mY M1).cls := by
    cases hq : cls[ci]? with
    | none => rw [hq] at hcl; cases hcl
    | some q => rw [hq] at hcl; exact ⟨q, rfl, Option.some.inj hcl⟩
  have cb : CallB R s args (mY M).cls idx (mY M1) (mC M1) (mL M1) (mR M1) (mWs M1) (mRm M1) 0 0 n := callB_of n hts (gd_in ok) rfl rfl rfl (hts _ ok.2.1) (hts _ lk) ok.2.2.1 ⟨Nat.le_trans hrm.1 hR.1, Nat.le_trans hrm.2 hR.2⟩
  refine zw_back (v := v) (va_runV (C := (mY M1).cls) (b := ad b) (As := As.map (cv ad)) (rest := st.map (cv ad)) (g := F0 m pc lsa ((As.reverse ++ .ref b :: st).map (cv ad))) ⟨hx, hb, rfl, hown, hts⟩ (ct l D ad cA H.size) ⟨cb, hts _ vi.1, hts _ vi.2⟩ ⟨ctP_blind, ?_, ct_pre (as := .ref b :: As) hP hD hK hN⟩ rfl (by rw [List.length_map]; exact hn0) hh.1 (by simp [cv]) (by show 2 * 0 + _ ≤ 8; rw [cat_map]; omega) d1 ⟨hRc.1, hRc.2⟩) hD hS hA (fun H1 locs1 hP1 hD1 hS1 => ?_)
  · rw [← hq2]; exact va_recv hK hP hq1 (wl_obj hs)
  · have h1 := k H1 locs1 lsa hP1 hD1 hS1 hn hh
    rw [List.map_append] at h1
    cases v with
    | none => exact h1
    | some w => exact h1
theorem zw_callS {As stk : List Value} (X : CX g M) (d : Dc M pc pc1 (.invokestatic idx) 3) (lk : mLk (mY M).cls idx M1) (ok : mOk M1 n) (hstt : mStat M1) (hrm : rmOk M M1) (hn0 : As.length = n) (hst : stk = As.reverse ++ st) (hcat : (st.map fun v => v.category).sum ≤ 8) (ct : Ct M1 As σ v σ')
    (k : ZW g pc1 ls (v.toList ++ st) σ') : ZW g pc ls stk σ := by
  obtain ⟨⟨p, l, e, R, s, m, args, below, meth, c⟩, D, ad, cA, A, ⟨kc, ks⟩, Q⟩ := g
  obtain ⟨hx, hb, hml, hown, hts, hN, hK, hA, hR, hRc⟩ := X
  obtain ⟨d1, rfl⟩ := d
  intro H locs lsa hP hD hS hn hh
  subst hst
  have cb : CallB R s args (mY M).cls idx (mY M1) (mC M1) (mL M1) (mR M1) (mWs M1) (mRm M1) 0 0 n := callB_of n hts (gd_in ok) rfl rfl rfl (hts _ ok.2.1) (hts _ lk) ok.2.2.1 ⟨Nat.le_trans hrm.1 hR.1, Nat.le_trans hrm.2 hR.2⟩
  refine zw_back (v := v) (va_runS (As := As.map (cv ad)) (rest := st.map (cv ad)) (g := F0 m pc lsa ((As.reverse ++ st).map (cv ad))) ⟨hx, hb, rfl, hown, hts⟩ (ct l D ad cA H.size) ⟨cb, hts _ hstt⟩ ⟨ctP_blind, ct_pre (as := As) hP hD hK hN⟩ rfl (by rw [List.length_map]; exact hn0) hh.1 (by simp) (by show 2 * 0 + _ ≤ 8; rw [cat_map]; omega) d1 ⟨hRc.1, hRc.2⟩) hD hS hA (fun H1 locs1 hP1 hD1 hS1 => ?_)
  have h1 := k H1 locs1 lsa hP1 hD1 hS1 hn hh
  rw [List.map_append] at h1
  cases v with
  | none => exact h1
  | some w => exact h1
theorem zw_callSN {host : String} {As stk : List Value} (X : CX g M) (d : Dc M pc pc1 (.invokestatic idx) 3) (lk : Cond.methodLinkNest (mY M).cls idx (mY M1) host ∈ nst) (ok : mOk M1 n) (hstt : mStat M1) (hrm : rmOk M M1) (hn0 : As.length = n) (hst : stk = As.reverse ++ st) (hcat : (st.map fun v => v.category).sum ≤ 8) (ct : Ct M1 As σ v σ')
    (k : ZW g pc1 ls (v.toList ++ st) σ') : ZW g pc ls stk σ := by
  obtain ⟨⟨p, l, e, R, s, m, args, below, meth, c⟩, D, ad, cA, A, ⟨kc, ks⟩, Q⟩ := g
  obtain ⟨hx, hb, hml, hown, hts, hN, hK, hA, hR, hRc⟩ := X
  obtain ⟨d1, rfl⟩ := d
  intro H locs lsa hP hD hS hn hh
  subst hst
  have cb : va_CN R s args (mY M).cls idx (mY M1) host (mC M1) (mL M1) (mR M1) (mWs M1) (mRm M1) 0 0 n := va_cnB n hts (gd_in ok) rfl rfl rfl (hN _ lk) (hts _ ok.2.1) ok.2.2.1 ⟨Nat.le_trans hrm.1 hR.1, Nat.le_trans hrm.2 hR.2⟩
  refine zw_back (v := v) (va_runSN (host := host) (As := As.map (cv ad)) (rest := st.map (cv ad)) (g := F0 m pc lsa ((As.reverse ++ st).map (cv ad))) ⟨hx, hb, rfl, hown, hts⟩ (ct l D ad cA H.size) ⟨cb, hts _ hstt, trivial⟩ ⟨ctP_blind, ct_pre (as := As) hP hD hK hN⟩ rfl (by rw [List.length_map]; exact hn0) hh.1 (by simp) (by show 2 * 0 + _ ≤ 8; rw [cat_map]; omega) d1 ⟨hRc.1, hRc.2⟩) hD hS hA (fun H1 locs1 hP1 hD1 hS1 => ?_)
  have h1 := k H1 locs1 lsa hP1 hD1 hS1 hn hh
  rw [List.map_append] at h1
  cases v with
  | none => exact h1
  | some w => exact h1
theorem zw_max {x y : Int32} (X : CX g M) (d : Dc M pc pc1 (.invokestatic idx) 3) (lk : Cond.methodLink (mY M).cls idx Lib.Math.max.name ∈ lw_gd) (w1 : Cond.static Lib.Math.max.name ∈ lw_gd) (w2 : Cond.initialized "java/lang/Math" ∈ lw_gd) (w3 : Cond.code Lib.Math.max.name Lib.Math.max.code 2 (some .int) ∈ lw_gd) (hrm : 1 ≤ mF M ∧ 21 ≤ mO M) (hcat : (st.map fun v => v.category).sum ≤ 8) (k : ZW g pc1 ls (.int (if x < y then y else x) :: st) σ) : ZW g pc ls (.int y :: .int x :: st) σ := by
  obtain ⟨⟨p, l, e, R, s, m, args, below, meth, c⟩, D, ad, cA, A, ⟨kc, ks⟩, Q⟩ := g
  obtain ⟨hx, hb, hml, hown, hts, hN, hK, hA, hR, hRc⟩ := X
  obtain ⟨d1, rfl⟩ := d
  intro H locs lsa hP hD hS hn hh
  exact va_mmax hx hb hh.1.symm hown (hts _ lk) (hts _ w1) (hts _ w2) (hts _ w3) (Nat.le_trans hrm.1 hR.1) (by rw [cat_map]; have := hR.2; omega) hRc.1 hRc.2 d1 (k H locs lsa hP hD hS hn hh)
theorem zw_min {x y : Int32} (X : CX g M) (d : Dc M pc pc1 (.invokestatic idx) 3) (lk : Cond.methodLink (mY M).cls idx Lib.Math.min.name ∈ lw_gd) (w1 : Cond.static Lib.Math.min.name ∈ lw_gd) (w2 : Cond.initialized "java/lang/Math" ∈ lw_gd) (w3 : Cond.code Lib.Math.min.name Lib.Math.min.code 2 (some .int) ∈ lw_gd) (hrm : 1 ≤ mF M ∧ 21 ≤ mO M) (hcat : (st.map fun v => v.category).sum ≤ 8) (k : ZW g pc1 ls (.int (if y < x then y else x) :: st) σ) : ZW g pc ls (.int y :: .int x :: st) σ := by
  obtain ⟨⟨p, l, e, R, s, m, args, below, meth, c⟩, D, ad, cA, A, ⟨kc, ks⟩, Q⟩ := g
  obtain ⟨hx, hb, hml, hown, hts, hN, hK, hA, hR, hRc⟩ := X
  obtain ⟨d1, rfl⟩ := d
  intro H locs lsa hP hD hS hn hh
  exact va_mmin hx hb hh.1.symm hown (hts _ lk) (hts _ w1) (hts _ w2) (hts _ w3) (Nat.le_trans hrm.1 hR.1) (by rw [cat_map]; have := hR.2; omega) hRc.1 hRc.2 d1 (k H locs lsa hP hD hS hn hh)
/-- another way to write what is on top -/
theorem zw_top {x y : Int32} (h : x = y) (k : ZW g pc ls (.int y :: st) σ) : ZW g pc ls (.int x :: st) σ := by subst h; exact k
theorem zw_wld (h : σ = σ') (k : ZW g pc ls st σ') : ZW g pc ls st σ := by subst h; exact k
theorem zw_ls {ls' : List (Option Value)} (h : ls = ls') (k : ZW g pc ls' st σ) : ZW g pc ls st σ := by subst h; exact k
theorem zw_bif (b : Bool) {x : Int32} (h : x = bI b) (kt : b = true → ZW g pc ls (.int 1 :: st) σ) (kf : b = false → ZW g pc ls (.int 0 :: st) σ) : ZW g pc ls (.int x :: st) σ := by
  subst h; cases b
  · exact kf rfl
  · exact kt rfl
theorem zw_ifeqB {b : Bool} {off : Int} {tgt : Nat} (X : CX g M) (d : Dc M pc pc1 (.ifCond .eq off) 3) (ht : (pc : Int) + off = (tgt : Int)) (kt : b = false → ZW g tgt ls st σ) (kf : b = true → ZW g pc1 ls st σ) : ZW g pc ls (.int (bI b) :: st) σ :=
  zw_ifeq X d ht (fun h => kt (by cases b; rfl; exact absurd h (by decide))) (fun h => kf (by cases b; exact absurd rfl h; rfl))
theorem zw_ifneB {b : Bool} {off : Int} {tgt : Nat} (X : CX g M) (d : Dc M pc pc1 (.ifCond .ne off) 3) (ht : (pc : Int) + off = (tgt : Int)) (kt : b = true → ZW g tgt ls st σ) (kf : b = false → ZW g pc1 ls st σ) : ZW g pc ls (.int (bI b) :: st) σ :=
  zw_ifne X d ht (fun h => kt (by cases b; exact absurd rfl h; rfl)) (fun h => kf (by cases b; rfl; exact absurd h (by decide)))
end ZD
theorem zw_cN_ii {g : Gt} {M M1 : Mt} {pc pc1 idx : Nat} {host : String} {ls : List (Option Value)} {st : List Value} {σ σ1 : St} {x1 : Int32} {r : Int32} (X : CX g M) (d : Dc M pc pc1 (.invokestatic idx) 3) (lk : Cond.methodLinkNest (mY M).cls idx (mY M1) host ∈ nst) (ok : mOk M1 1) (hstt : mStat M1) (hrm : rmOk M M1) (hcat : (st.map fun v => v.category).sum ≤ 8) (ct : Ct M1 [.int x1] σ (some (.int r)) σ1) (k : ZW g pc1 ls (.int r :: st) σ1) : ZW g pc ls (.int x1 :: st) σ := zw_callSN (As := [.int x1]) X d lk ok hstt hrm rfl rfl hcat ct k
theorem zw_cN_iiii {g : Gt} {M M1 : Mt} {pc pc1 idx : Nat} {host : String} {ls : List (Option Value)} {st : List Value} {σ σ1 : St} {x1 : Int32} {x2 : Int32} {x3 : Int32} {r : Int32} (X : CX g M) (d : Dc M pc pc1 (.invokestatic idx) 3) (lk : Cond.methodLinkNest (mY M).cls idx (mY M1) host ∈ nst) (ok : mOk M1 3) (hstt : mStat M1) (hrm : rmOk M M1) (hcat : (st.map fun v => v.category).sum ≤ 8) (ct : Ct M1 [.int x1, .int x2, .int x3] σ (some (.int r)) σ1) (k : ZW g pc1 ls (.int r :: st) σ1) : ZW g pc ls (.int x3 :: .int x2 :: .int x1 :: st) σ := zw_callSN (As := [.int x1, .int x2, .int x3]) X d lk ok hstt hrm rfl rfl hcat ct k
theorem zw_cS_ii {g : Gt} {M M1 : Mt} {pc pc1 idx : Nat} {ls : List (Option Value)} {st : List Value} {σ σ1 : St} {x1 : Int32} {r : Int32} (X : CX g M) (d : Dc M pc pc1 (.invokestatic idx) 3) (lk : mLk (mY M).cls idx M1) (ok : mOk M1 1) (hstt : mStat M1) (hrm : rmOk M M1) (hcat : (st.map fun v => v.category).sum ≤ 8) (ct : Ct M1 [.int x1] σ (some (.int r)) σ1) (k : ZW g pc1 ls (.int r :: st) σ1) : ZW g pc ls (.int x1 :: st) σ := zw_callS (As := [.int x1]) X d lk ok hstt hrm rfl rfl hcat ct k
theorem zw_cS_iii {g : Gt} {M M1 : Mt} {pc pc1 idx : Nat} {ls : List (Option Value)} {st : List Value} {σ σ1 : St} {x1 : Int32} {x2 : Int32} {r : Int32} (X : CX g M) (d : Dc M pc pc1 (.invokestatic idx) 3) (lk : mLk (mY M).cls idx M1) (ok : mOk M1 2) (hstt : mStat M1) (hrm : rmOk M M1) (hcat : (st.map fun v => v.category).sum ≤ 8) (ct : Ct M1 [.int x1, .int x2] σ (some (.int r)) σ1) (k : ZW g pc1 ls (.int r :: st) σ1) : ZW g pc ls (.int x2 :: .int x1 :: st) σ := zw_callS (As := [.int x1, .int x2]) X d lk ok hstt hrm rfl rfl hcat ct k
theorem zw_cS_iiii {g : Gt} {M M1 : Mt} {pc pc1 idx : Nat} {ls : List (Option Value)} {st : List Value} {σ σ1 : St} {x1 : Int32} {x2 : Int32} {x3 : Int32} {r : Int32} (X : CX g M) (d : Dc M pc pc1 (.invokestatic idx) 3) (lk : mLk (mY M).cls idx M1) (ok : mOk M1 3) (hstt : mStat M1) (hrm : rmOk M M1) (hcat : (st.map fun v => v.category).sum ≤ 8) (ct : Ct M1 [.int x1, .int x2, .int x3] σ (some (.int r)) σ1) (k : ZW g pc1 ls (.int r :: st) σ1) : ZW g pc ls (.int x3 :: .int x2 :: .int x1 :: st) σ := zw_callS (As := [.int x1, .int x2, .int x3]) X d lk ok hstt hrm rfl rfl hcat ct k
theorem zw_cS_ri {g : Gt} {M M1 : Mt} {pc pc1 idx : Nat} {ls : List (Option Value)} {st : List Value} {σ σ1 : St} {x1 : Nat} {r : Int32} (X : CX g M) (d : Dc M pc pc1 (.invokestatic idx) 3) (lk : mLk (mY M).cls idx M1) (ok : mOk M1 1) (hstt : mStat M1) (hrm : rmOk M M1) (hcat : (st.map fun v => v.category).sum ≤ 8) (ct : Ct M1 [.ref x1] σ (some (.int r)) σ1) (k : ZW g pc1 ls (.int r :: st) σ1) : ZW g pc ls (.ref x1 :: st) σ := zw_callS (As := [.ref x1]) X d lk ok hstt hrm rfl rfl hcat ct k
theorem zw_cS_riri {g : Gt} {M M1 : Mt} {pc pc1 idx : Nat} {ls : List (Option Value)} {st : List Value} {σ σ1 : St} {x1 : Nat} {x2 : Int32} {x3 : Nat} {r : Int32} (X : CX g M) (d : Dc M pc pc1 (.invokestatic idx) 3) (lk : mLk (mY M).cls idx M1) (ok : mOk M1 3) (hstt : mStat M1) (hrm : rmOk M M1) (hcat : (st.map fun v => v.category).sum ≤ 8) (ct : Ct M1 [.ref x1, .int x2, .ref x3] σ (some (.int r)) σ1) (k : ZW g pc1 ls (.int r :: st) σ1) : ZW g pc ls (.ref x3 :: .int x2 :: .ref x1 :: st) σ := zw_callS (As := [.ref x1, .int x2, .ref x3]) X d lk ok hstt hrm rfl rfl hcat ct k
theorem zw_cV_ni {g : Gt} {M M1 : Mt} {pc pc1 idx b ci : Nat} {kd : List (Option Nat)} {ls : List (Option Value)} {st : List Value} {σ σ1 : St} {r : Int32} (X : CX g M) (d : Dc M pc pc1 (.invokevirtual idx) 3) (lk : mLk (mY M).cls idx M1) (ok : mOk M1 0) (vi : mVirt M1) (hrm : rmOk M M1) (hs : sh b = .inl (ci, kd)) (hcl : (cls[ci]?).map (fun q => q.1) = some (mY M1).cls) (hcat : (st.map fun v => v.category).sum ≤ 8) (ct : Ct M1 (.ref b :: []) σ (some (.int r)) σ1) (k : ZW g pc1 ls (.int r :: st) σ1) : ZW g pc ls (.ref b :: st) σ := zw_callV (As := []) X d lk ok vi hrm hs hcl rfl rfl hcat ct k
theorem zw_cV_nv {g : Gt} {M M1 : Mt} {pc pc1 idx b ci : Nat} {kd : List (Option Nat)} {ls : List (Option Value)} {st : List Value} {σ σ1 : St} (X : CX g M) (d : Dc M pc pc1 (.invokevirtual idx) 3) (lk : mLk (mY M).cls idx M1) (ok : mOk M1 0) (vi : mVirt M1) (hrm : rmOk M M1) (hs : sh b = .inl (ci, kd)) (hcl : (cls[ci]?).map (fun q => q.1) = some (mY M1).cls) (hcat : (st.map fun v => v.category).sum ≤ 8) (ct : Ct M1 (.ref b :: []) σ none σ1) (k : ZW g pc1 ls (st) σ1) : ZW g pc ls (.ref b :: st) σ := zw_callV (As := []) X d lk ok vi hrm hs hcl rfl rfl hcat ct k
theorem zw_cV_ii {g : Gt} {M M1 : Mt} {pc pc1 idx b ci : Nat} {kd : List (Option Nat)} {ls : List (Option Value)} {st : List Value} {σ σ1 : St} {x1 : Int32} {r : Int32} (X : CX g M) (d : Dc M pc pc1 (.invokevirtual idx) 3) (lk : mLk (mY M).cls idx M1) (ok : mOk M1 1) (vi : mVirt M1) (hrm : rmOk M M1) (hs : sh b = .inl (ci, kd)) (hcl : (cls[ci]?).map (fun q => q.1) = some (mY M1).cls) (hcat : (st.map fun v => v.category).sum ≤ 8) (ct : Ct M1 (.ref b :: [.int x1]) σ (some (.int r)) σ1) (k : ZW g pc1 ls (.int r :: st) σ1) : ZW g pc ls (.int x1 :: .ref b :: st) σ := zw_callV (As := [.int x1]) X d lk ok vi hrm hs hcl rfl rfl hcat ct k
theorem zw_cV_ir {g : Gt} {M M1 : Mt} {pc pc1 idx b ci : Nat} {kd : List (Option Nat)} {ls : List (Option Value)} {st : List Value} {σ σ1 : St} {x1 : Int32} {r : Nat} (X : CX g M) (d : Dc M pc pc1 (.invokevirtual idx) 3) (lk : mLk (mY M).cls idx M1) (ok : mOk M1 1) (vi : mVirt M1) (hrm : rmOk M M1) (hs : sh b = .inl (ci, kd)) (hcl : (cls[ci]?).map (fun q => q.1) = some (mY M1).cls) (hcat : (st.map fun v => v.category).sum ≤ 8) (ct : Ct M1 (.ref b :: [.int x1]) σ (some (.ref r)) σ1) (k : ZW g pc1 ls (.ref r :: st) σ1) : ZW g pc ls (.int x1 :: .ref b :: st) σ := zw_callV (As := [.int x1]) X d lk ok vi hrm hs hcl rfl rfl hcat ct k
theorem zw_cV_iv {g : Gt} {M M1 : Mt} {pc pc1 idx b ci : Nat} {kd : List (Option Nat)} {ls : List (Option Value)} {st : List Value} {σ σ1 : St} {x1 : Int32} (X : CX g M) (d : Dc M pc pc1 (.invokevirtual idx) 3) (lk : mLk (mY M).cls idx M1) (ok : mOk M1 1) (vi : mVirt M1) (hrm : rmOk M M1) (hs : sh b = .inl (ci, kd)) (hcl : (cls[ci]?).map (fun q => q.1) = some (mY M1).cls) (hcat : (st.map fun v => v.category).sum ≤ 8) (ct : Ct M1 (.ref b :: [.int x1]) σ none σ1) (k : ZW g pc1 ls (st) σ1) : ZW g pc ls (.int x1 :: .ref b :: st) σ := zw_callV (As := [.int x1]) X d lk ok vi hrm hs hcl rfl rfl hcat ct k
theorem zw_cV_iii {g : Gt} {M M1 : Mt} {pc pc1 idx b ci : Nat} {kd : List (Option Nat)} {ls : List (Option Value)} {st : List Value} {σ σ1 : St} {x1 : Int32} {x2 : Int32} {r : Int32} (X : CX g M) (d : Dc M pc pc1 (.invokevirtual idx) 3) (lk : mLk (mY M).cls idx M1) (ok : mOk M1 2) (vi : mVirt M1) (hrm : rmOk M M1) (hs : sh b = .inl (ci, kd)) (hcl : (cls[ci]?).map (fun q => q.1) = some (mY M1).cls) (hcat : (st.map fun v => v.category).sum ≤ 8) (ct : Ct M1 (.ref b :: [.int x1, .int x2]) σ (some (.int r)) σ1) (k : ZW g pc1 ls (.int r :: st) σ1) : ZW g pc ls (.int x2 :: .int x1 :: .ref b :: st) σ := zw_callV (As := [.int x1, .int x2]) X d lk ok vi hrm hs hcl rfl rfl hcat ct k
theorem zw_cV_iiv {g : Gt} {M M1 : Mt} {pc pc1 idx b ci : Nat} {kd : List (Option Nat)} {ls : List (Option Value)} {st : List Value} {σ σ1 : St} {x1 : Int32} {x2 : Int32} (X : CX g M) (d : Dc M pc pc1 (.invokevirtual idx) 3) (lk : mLk (mY M).cls idx M1) (ok : mOk M1 2) (vi : mVirt M1) (hrm : rmOk M M1) (hs : sh b = .inl (ci, kd)) (hcl : (cls[ci]?).map (fun q => q.1) = some (mY M1).cls) (hcat : (st.map fun v => v.category).sum ≤ 8) (ct : Ct M1 (.ref b :: [.int x1, .int x2]) σ none σ1) (k : ZW g pc1 ls (st) σ1) : ZW g pc ls (.int x2 :: .int x1 :: .ref b :: st) σ := zw_callV (As := [.int x1, .int x2]) X d lk ok vi hrm hs hcl rfl rfl hcat ct k
theorem zw_cV_iiii {g : Gt} {M M1 : Mt} {pc pc1 idx b ci : Nat} {kd : List (Option Nat)} {ls : List (Option Value)} {st : List Value} {σ σ1 : St} {x1 : Int32} {x2 : Int32} {x3 : Int32} {r : Int32} (X : CX g M) (d : Dc M pc pc1 (.invokevirtual idx) 3) (lk : mLk (mY M).cls idx M1) (ok : mOk M1 3) (vi : mVirt M1) (hrm : rmOk M M1) (hs : sh b = .inl (ci, kd)) (hcl : (cls[ci]?).map (fun q => q.1) = some (mY M1).cls) (hcat : (st.map fun v => v.category).sum ≤ 8) (ct : Ct M1 (.ref b :: [.int x1, .int x2, .int x3]) σ (some (.int r)) σ1) (k : ZW g pc1 ls (.int r :: st) σ1) : ZW g pc ls (.int x3 :: .int x2 :: .int x1 :: .ref b :: st) σ := zw_callV (As := [.int x1, .int x2, .int x3]) X d lk ok vi hrm hs hcl rfl rfl hcat ct k
theorem zw_cV_iiiv {g : Gt} {M M1 : Mt} {pc pc1 idx b ci : Nat} {kd : List (Option Nat)} {ls : List (Option Value)} {st : List Value} {σ σ1 : St} {x1 : Int32} {x2 : Int32} {x3 : Int32} (X : CX g M) (d : Dc M pc pc1 (.invokevirtual idx) 3) (lk : mLk (mY M).cls idx M1) (ok : mOk M1 3) (vi : mVirt M1) (hrm : rmOk M M1) (hs : sh b = .inl (ci, kd)) (hcl : (cls[ci]?).map (fun q => q.1) = some (mY M1).cls) (hcat : (st.map fun v => v.category).sum ≤ 8) (ct : Ct M1 (.ref b :: [.int x1, .int x2, .int x3]) σ none σ1) (k : ZW g pc1 ls (st) σ1) : ZW g pc ls (.int x3 :: .int x2 :: .int x1 :: .ref b :: st) σ := zw_callV (As := [.int x1, .int x2, .int x3]) X d lk ok vi hrm hs hcl rfl rfl hcat ct k
theorem zw_cV_ri {g : Gt} {M M1 : Mt} {pc pc1 idx b ci : Nat} {kd : List (Option Nat)} {ls : List (Option Value)} {st : List Value} {σ σ1 : St} {x1 : Nat} {r : Int32} (X : CX g M) (d : Dc M pc pc1 (.invokevirtual idx) 3) (lk : mLk (mY M).cls idx M1) (ok : mOk M1 1) (vi : mVirt M1) (hrm : rmOk M M1) (hs : sh b = .inl (ci, kd)) (hcl : (cls[ci]?).map (fun q => q.1) = some (mY M1).cls) (hcat : (st.map fun v => v.category).sum ≤ 8) (ct : Ct M1 (.ref b :: [.ref x1]) σ (some (.int r)) σ1) (k : ZW g pc1 ls (.int r :: st) σ1) : ZW g pc ls (.ref x1 :: .ref b :: st) σ := zw_callV (As := [.ref x1]) X d lk ok vi hrm hs hcl rfl rfl hcat ct k
theorem zw_cV_rv {g : Gt} {M M1 : Mt} {pc pc1 idx b ci : Nat} {kd : List (Option Nat)} {ls : List (Option Value)} {st : List Value} {σ σ1 : St} {x1 : Nat} (X : CX g M) (d : Dc M pc pc1 (.invokevirtual idx) 3) (lk : mLk (mY M).cls idx M1) (ok : mOk M1 1) (vi : mVirt M1) (hrm : rmOk M M1) (hs : sh b = .inl (ci, kd)) (hcl : (cls[ci]?).map (fun q => q.1) = some (mY M1).cls) (hcat : (st.map fun v => v.category).sum ≤ 8) (ct : Ct M1 (.ref b :: [.ref x1]) σ none σ1) (k : ZW g pc1 ls (st) σ1) : ZW g pc ls (.ref x1 :: .ref b :: st) σ := zw_callV (As := [.ref x1]) X d lk ok vi hrm hs hcl rfl rfl hcat ct k
theorem zw_cV_riiv {g : Gt} {M M1 : Mt} {pc pc1 idx b ci : Nat} {kd : List (Option Nat)} {ls : List (Option Value)} {st : List Value} {σ σ1 : St} {x1 : Nat} {x2 : Int32} {x3 : Int32} (X : CX g M) (d : Dc M pc pc1 (.invokevirtual idx) 3) (lk : mLk (mY M).cls idx M1) (ok : mOk M1 3) (vi : mVirt M1) (hrm : rmOk M M1) (hs : sh b = .inl (ci, kd)) (hcl : (cls[ci]?).map (fun q => q.1) = some (mY M1).cls) (hcat : (st.map fun v => v.category).sum ≤ 8) (ct : Ct M1 (.ref b :: [.ref x1, .int x2, .int x3]) σ none σ1) (k : ZW g pc1 ls (st) σ1) : ZW g pc ls (.int x3 :: .int x2 :: .ref x1 :: .ref b :: st) σ := zw_callV (As := [.ref x1, .int x2, .int x3]) X d lk ok vi hrm hs hcl rfl rfl hcat ct k
theorem zw_cV_rri {g : Gt} {M M1 : Mt} {pc pc1 idx b ci : Nat} {kd : List (Option Nat)} {ls : List (Option Value)} {st : List Value} {σ σ1 : St} {x1 : Nat} {x2 : Nat} {r : Int32} (X : CX g M) (d : Dc M pc pc1 (.invokevirtual idx) 3) (lk : mLk (mY M).cls idx M1) (ok : mOk M1 2) (vi : mVirt M1) (hrm : rmOk M M1) (hs : sh b = .inl (ci, kd)) (hcl : (cls[ci]?).map (fun q => q.1) = some (mY M1).cls) (hcat : (st.map fun v => v.category).sum ≤ 8) (ct : Ct M1 (.ref b :: [.ref x1, .ref x2]) σ (some (.int r)) σ1) (k : ZW g pc1 ls (.int r :: st) σ1) : ZW g pc ls (.ref x2 :: .ref x1 :: .ref b :: st) σ := zw_callV (As := [.ref x1, .ref x2]) X d lk ok vi hrm hs hcl rfl rfl hcat ct k
theorem zw_cV_rrv {g : Gt} {M M1 : Mt} {pc pc1 idx b ci : Nat} {kd : List (Option Nat)} {ls : List (Option Value)} {st : List Value} {σ σ1 : St} {x1 : Nat} {x2 : Nat} (X : CX g M) (d : Dc M pc pc1 (.invokevirtual idx) 3) (lk : mLk (mY M).cls idx M1) (ok : mOk M1 2) (vi : mVirt M1) (hrm : rmOk M M1) (hs : sh b = .inl (ci, kd)) (hcl : (cls[ci]?).map (fun q => q.1) = some (mY M1).cls) (hcat : (st.map fun v => v.category).sum ≤ 8) (ct : Ct M1 (.ref b :: [.ref x1, .ref x2]) σ none σ1) (k : ZW g pc1 ls (st) σ1) : ZW g pc ls (.ref x2 :: .ref x1 :: .ref b :: st) σ := zw_callV (As := [.ref x1, .ref x2]) X d lk ok vi hrm hs hcl rfl rfl hcat ct k
