/-! the script, in the logic: it is place 57 -/
def SX (g : Gt) (L : Nat) (xs : Nat → Int32) : Prop := match g with
  | ((p, l, e, R, s, m, args, below, meth, c), D, ad, cA, A, (kc, ks), Q) => va_X (ad 57) L xs s s.heap ∧ ad 57 < s.heap.size ∧ ¬ A (ad 57)
def LG (g : Gt) : Prop := match g with
  | ((p, l, e, R, s, m, args, below, meth, c), D, ad, cA, A, (kc, ks), Q) => ∃ b : Nat, args = #[Value.ref b] ∧ R = room_1 ∧ kc = 57 ∧ ks = 630 ∧ Q = lw_Z below #[Value.ref b] s ∧ (∀ q, A q → s.heap.size ≤ q) ∧ meth.sig.returnType = ret ∧ meth.locks = false
section ZL
variable {g : Gt} {pc pc1 : Nat} {ls : List (Option Value)} {st : List Value} {σ : St}
theorem zl_ld {L : Nat} {xs : Nat → Int32} {i : Int32} (X : CX g ML_law) (Y : SX g L xs) (d : Dc ML_law pc pc1 .iaload 1) (hi : vp_in i L) (k : ZW g pc1 ls (.int (xs i.toNatClampNeg) :: st) σ) : ZW g pc ls (.int i :: .ref 57 :: st) σ := by
  obtain ⟨⟨p, l, e, R, s, m, args, below, meth, c⟩, D, ad, cA, A, ⟨kc, ks⟩, Q⟩ := g
  obtain ⟨hx, hb, -⟩ := X
  obtain ⟨hX, hbl, hbA⟩ := Y
  obtain ⟨d1, rfl⟩ := d
  intro H locs lsa hP hD hS hn hh
  exact va_sld hx hb hX hbl hbA hS hi d1 (k H locs lsa hP hD hS hn hh)
theorem zl_len {L : Nat} {xs : Nat → Int32} (X : CX g ML_law) (Y : SX g L xs) (d : Dc ML_law pc pc1 .arraylength 1) (k : ZW g pc1 ls (.int (nI L) :: st) σ) : ZW g pc ls (.ref 57 :: st) σ := by
  obtain ⟨⟨p, l, e, R, s, m, args, below, meth, c⟩, D, ad, cA, A, ⟨kc, ks⟩, Q⟩ := g
  obtain ⟨hx, hb, -⟩ := X
  obtain ⟨hX, hbl, hbA⟩ := Y
  obtain ⟨d1, rfl⟩ := d
  intro H locs lsa hP hD hS hn hh
  exact va_slen hx hb hX hbl hbA hS d1 (k H locs lsa hP hD hS hn hh)
theorem zl_ret (X : CX g ML_law) (Y : LG g) (d : Dc ML_law pc pc1 .ireturn 1) : ZW g pc ls [.int 1] σ := by
  obtain ⟨⟨p, l, e, R, s, m, args, below, meth, c⟩, D, ad, cA, A, ⟨kc, ks⟩, Q⟩ := g
  obtain ⟨hx, hb, -⟩ := X
  obtain ⟨b, rfl, rfl, rfl, rfl, rfl, hA, hr, hlk⟩ := Y
  obtain ⟨d1, rfl⟩ := d
  intro H locs lsa hP hD hS hn hh
  refine va_forget (fun q hq => hA _ (hS.2.2 q hq)) ?_
  exact lw_ret hx hb hr hlk d1
end ZL
theorem zw_iinc_3_p4 {g : Gt} {M : Mt} {pc pc1 : Nat} {st : List Value} {σ : St} {x : Int32} {a0 a1 a2 : Option Value} {r : List (Option Value)} (X : CX g M) (d : Dc M pc pc1 (.iinc 3 4) 3) (k : ZW g pc1 (a0 :: a1 :: a2 :: some (.int (x + 4)) :: r) st σ) (hp : nlg a2 = true := by rfl) : ZW g pc (a0 :: a1 :: a2 :: some (.int x) :: r) st σ := zw_iinc (i := 3) (x := x) X d rfl (congrArg (x + ·) (by decide)) (by simp) hp k
theorem sc_in {k L : Nat} (j : Nat) (hj : j < 4) (h : 4 * k + 4 ≤ L) (hL : L ≤ 256) : vp_in (nI (4 * k) + nI j) L := by
  rw [nI_add]; exact vp_in_nI (by omega) (by omega)
theorem zw_cV_iiil {g : Gt} {M M1 : Mt} {pc pc1 idx b ci : Nat} {kd : List (Option Nat)} {ls : List (Option Value)} {st : List Value} {σ σ1 : St} {x1 x2 x3 : Int32} {r : Int64} (X : CX g M) (d : Dc M pc pc1 (.invokevirtual idx) 3) (lk : mLk (mY M).cls idx M1) (ok : mOk M1 3) (vi : mVirt M1) (hrm : rmOk M M1) (hs : sh b = .inl (ci, kd)) (hcl : (cls[ci]?).map (fun q => q.1) = some (mY M1).cls) (hcat : (st.map fun v => v.category).sum ≤ 8) (ct : Ct M1 (.ref b :: [.int x1, .int x2, .int x3]) σ (some (.long r)) σ1) (k : ZW g pc1 ls (.long r :: st) σ1) : ZW g pc ls (.int x3 :: .int x2 :: .int x1 :: .ref b :: st) σ := zw_callV (As := [.int x1, .int x2, .int x3]) X d lk ok vi hrm hs hcl rfl rfl hcat ct k
set_option maxRecDepth 20000 in
theorem law_c0 {g : Gt} (X : CX g ML_law) {L : Nat} {xs : Nat → Int32} (Y : SX g L xs) (hL : L ≤ 256) {k : Nat} (hk : 4 * k + 4 ≤ L) {σ : St} (hI : Inv σ) (hE : ∀ σ2 : St, Inv σ2 → ZW g 1079 [some (.ref 57), some (.ref 0), some (.ref 42), some (.int (nI (4 * k)))] [] σ2) : ZW g 176 [some (.ref 57), some (.ref 0), some (.ref 42), some (.int (nI (4 * k)))] [] σ := by
  refine zw_aload_1 X dL_law_176 ?_
  refine zw_aload_0 X dL_law_177 ?_
  refine zw_iload_3 X dL_law_178 ?_
  refine zw_iconst (v := 1) X dL_law_179 ik_1 ?_
  refine zw_iadd X dL_law_180 ?_
  refine zl_ld X Y dL_law_181 (sc_in 1 (by decide) hk hL) ?_
  obtain ⟨r, σ1, σ2, hc1, hc2, hI2⟩ := B_line hI (a0 := xs (nI (4 * k) + 1).toNatClampNeg)
  refine zw_cV_ii X dL_law_182 lk_L_13 ok_MX7_line vi_MX7_line rm_L_law_X7_line sh_0 rfl (Nat.le_of_ble_eq_true rfl) hc1 ?_
  refine zw_aload_2 X dL_law_185 ?_
  refine zw_aload_0 X dL_law_186 ?_
  refine zw_iload_3 X dL_law_187 ?_
  refine zw_iconst (v := 1) X dL_law_188 ik_1 ?_
  refine zw_iadd X dL_law_189 ?_
  refine zl_ld X Y dL_law_190 (sc_in 1 (by decide) hk hL) ?_
  refine zw_cV_ii X dL_law_191 lk_L_17 ok_MX8_line vi_MX8_line rm_L_law_X8_line sh_42 rfl (Nat.le_of_ble_eq_true rfl) hc2 ?_
  refine zw_icmpeq_t (tgt := 1079) X dL_law_194 (by decide) rfl ?_
  exact hE σ2 hI2
set_option maxRecDepth 20000 in
theorem law_c1 {g : Gt} (X : CX g ML_law) {L : Nat} {xs : Nat → Int32} (Y : SX g L xs) (hL : L ≤ 256) {k : Nat} (hk : 4 * k + 4 ≤ L) {σ : St} (hI : Inv σ) (hE : ∀ σ2 : St, Inv σ2 → ZW g 1079 [some (.ref 57), some (.ref 0), some (.ref 42), some (.int (nI (4 * k)))] [] σ2) : ZW g 199 [some (.ref 57), some (.ref 0), some (.ref 42), some (.int (nI (4 * k)))] [] σ := by
  refine zw_aload_1 X dL_law_199 ?_
  refine zw_aload_0 X dL_law_200 ?_
  refine zw_iload_3 X dL_law_201 ?_
  refine zw_iconst (v := 1) X dL_law_202 ik_1 ?_
  refine zw_iadd X dL_law_203 ?_
  refine zl_ld X Y dL_law_204 (sc_in 1 (by decide) hk hL) ?_
  refine zw_aload_0 X dL_law_205 ?_
  refine zw_iload_3 X dL_law_206 ?_
  refine zw_iconst (v := 2) X dL_law_207 ik_2 ?_
  refine zw_iadd X dL_law_208 ?_
  refine zl_ld X Y dL_law_209 (sc_in 2 (by decide) hk hL) ?_
  refine zw_ifeq (tgt := 217) X dL_law_210 (by decide) (fun cb => ?_) (fun cb => ?_)
  · refine zw_iconst (v := 0) X dL_law_217 ik_0 ?_
    obtain ⟨r, σ1, σ2, hc1, hc2, hI2⟩ := B_tunnel hI (a0 := xs (nI (4 * k) + 1).toNatClampNeg) (a1 := 0) (hb := by decide)
    refine zw_cV_iii X dL_law_218 lk_L_18 ok_MX7_tunnel vi_MX7_tunnel rm_L_law_X7_tunnel sh_0 rfl (Nat.le_of_ble_eq_true rfl) hc1 ?_
    refine zw_aload_2 X dL_law_221 ?_
    refine zw_aload_0 X dL_law_222 ?_
    refine zw_iload_3 X dL_law_223 ?_
    refine zw_iconst (v := 1) X dL_law_224 ik_1 ?_
    refine zw_iadd X dL_law_225 ?_
    refine zl_ld X Y dL_law_226 (sc_in 1 (by decide) hk hL) ?_
    refine zw_aload_0 X dL_law_227 ?_
    refine zw_iload_3 X dL_law_228 ?_
    refine zw_iconst (v := 2) X dL_law_229 ik_2 ?_
    refine zw_iadd X dL_law_230 ?_
    refine zl_ld X Y dL_law_231 (sc_in 2 (by decide) hk hL) ?_
    refine zw_ifeq_t (tgt := 239) X dL_law_232 (by decide) cb ?_
    refine zw_iconst (v := 0) X dL_law_239 ik_0 ?_
    refine zw_cV_iii X dL_law_240 lk_L_22 ok_MX8_tunnel vi_MX8_tunnel rm_L_law_X8_tunnel sh_42 rfl (Nat.le_of_ble_eq_true rfl) hc2 ?_
    refine zw_icmpeq_t (tgt := 1079) X dL_law_243 (by decide) rfl ?_
    exact hE σ2 hI2
  · refine zw_iconst (v := 1) X dL_law_213 ik_1 ?_
    refine zw_goto (tgt := 218) X dL_law_214 (by decide) ?_
    obtain ⟨r, σ1, σ2, hc1, hc2, hI2⟩ := B_tunnel hI (a0 := xs (nI (4 * k) + 1).toNatClampNeg) (a1 := 1) (hb := by decide)
    refine zw_cV_iii X dL_law_218 lk_L_18 ok_MX7_tunnel vi_MX7_tunnel rm_L_law_X7_tunnel sh_0 rfl (Nat.le_of_ble_eq_true rfl) hc1 ?_
    refine zw_aload_2 X dL_law_221 ?_
    refine zw_aload_0 X dL_law_222 ?_
    refine zw_iload_3 X dL_law_223 ?_
    refine zw_iconst (v := 1) X dL_law_224 ik_1 ?_
    refine zw_iadd X dL_law_225 ?_
    refine zl_ld X Y dL_law_226 (sc_in 1 (by decide) hk hL) ?_
    refine zw_aload_0 X dL_law_227 ?_
    refine zw_iload_3 X dL_law_228 ?_
    refine zw_iconst (v := 2) X dL_law_229 ik_2 ?_
    refine zw_iadd X dL_law_230 ?_
    refine zl_ld X Y dL_law_231 (sc_in 2 (by decide) hk hL) ?_
    refine zw_ifeq_f (tgt := 239) X dL_law_232 (by decide) cb ?_
    refine zw_iconst (v := 1) X dL_law_235 ik_1 ?_
    refine zw_goto (tgt := 240) X dL_law_236 (by decide) ?_
    refine zw_cV_iii X dL_law_240 lk_L_22 ok_MX8_tunnel vi_MX8_tunnel rm_L_law_X8_tunnel sh_42 rfl (Nat.le_of_ble_eq_true rfl) hc2 ?_
    refine zw_icmpeq_t (tgt := 1079) X dL_law_243 (by decide) rfl ?_
    exact hE σ2 hI2
set_option maxRecDepth 20000 in
theorem law_c2 {g : Gt} (X : CX g ML_law) {L : Nat} {xs : Nat → Int32} (Y : SX g L xs) (hL : L ≤ 256) {k : Nat} (hk : 4 * k + 4 ≤ L) {σ : St} (hI : Inv σ) (hE : ∀ σ2 : St, Inv σ2 → ZW g 1079 [some (.ref 57), some (.ref 0), some (.ref 42), some (.int (nI (4 * k)))] [] σ2) : ZW g 248 [some (.ref 57), some (.ref 0), some (.ref 42), some (.int (nI (4 * k)))] [] σ := by
  refine zw_aload_1 X dL_law_248 ?_
  refine zw_aload_0 X dL_law_249 ?_
  refine zw_iload_3 X dL_law_250 ?_
  refine zw_iconst (v := 1) X dL_law_251 ik_1 ?_
  refine zw_iadd X dL_law_252 ?_
  refine zl_ld X Y dL_law_253 (sc_in 1 (by decide) hk hL) ?_
  refine zw_aload_0 X dL_law_254 ?_
  refine zw_iload_3 X dL_law_255 ?_
  refine zw_iconst (v := 2) X dL_law_256 ik_2 ?_
  refine zw_iadd X dL_law_257 ?_
  refine zl_ld X Y dL_law_258 (sc_in 2 (by decide) hk hL) ?_
  refine zw_aload_0 X dL_law_259 ?_
  refine zw_iload_3 X dL_law_260 ?_
  refine zw_iconst (v := 3) X dL_law_261 ik_3 ?_
  refine zw_iadd X dL_law_262 ?_
  refine zl_ld X Y dL_law_263 (sc_in 3 (by decide) hk hL) ?_
  obtain ⟨r, σ1, σ2, hc1, hc2, hI2⟩ := B_ride hI (a0 := xs (nI (4 * k) + 1).toNatClampNeg) (a1 := xs (nI (4 * k) + 2).toNatClampNeg) (a2 := xs (nI (4 * k) + 3).toNatClampNeg)
  refine zw_cV_iiii X dL_law_264 lk_L_23 ok_MX7_ride vi_MX7_ride rm_L_law_X7_ride sh_0 rfl (Nat.le_of_ble_eq_true rfl) hc1 ?_
  refine zw_aload_2 X dL_law_267 ?_
  refine zw_aload_0 X dL_law_268 ?_
  refine zw_iload_3 X dL_law_269 ?_
  refine zw_iconst (v := 1) X dL_law_270 ik_1 ?_
  refine zw_iadd X dL_law_271 ?_
  refine zl_ld X Y dL_law_272 (sc_in 1 (by decide) hk hL) ?_
  refine zw_aload_0 X dL_law_273 ?_
  refine zw_iload_3 X dL_law_274 ?_
  refine zw_iconst (v := 2) X dL_law_275 ik_2 ?_
  refine zw_iadd X dL_law_276 ?_
  refine zl_ld X Y dL_law_277 (sc_in 2 (by decide) hk hL) ?_
  refine zw_aload_0 X dL_law_278 ?_
  refine zw_iload_3 X dL_law_279 ?_
  refine zw_iconst (v := 3) X dL_law_280 ik_3 ?_
  refine zw_iadd X dL_law_281 ?_
  refine zl_ld X Y dL_law_282 (sc_in 3 (by decide) hk hL) ?_
  refine zw_cV_iiii X dL_law_283 lk_L_27 ok_MX8_ride vi_MX8_ride rm_L_law_X8_ride sh_42 rfl (Nat.le_of_ble_eq_true rfl) hc2 ?_
  refine zw_icmpeq_t (tgt := 1079) X dL_law_286 (by decide) rfl ?_
  exact hE σ2 hI2
set_option maxRecDepth 20000 in
theorem law_c3 {g : Gt} (X : CX g ML_law) {L : Nat} {xs : Nat → Int32} (Y : SX g L xs) (hL : L ≤ 256) {k : Nat} (hk : 4 * k + 4 ≤ L) {σ : St} (hI : Inv σ) (hE : ∀ σ2 : St, Inv σ2 → ZW g 1079 [some (.ref 57), some (.ref 0), some (.ref 42), some (.int (nI (4 * k)))] [] σ2) : ZW g 291 [some (.ref 57), some (.ref 0), some (.ref 42), some (.int (nI (4 * k)))] [] σ := by
  refine zw_aload_1 X dL_law_291 ?_
  refine zw_aload_0 X dL_law_292 ?_
  refine zw_iload_3 X dL_law_293 ?_
  refine zw_iconst (v := 1) X dL_law_294 ik_1 ?_
  refine zw_iadd X dL_law_295 ?_
  refine zl_ld X Y dL_law_296 (sc_in 1 (by decide) hk hL) ?_
  refine zw_aload_0 X dL_law_297 ?_
  refine zw_iload_3 X dL_law_298 ?_
  refine zw_iconst (v := 2) X dL_law_299 ik_2 ?_
  refine zw_iadd X dL_law_300 ?_
  refine zl_ld X Y dL_law_301 (sc_in 2 (by decide) hk hL) ?_
  obtain ⟨r, σ1, σ2, hc1, hc2, hI2⟩ := B_seat hI (a0 := xs (nI (4 * k) + 1).toNatClampNeg) (a1 := xs (nI (4 * k) + 2).toNatClampNeg)
  refine zw_cV_iii X dL_law_302 lk_L_28 ok_MX7_seat vi_MX7_seat rm_L_law_X7_seat sh_0 rfl (Nat.le_of_ble_eq_true rfl) hc1 ?_
  refine zw_aload_2 X dL_law_305 ?_
  refine zw_aload_0 X dL_law_306 ?_
  refine zw_iload_3 X dL_law_307 ?_
  refine zw_iconst (v := 1) X dL_law_308 ik_1 ?_
  refine zw_iadd X dL_law_309 ?_
  refine zl_ld X Y dL_law_310 (sc_in 1 (by decide) hk hL) ?_
  refine zw_aload_0 X dL_law_311 ?_
  refine zw_iload_3 X dL_law_312 ?_
  refine zw_iconst (v := 2) X dL_law_313 ik_2 ?_
  refine zw_iadd X dL_law_314 ?_
  refine zl_ld X Y dL_law_315 (sc_in 2 (by decide) hk hL) ?_
  refine zw_cV_iii X dL_law_316 lk_L_32 ok_MX8_seat vi_MX8_seat rm_L_law_X8_seat sh_42 rfl (Nat.le_of_ble_eq_true rfl) hc2 ?_
  refine zw_icmpeq_t (tgt := 1079) X dL_law_319 (by decide) rfl ?_
  exact hE σ2 hI2
set_option maxRecDepth 20000 in
theorem law_c4 {g : Gt} (X : CX g ML_law) {L : Nat} {xs : Nat → Int32} (Y : SX g L xs) (hL : L ≤ 256) {k : Nat} (hk : 4 * k + 4 ≤ L) {σ : St} (hI : Inv σ) (hE : ∀ σ2 : St, Inv σ2 → ZW g 1079 [some (.ref 57), some (.ref 0), some (.ref 42), some (.int (nI (4 * k)))] [] σ2) : ZW g 324 [some (.ref 57), some (.ref 0), some (.ref 42), some (.int (nI (4 * k)))] [] σ := by
  refine zw_aload_1 X dL_law_324 ?_
  refine zw_aload_0 X dL_law_325 ?_
  refine zw_iload_3 X dL_law_326 ?_
  refine zw_iconst (v := 1) X dL_law_327 ik_1 ?_
  refine zw_iadd X dL_law_328 ?_
  refine zl_ld X Y dL_law_329 (sc_in 1 (by decide) hk hL) ?_
  refine zw_aload_0 X dL_law_330 ?_
  refine zw_iload_3 X dL_law_331 ?_
  refine zw_iconst (v := 2) X dL_law_332 ik_2 ?_
  refine zw_iadd X dL_law_333 ?_
  refine zl_ld X Y dL_law_334 (sc_in 2 (by decide) hk hL) ?_
  obtain ⟨r, σ1, σ2, hc1, hc2, hI2⟩ := B_purse hI (a0 := xs (nI (4 * k) + 1).toNatClampNeg) (a1 := xs (nI (4 * k) + 2).toNatClampNeg)
  refine zw_cV_iii X dL_law_335 lk_L_33 ok_MX7_purse vi_MX7_purse rm_L_law_X7_purse sh_0 rfl (Nat.le_of_ble_eq_true rfl) hc1 ?_
  refine zw_aload_2 X dL_law_338 ?_
  refine zw_aload_0 X dL_law_339 ?_
  refine zw_iload_3 X dL_law_340 ?_
  refine zw_iconst (v := 1) X dL_law_341 ik_1 ?_
  refine zw_iadd X dL_law_342 ?_
  refine zl_ld X Y dL_law_343 (sc_in 1 (by decide) hk hL) ?_
  refine zw_aload_0 X dL_law_344 ?_
  refine zw_iload_3 X dL_law_345 ?_
  refine zw_iconst (v := 2) X dL_law_346 ik_2 ?_
  refine zw_iadd X dL_law_347 ?_
  refine zl_ld X Y dL_law_348 (sc_in 2 (by decide) hk hL) ?_
  refine zw_cV_iii X dL_law_349 lk_L_36 ok_MX8_purse vi_MX8_purse rm_L_law_X8_purse sh_42 rfl (Nat.le_of_ble_eq_true rfl) hc2 ?_
  refine zw_icmpeq_t (tgt := 1079) X dL_law_352 (by decide) rfl ?_
  exact hE σ2 hI2
set_option maxRecDepth 20000 in
theorem law_c5 {g : Gt} (X : CX g ML_law) {L : Nat} {xs : Nat → Int32} (Y : SX g L xs) (hL : L ≤ 256) {k : Nat} (hk : 4 * k + 4 ≤ L) {σ : St} (hI : Inv σ) (hE : ∀ σ2 : St, Inv σ2 → ZW g 1079 [some (.ref 57), some (.ref 0), some (.ref 42), some (.int (nI (4 * k)))] [] σ2) : ZW g 357 [some (.ref 57), some (.ref 0), some (.ref 42), some (.int (nI (4 * k)))] [] σ := by
  refine zw_aload_1 X dL_law_357 ?_
  refine zw_aload_0 X dL_law_358 ?_
  refine zw_iload_3 X dL_law_359 ?_
  refine zw_iconst (v := 1) X dL_law_360 ik_1 ?_
  refine zw_iadd X dL_law_361 ?_
  refine zl_ld X Y dL_law_362 (sc_in 1 (by decide) hk hL) ?_
  obtain ⟨r, σ1, σ2, hc1, hc2, hI2⟩ := B_fine hI (a0 := xs (nI (4 * k) + 1).toNatClampNeg)
  refine zw_cV_ii X dL_law_363 lk_L_37 ok_MX7_fine vi_MX7_fine rm_L_law_X7_fine sh_0 rfl (Nat.le_of_ble_eq_true rfl) hc1 ?_
  refine zw_aload_2 X dL_law_366 ?_
  refine zw_aload_0 X dL_law_367 ?_
  refine zw_iload_3 X dL_law_368 ?_
  refine zw_iconst (v := 1) X dL_law_369 ik_1 ?_
  refine zw_iadd X dL_law_370 ?_
  refine zl_ld X Y dL_law_371 (sc_in 1 (by decide) hk hL) ?_
  refine zw_cV_ii X dL_law_372 lk_L_40 ok_MX8_fine vi_MX8_fine rm_L_law_X8_fine sh_42 rfl (Nat.le_of_ble_eq_true rfl) hc2 ?_
  refine zw_icmpeq_t (tgt := 1079) X dL_law_375 (by decide) rfl ?_
  exact hE σ2 hI2
set_option maxRecDepth 20000 in
theorem law_c6 {g : Gt} (X : CX g ML_law) {L : Nat} {xs : Nat → Int32} (Y : SX g L xs) (hL : L ≤ 256) {k : Nat} (hk : 4 * k + 4 ≤ L) {σ : St} (hI : Inv σ) (hE : ∀ σ2 : St, Inv σ2 → ZW g 1079 [some (.ref 57), some (.ref 0), some (.ref 42), some (.int (nI (4 * k)))] [] σ2) : ZW g 380 [some (.ref 57), some (.ref 0), some (.ref 42), some (.int (nI (4 * k)))] [] σ := by
  refine zw_aload_1 X dL_law_380 ?_
  refine zw_aload_0 X dL_law_381 ?_
  refine zw_iload_3 X dL_law_382 ?_
  refine zw_iconst (v := 1) X dL_law_383 ik_1 ?_
  refine zw_iadd X dL_law_384 ?_
  refine zl_ld X Y dL_law_385 (sc_in 1 (by decide) hk hL) ?_
  obtain ⟨r, σ1, σ2, hc1, hc2, hI2⟩ := B_say hI (a0 := xs (nI (4 * k) + 1).toNatClampNeg)
  refine zw_cV_ii X dL_law_386 lk_L_41 ok_MX7_say vi_MX7_say rm_L_law_X7_say sh_0 rfl (Nat.le_of_ble_eq_true rfl) hc1 ?_
  refine zw_aload_2 X dL_law_389 ?_
  refine zw_aload_0 X dL_law_390 ?_
  refine zw_iload_3 X dL_law_391 ?_
  refine zw_iconst (v := 1) X dL_law_392 ik_1 ?_
  refine zw_iadd X dL_law_393 ?_
  refine zl_ld X Y dL_law_394 (sc_in 1 (by decide) hk hL) ?_
  refine zw_cV_ii X dL_law_395 lk_L_44 ok_MX8_say vi_MX8_say rm_L_law_X8_say sh_42 rfl (Nat.le_of_ble_eq_true rfl) hc2 ?_
  refine zw_icmpeq_t (tgt := 1079) X dL_law_398 (by decide) rfl ?_
  exact hE σ2 hI2
set_option maxRecDepth 20000 in
theorem law_c7 {g : Gt} (X : CX g ML_law) {L : Nat} {xs : Nat → Int32} (Y : SX g L xs) (hL : L ≤ 256) {k : Nat} (hk : 4 * k + 4 ≤ L) {σ : St} (hI : Inv σ) (hE : ∀ σ2 : St, Inv σ2 → ZW g 1079 [some (.ref 57), some (.ref 0), some (.ref 42), some (.int (nI (4 * k)))] [] σ2) : ZW g 403 [some (.ref 57), some (.ref 0), some (.ref 42), some (.int (nI (4 * k)))] [] σ := by
  refine zw_aload_1 X dL_law_403 ?_
  obtain ⟨r, σ1, σ2, hc1, hc2, hI2⟩ := B_wipe hI 
  refine zw_cV_ni X dL_law_404 lk_L_45 ok_MX7_wipe vi_MX7_wipe rm_L_law_X7_wipe sh_0 rfl (Nat.le_of_ble_eq_true rfl) hc1 ?_
  refine zw_aload_2 X dL_law_407 ?_
  refine zw_cV_ni X dL_law_408 lk_L_49 ok_MX8_wipe vi_MX8_wipe rm_L_law_X8_wipe sh_42 rfl (Nat.le_of_ble_eq_true rfl) hc2 ?_
  refine zw_icmpeq_t (tgt := 1079) X dL_law_411 (by decide) rfl ?_
  exact hE σ2 hI2
set_option maxRecDepth 20000 in
theorem law_c8 {g : Gt} (X : CX g ML_law) {L : Nat} {xs : Nat → Int32} (Y : SX g L xs) (hL : L ≤ 256) {k : Nat} (hk : 4 * k + 4 ≤ L) {σ : St} (hI : Inv σ) (hE : ∀ σ2 : St, Inv σ2 → ZW g 1079 [some (.ref 57), some (.ref 0), some (.ref 42), some (.int (nI (4 * k)))] [] σ2) : ZW g 416 [some (.ref 57), some (.ref 0), some (.ref 42), some (.int (nI (4 * k)))] [] σ := by
  refine zw_aload_1 X dL_law_416 ?_
  obtain ⟨r, σ1, σ2, hc1, hc2, hI2⟩ := B_fault hI 
  refine zw_cV_ni X dL_law_417 lk_L_50 ok_MX7_fault vi_MX7_fault rm_L_law_X7_fault sh_0 rfl (Nat.le_of_ble_eq_true rfl) hc1 ?_
  refine zw_aload_2 X dL_law_420 ?_
  refine zw_cV_ni X dL_law_421 lk_L_53 ok_MX8_fault vi_MX8_fault rm_L_law_X8_fault sh_42 rfl (Nat.le_of_ble_eq_true rfl) hc2 ?_
  refine zw_icmpeq_t (tgt := 1079) X dL_law_424 (by decide) rfl ?_
  exact hE σ2 hI2
set_option maxRecDepth 20000 in
theorem law_c9 {g : Gt} (X : CX g ML_law) {L : Nat} {xs : Nat → Int32} (Y : SX g L xs) (hL : L ≤ 256) {k : Nat} (hk : 4 * k + 4 ≤ L) {σ : St} (hI : Inv σ) (hE : ∀ σ2 : St, Inv σ2 → ZW g 1079 [some (.ref 57), some (.ref 0), some (.ref 42), some (.int (nI (4 * k)))] [] σ2) : ZW g 429 [some (.ref 57), some (.ref 0), some (.ref 42), some (.int (nI (4 * k)))] [] σ := by
  refine zw_aload_1 X dL_law_429 ?_
  refine zw_aload_0 X dL_law_430 ?_
  refine zw_iload_3 X dL_law_431 ?_
  refine zw_iconst (v := 1) X dL_law_432 ik_1 ?_
  refine zw_iadd X dL_law_433 ?_
  refine zl_ld X Y dL_law_434 (sc_in 1 (by decide) hk hL) ?_
  obtain ⟨r, σ1, σ2, hc1, hc2, hI2⟩ := B_judge hI (a0 := xs (nI (4 * k) + 1).toNatClampNeg)
  refine zw_cV_ii X dL_law_435 lk_L_54 ok_MX7_judge vi_MX7_judge rm_L_law_X7_judge sh_0 rfl (Nat.le_of_ble_eq_true rfl) hc1 ?_
  refine zw_aload_2 X dL_law_438 ?_
  refine zw_aload_0 X dL_law_439 ?_
  refine zw_iload_3 X dL_law_440 ?_
  refine zw_iconst (v := 1) X dL_law_441 ik_1 ?_
  refine zw_iadd X dL_law_442 ?_
  refine zl_ld X Y dL_law_443 (sc_in 1 (by decide) hk hL) ?_
  refine zw_cV_ii X dL_law_444 lk_L_57 ok_MX8_judge vi_MX8_judge rm_L_law_X8_judge sh_42 rfl (Nat.le_of_ble_eq_true rfl) hc2 ?_
  refine zw_icmpeq_t (tgt := 1079) X dL_law_447 (by decide) rfl ?_
  exact hE σ2 hI2
set_option maxRecDepth 20000 in
theorem law_c10 {g : Gt} (X : CX g ML_law) {L : Nat} {xs : Nat → Int32} (Y : SX g L xs) (hL : L ≤ 256) {k : Nat} (hk : 4 * k + 4 ≤ L) {σ : St} (hI : Inv σ) (hE : ∀ σ2 : St, Inv σ2 → ZW g 1079 [some (.ref 57), some (.ref 0), some (.ref 42), some (.int (nI (4 * k)))] [] σ2) : ZW g 452 [some (.ref 57), some (.ref 0), some (.ref 42), some (.int (nI (4 * k)))] [] σ := by
  refine zw_aload_1 X dL_law_452 ?_
  obtain ⟨r, σ1, σ2, hc1, hc2, hI2⟩ := B_done hI 
  refine zw_cV_ni X dL_law_453 lk_L_58 ok_MX7_done vi_MX7_done rm_L_law_X7_done sh_0 rfl (Nat.le_of_ble_eq_true rfl) hc1 ?_
  refine zw_aload_2 X dL_law_456 ?_
  refine zw_cV_ni X dL_law_457 lk_L_61 ok_MX8_done vi_MX8_done rm_L_law_X8_done sh_42 rfl (Nat.le_of_ble_eq_true rfl) hc2 ?_
  refine zw_icmpeq_t (tgt := 1079) X dL_law_460 (by decide) rfl ?_
  exact hE σ2 hI2
set_option maxRecDepth 20000 in
theorem law_c11 {g : Gt} (X : CX g ML_law) {L : Nat} {xs : Nat → Int32} (Y : SX g L xs) (hL : L ≤ 256) {k : Nat} (hk : 4 * k + 4 ≤ L) {σ : St} (hI : Inv σ) (hE : ∀ σ2 : St, Inv σ2 → ZW g 1079 [some (.ref 57), some (.ref 0), some (.ref 42), some (.int (nI (4 * k)))] [] σ2) : ZW g 465 [some (.ref 57), some (.ref 0), some (.ref 42), some (.int (nI (4 * k)))] [] σ := by
  refine zw_aload_1 X dL_law_465 ?_
  refine zw_aload_0 X dL_law_466 ?_
  refine zw_iload_3 X dL_law_467 ?_
  refine zw_iconst (v := 1) X dL_law_468 ik_1 ?_
  refine zw_iadd X dL_law_469 ?_
  refine zl_ld X Y dL_law_470 (sc_in 1 (by decide) hk hL) ?_
  obtain ⟨r, σ1, σ2, hc1, hc2, hI2⟩ := B_behind hI (a0 := xs (nI (4 * k) + 1).toNatClampNeg)
  refine zw_cV_ii X dL_law_471 lk_L_62 ok_MX7_behind vi_MX7_behind rm_L_law_X7_behind sh_0 rfl (Nat.le_of_ble_eq_true rfl) hc1 ?_
  refine zw_aload_2 X dL_law_474 ?_
  refine zw_aload_0 X dL_law_475 ?_
  refine zw_iload_3 X dL_law_476 ?_
  refine zw_iconst (v := 1) X dL_law_477 ik_1 ?_
  refine zw_iadd X dL_law_478 ?_
  refine zl_ld X Y dL_law_479 (sc_in 1 (by decide) hk hL) ?_
  refine zw_cV_ii X dL_law_480 lk_L_65 ok_MX8_behind vi_MX8_behind rm_L_law_X8_behind sh_42 rfl (Nat.le_of_ble_eq_true rfl) hc2 ?_
  refine zw_icmpeq_t (tgt := 1079) X dL_law_483 (by decide) rfl ?_
  exact hE σ2 hI2
set_option maxRecDepth 20000 in
theorem law_c12 {g : Gt} (X : CX g ML_law) {L : Nat} {xs : Nat → Int32} (Y : SX g L xs) (hL : L ≤ 256) {k : Nat} (hk : 4 * k + 4 ≤ L) {σ : St} (hI : Inv σ) (hE : ∀ σ2 : St, Inv σ2 → ZW g 1079 [some (.ref 57), some (.ref 0), some (.ref 42), some (.int (nI (4 * k)))] [] σ2) : ZW g 488 [some (.ref 57), some (.ref 0), some (.ref 42), some (.int (nI (4 * k)))] [] σ := by
  refine zw_aload_1 X dL_law_488 ?_
  refine zw_aload_0 X dL_law_489 ?_
  refine zw_iload_3 X dL_law_490 ?_
  refine zw_iconst (v := 1) X dL_law_491 ik_1 ?_
  refine zw_iadd X dL_law_492 ?_
  refine zl_ld X Y dL_law_493 (sc_in 1 (by decide) hk hL) ?_
  obtain ⟨r, σ1, σ2, hc1, hc2, hI2⟩ := B_holds hI (a0 := xs (nI (4 * k) + 1).toNatClampNeg)
  refine zw_cV_ii X dL_law_494 lk_L_66 ok_MX7_holds vi_MX7_holds rm_L_law_X7_holds sh_0 rfl (Nat.le_of_ble_eq_true rfl) hc1 ?_
  refine zw_aload_2 X dL_law_497 ?_
  refine zw_aload_0 X dL_law_498 ?_
  refine zw_iload_3 X dL_law_499 ?_
  refine zw_iconst (v := 1) X dL_law_500 ik_1 ?_
  refine zw_iadd X dL_law_501 ?_
  refine zl_ld X Y dL_law_502 (sc_in 1 (by decide) hk hL) ?_
  refine zw_cV_ii X dL_law_503 lk_L_69 ok_MX8_holds vi_MX8_holds rm_L_law_X8_holds sh_42 rfl (Nat.le_of_ble_eq_true rfl) hc2 ?_
  refine zw_icmpeq_t (tgt := 1079) X dL_law_506 (by decide) rfl ?_
  exact hE σ2 hI2
set_option maxRecDepth 20000 in
theorem law_c13 {g : Gt} (X : CX g ML_law) {L : Nat} {xs : Nat → Int32} (Y : SX g L xs) (hL : L ≤ 256) {k : Nat} (hk : 4 * k + 4 ≤ L) {σ : St} (hI : Inv σ) (hE : ∀ σ2 : St, Inv σ2 → ZW g 1079 [some (.ref 57), some (.ref 0), some (.ref 42), some (.int (nI (4 * k)))] [] σ2) : ZW g 511 [some (.ref 57), some (.ref 0), some (.ref 42), some (.int (nI (4 * k)))] [] σ := by
  refine zw_aload_1 X dL_law_511 ?_
  refine zw_aload_0 X dL_law_512 ?_
  refine zw_iload_3 X dL_law_513 ?_
  refine zw_iconst (v := 1) X dL_law_514 ik_1 ?_
  refine zw_iadd X dL_law_515 ?_
  refine zl_ld X Y dL_law_516 (sc_in 1 (by decide) hk hL) ?_
  obtain ⟨r, σ1, σ2, hc1, hc2, hI2⟩ := B_hears hI (a0 := xs (nI (4 * k) + 1).toNatClampNeg)
  refine zw_cV_ii X dL_law_517 lk_L_70 ok_MX7_hears vi_MX7_hears rm_L_law_X7_hears sh_0 rfl (Nat.le_of_ble_eq_true rfl) hc1 ?_
  refine zw_aload_2 X dL_law_520 ?_
  refine zw_aload_0 X dL_law_521 ?_
  refine zw_iload_3 X dL_law_522 ?_
  refine zw_iconst (v := 1) X dL_law_523 ik_1 ?_
  refine zw_iadd X dL_law_524 ?_
  refine zl_ld X Y dL_law_525 (sc_in 1 (by decide) hk hL) ?_
  refine zw_cV_ii X dL_law_526 lk_L_73 ok_MX8_hears vi_MX8_hears rm_L_law_X8_hears sh_42 rfl (Nat.le_of_ble_eq_true rfl) hc2 ?_
  refine zw_icmpeq_t (tgt := 1079) X dL_law_529 (by decide) rfl ?_
  exact hE σ2 hI2
set_option maxRecDepth 20000 in
theorem law_c14 {g : Gt} (X : CX g ML_law) {L : Nat} {xs : Nat → Int32} (Y : SX g L xs) (hL : L ≤ 256) {k : Nat} (hk : 4 * k + 4 ≤ L) {σ : St} (hI : Inv σ) (hE : ∀ σ2 : St, Inv σ2 → ZW g 1079 [some (.ref 57), some (.ref 0), some (.ref 42), some (.int (nI (4 * k)))] [] σ2) : ZW g 534 [some (.ref 57), some (.ref 0), some (.ref 42), some (.int (nI (4 * k)))] [] σ := by
  refine zw_aload_1 X dL_law_534 ?_
  refine zw_aload_0 X dL_law_535 ?_
  refine zw_iload_3 X dL_law_536 ?_
  refine zw_iconst (v := 1) X dL_law_537 ik_1 ?_
  refine zw_iadd X dL_law_538 ?_
  refine zl_ld X Y dL_law_539 (sc_in 1 (by decide) hk hL) ?_
  refine zw_aload_0 X dL_law_540 ?_
  refine zw_iload_3 X dL_law_541 ?_
  refine zw_iconst (v := 2) X dL_law_542 ik_2 ?_
  refine zw_iadd X dL_law_543 ?_
  refine zl_ld X Y dL_law_544 (sc_in 2 (by decide) hk hL) ?_
  obtain ⟨r, σ1, σ2, hc1, hc2, hI2⟩ := B_forecast hI (a0 := xs (nI (4 * k) + 1).toNatClampNeg) (a1 := xs (nI (4 * k) + 2).toNatClampNeg)
  refine zw_cV_iii X dL_law_545 lk_L_74 ok_MX7_forecast vi_MX7_forecast rm_L_law_X7_forecast sh_0 rfl (Nat.le_of_ble_eq_true rfl) hc1 ?_
  refine zw_aload_2 X dL_law_548 ?_
  refine zw_aload_0 X dL_law_549 ?_
  refine zw_iload_3 X dL_law_550 ?_
  refine zw_iconst (v := 1) X dL_law_551 ik_1 ?_
  refine zw_iadd X dL_law_552 ?_
  refine zl_ld X Y dL_law_553 (sc_in 1 (by decide) hk hL) ?_
  refine zw_aload_0 X dL_law_554 ?_
  refine zw_iload_3 X dL_law_555 ?_
  refine zw_iconst (v := 2) X dL_law_556 ik_2 ?_
  refine zw_iadd X dL_law_557 ?_
  refine zl_ld X Y dL_law_558 (sc_in 2 (by decide) hk hL) ?_
  refine zw_cV_iii X dL_law_559 lk_L_77 ok_MX8_forecast vi_MX8_forecast rm_L_law_X8_forecast sh_42 rfl (Nat.le_of_ble_eq_true rfl) hc2 ?_
  refine zw_icmpeq_t (tgt := 1079) X dL_law_562 (by decide) rfl ?_
  exact hE σ2 hI2
set_option maxRecDepth 20000 in
theorem law_c15 {g : Gt} (X : CX g ML_law) {L : Nat} {xs : Nat → Int32} (Y : SX g L xs) (hL : L ≤ 256) {k : Nat} (hk : 4 * k + 4 ≤ L) {σ : St} (hI : Inv σ) (hE : ∀ σ2 : St, Inv σ2 → ZW g 1079 [some (.ref 57), some (.ref 0), some (.ref 42), some (.int (nI (4 * k)))] [] σ2) : ZW g 567 [some (.ref 57), some (.ref 0), some (.ref 42), some (.int (nI (4 * k)))] [] σ := by
  refine zw_aload_1 X dL_law_567 ?_
  refine zw_aload_0 X dL_law_568 ?_
  refine zw_iload_3 X dL_law_569 ?_
  refine zw_iconst (v := 1) X dL_law_570 ik_1 ?_
  refine zw_iadd X dL_law_571 ?_
  refine zl_ld X Y dL_law_572 (sc_in 1 (by decide) hk hL) ?_
  obtain ⟨r, σ1, σ2, hc1, hc2, hI2⟩ := B_rests hI (a0 := xs (nI (4 * k) + 1).toNatClampNeg)
  refine zw_cV_ii X dL_law_573 lk_L_78 ok_MX7_rests vi_MX7_rests rm_L_law_X7_rests sh_0 rfl (Nat.le_of_ble_eq_true rfl) hc1 ?_
  refine zw_aload_2 X dL_law_576 ?_
  refine zw_aload_0 X dL_law_577 ?_
  refine zw_iload_3 X dL_law_578 ?_
  refine zw_iconst (v := 1) X dL_law_579 ik_1 ?_
  refine zw_iadd X dL_law_580 ?_
  refine zl_ld X Y dL_law_581 (sc_in 1 (by decide) hk hL) ?_
  refine zw_cV_ii X dL_law_582 lk_L_81 ok_MX8_rests vi_MX8_rests rm_L_law_X8_rests sh_42 rfl (Nat.le_of_ble_eq_true rfl) hc2 ?_
  refine zw_icmpeq_t (tgt := 1079) X dL_law_585 (by decide) rfl ?_
  exact hE σ2 hI2
set_option maxRecDepth 20000 in
theorem law_c16 {g : Gt} (X : CX g ML_law) {L : Nat} {xs : Nat → Int32} (Y : SX g L xs) (hL : L ≤ 256) {k : Nat} (hk : 4 * k + 4 ≤ L) {σ : St} (hI : Inv σ) (hE : ∀ σ2 : St, Inv σ2 → ZW g 1079 [some (.ref 57), some (.ref 0), some (.ref 42), some (.int (nI (4 * k)))] [] σ2) : ZW g 590 [some (.ref 57), some (.ref 0), some (.ref 42), some (.int (nI (4 * k)))] [] σ := by
  refine zw_aload_1 X dL_law_590 ?_
  refine zw_aload_0 X dL_law_591 ?_
  refine zw_iload_3 X dL_law_592 ?_
  refine zw_iconst (v := 1) X dL_law_593 ik_1 ?_
  refine zw_iadd X dL_law_594 ?_
  refine zl_ld X Y dL_law_595 (sc_in 1 (by decide) hk hL) ?_
  refine zw_aload_0 X dL_law_596 ?_
  refine zw_iload_3 X dL_law_597 ?_
  refine zw_iconst (v := 2) X dL_law_598 ik_2 ?_
  refine zw_iadd X dL_law_599 ?_
  refine zl_ld X Y dL_law_600 (sc_in 2 (by decide) hk hL) ?_
  obtain ⟨r, σ1, σ2, hc1, hc2, hI2⟩ := B_talks hI (a0 := xs (nI (4 * k) + 1).toNatClampNeg) (a1 := xs (nI (4 * k) + 2).toNatClampNeg)
  refine zw_cV_iii X dL_law_601 lk_L_82 ok_MX7_talks vi_MX7_talks rm_L_law_X7_talks sh_0 rfl (Nat.le_of_ble_eq_true rfl) hc1 ?_
  refine zw_aload_2 X dL_law_604 ?_
  refine zw_aload_0 X dL_law_605 ?_
  refine zw_iload_3 X dL_law_606 ?_
  refine zw_iconst (v := 1) X dL_law_607 ik_1 ?_
  refine zw_iadd X dL_law_608 ?_
  refine zl_ld X Y dL_law_609 (sc_in 1 (by decide) hk hL) ?_
  refine zw_aload_0 X dL_law_610 ?_
  refine zw_iload_3 X dL_law_611 ?_
  refine zw_iconst (v := 2) X dL_law_612 ik_2 ?_
  refine zw_iadd X dL_law_613 ?_
  refine zl_ld X Y dL_law_614 (sc_in 2 (by decide) hk hL) ?_
  refine zw_cV_iii X dL_law_615 lk_L_85 ok_MX8_talks vi_MX8_talks rm_L_law_X8_talks sh_42 rfl (Nat.le_of_ble_eq_true rfl) hc2 ?_
  refine zw_icmpeq_t (tgt := 1079) X dL_law_618 (by decide) rfl ?_
  exact hE σ2 hI2
set_option maxRecDepth 20000 in
theorem law_c17 {g : Gt} (X : CX g ML_law) {L : Nat} {xs : Nat → Int32} (Y : SX g L xs) (hL : L ≤ 256) {k : Nat} (hk : 4 * k + 4 ≤ L) {σ : St} (hI : Inv σ) (hE : ∀ σ2 : St, Inv σ2 → ZW g 1079 [some (.ref 57), some (.ref 0), some (.ref 42), some (.int (nI (4 * k)))] [] σ2) : ZW g 623 [some (.ref 57), some (.ref 0), some (.ref 42), some (.int (nI (4 * k)))] [] σ := by
  refine zw_aload_1 X dL_law_623 ?_
  refine zw_aload_0 X dL_law_624 ?_
  refine zw_iload_3 X dL_law_625 ?_
  refine zw_iconst (v := 1) X dL_law_626 ik_1 ?_
  refine zw_iadd X dL_law_627 ?_
  refine zl_ld X Y dL_law_628 (sc_in 1 (by decide) hk hL) ?_
  refine zw_aload_0 X dL_law_629 ?_
  refine zw_iload_3 X dL_law_630 ?_
  refine zw_iconst (v := 2) X dL_law_631 ik_2 ?_
  refine zw_iadd X dL_law_632 ?_
  refine zl_ld X Y dL_law_633 (sc_in 2 (by decide) hk hL) ?_
  obtain ⟨r, σ1, σ2, hc1, hc2, hI2⟩ := B_buy hI (a0 := xs (nI (4 * k) + 1).toNatClampNeg) (a1 := xs (nI (4 * k) + 2).toNatClampNeg)
  refine zw_cV_iii X dL_law_634 lk_L_86 ok_MX7_buy vi_MX7_buy rm_L_law_X7_buy sh_0 rfl (Nat.le_of_ble_eq_true rfl) hc1 ?_
  refine zw_aload_2 X dL_law_637 ?_
  refine zw_aload_0 X dL_law_638 ?_
  refine zw_iload_3 X dL_law_639 ?_
  refine zw_iconst (v := 1) X dL_law_640 ik_1 ?_
  refine zw_iadd X dL_law_641 ?_
  refine zl_ld X Y dL_law_642 (sc_in 1 (by decide) hk hL) ?_
  refine zw_aload_0 X dL_law_643 ?_
  refine zw_iload_3 X dL_law_644 ?_
  refine zw_iconst (v := 2) X dL_law_645 ik_2 ?_
  refine zw_iadd X dL_law_646 ?_
  refine zl_ld X Y dL_law_647 (sc_in 2 (by decide) hk hL) ?_
  refine zw_cV_iii X dL_law_648 lk_L_89 ok_MX8_buy vi_MX8_buy rm_L_law_X8_buy sh_42 rfl (Nat.le_of_ble_eq_true rfl) hc2 ?_
  refine zw_icmpeq_t (tgt := 1079) X dL_law_651 (by decide) rfl ?_
  exact hE σ2 hI2
set_option maxRecDepth 20000 in
theorem law_c18 {g : Gt} (X : CX g ML_law) {L : Nat} {xs : Nat → Int32} (Y : SX g L xs) (hL : L ≤ 256) {k : Nat} (hk : 4 * k + 4 ≤ L) {σ : St} (hI : Inv σ) (hE : ∀ σ2 : St, Inv σ2 → ZW g 1079 [some (.ref 57), some (.ref 0), some (.ref 42), some (.int (nI (4 * k)))] [] σ2) : ZW g 656 [some (.ref 57), some (.ref 0), some (.ref 42), some (.int (nI (4 * k)))] [] σ := by
  refine zw_aload_1 X dL_law_656 ?_
  refine zw_aload_0 X dL_law_657 ?_
  refine zw_iload_3 X dL_law_658 ?_
  refine zw_iconst (v := 1) X dL_law_659 ik_1 ?_
  refine zw_iadd X dL_law_660 ?_
  refine zl_ld X Y dL_law_661 (sc_in 1 (by decide) hk hL) ?_
  refine zw_aload_0 X dL_law_662 ?_
  refine zw_iload_3 X dL_law_663 ?_
  refine zw_iconst (v := 2) X dL_law_664 ik_2 ?_
  refine zw_iadd X dL_law_665 ?_
  refine zl_ld X Y dL_law_666 (sc_in 2 (by decide) hk hL) ?_
  refine zw_aload_0 X dL_law_667 ?_
  refine zw_iload_3 X dL_law_668 ?_
  refine zw_iconst (v := 3) X dL_law_669 ik_3 ?_
  refine zw_iadd X dL_law_670 ?_
  refine zl_ld X Y dL_law_671 (sc_in 3 (by decide) hk hL) ?_
  obtain ⟨r, σ1, σ2, hc1, hc2, hI2⟩ := B_seats hI (a0 := xs (nI (4 * k) + 1).toNatClampNeg) (a1 := xs (nI (4 * k) + 2).toNatClampNeg) (a2 := xs (nI (4 * k) + 3).toNatClampNeg)
  refine zw_cV_iiii X dL_law_672 lk_L_90 ok_MX7_seats vi_MX7_seats rm_L_law_X7_seats sh_0 rfl (Nat.le_of_ble_eq_true rfl) hc1 ?_
  refine zw_aload_2 X dL_law_675 ?_
  refine zw_aload_0 X dL_law_676 ?_
  refine zw_iload_3 X dL_law_677 ?_
  refine zw_iconst (v := 1) X dL_law_678 ik_1 ?_
  refine zw_iadd X dL_law_679 ?_
  refine zl_ld X Y dL_law_680 (sc_in 1 (by decide) hk hL) ?_
  refine zw_aload_0 X dL_law_681 ?_
  refine zw_iload_3 X dL_law_682 ?_
  refine zw_iconst (v := 2) X dL_law_683 ik_2 ?_
  refine zw_iadd X dL_law_684 ?_
  refine zl_ld X Y dL_law_685 (sc_in 2 (by decide) hk hL) ?_
  refine zw_aload_0 X dL_law_686 ?_
  refine zw_iload_3 X dL_law_687 ?_
  refine zw_iconst (v := 3) X dL_law_688 ik_3 ?_
  refine zw_iadd X dL_law_689 ?_
  refine zl_ld X Y dL_law_690 (sc_in 3 (by decide) hk hL) ?_
  refine zw_cV_iiii X dL_law_691 lk_L_93 ok_MX8_seats vi_MX8_seats rm_L_law_X8_seats sh_42 rfl (Nat.le_of_ble_eq_true rfl) hc2 ?_
  refine zw_icmpeq_t (tgt := 1079) X dL_law_694 (by decide) rfl ?_
  exact hE σ2 hI2
set_option maxRecDepth 20000 in
theorem law_c19 {g : Gt} (X : CX g ML_law) {L : Nat} {xs : Nat → Int32} (Y : SX g L xs) (hL : L ≤ 256) {k : Nat} (hk : 4 * k + 4 ≤ L) {σ : St} (hI : Inv σ) (hE : ∀ σ2 : St, Inv σ2 → ZW g 1079 [some (.ref 57), some (.ref 0), some (.ref 42), some (.int (nI (4 * k)))] [] σ2) : ZW g 699 [some (.ref 57), some (.ref 0), some (.ref 42), some (.int (nI (4 * k)))] [] σ := by
  refine zw_aload_1 X dL_law_699 ?_
  refine zw_aload_0 X dL_law_700 ?_
  refine zw_iload_3 X dL_law_701 ?_
  refine zw_iconst (v := 1) X dL_law_702 ik_1 ?_
  refine zw_iadd X dL_law_703 ?_
  refine zl_ld X Y dL_law_704 (sc_in 1 (by decide) hk hL) ?_
  refine zw_aload_0 X dL_law_705 ?_
  refine zw_iload_3 X dL_law_706 ?_
  refine zw_iconst (v := 2) X dL_law_707 ik_2 ?_
  refine zw_iadd X dL_law_708 ?_
  refine zl_ld X Y dL_law_709 (sc_in 2 (by decide) hk hL) ?_
  obtain ⟨r, σ1, σ2, hc1, hc2, hI2⟩ := B_word hI (a0 := xs (nI (4 * k) + 1).toNatClampNeg) (a1 := xs (nI (4 * k) + 2).toNatClampNeg)
  refine zw_cV_iii X dL_law_710 lk_L_94 ok_MX7_word vi_MX7_word rm_L_law_X7_word sh_0 rfl (Nat.le_of_ble_eq_true rfl) hc1 ?_
  refine zw_aload_2 X dL_law_713 ?_
  refine zw_aload_0 X dL_law_714 ?_
  refine zw_iload_3 X dL_law_715 ?_
  refine zw_iconst (v := 1) X dL_law_716 ik_1 ?_
  refine zw_iadd X dL_law_717 ?_
  refine zl_ld X Y dL_law_718 (sc_in 1 (by decide) hk hL) ?_
  refine zw_aload_0 X dL_law_719 ?_
  refine zw_iload_3 X dL_law_720 ?_
  refine zw_iconst (v := 2) X dL_law_721 ik_2 ?_
  refine zw_iadd X dL_law_722 ?_
  refine zl_ld X Y dL_law_723 (sc_in 2 (by decide) hk hL) ?_
  refine zw_cV_iii X dL_law_724 lk_L_97 ok_MX8_word vi_MX8_word rm_L_law_X8_word sh_42 rfl (Nat.le_of_ble_eq_true rfl) hc2 ?_
  refine zw_icmpeq_t (tgt := 1079) X dL_law_727 (by decide) rfl ?_
  exact hE σ2 hI2
set_option maxRecDepth 20000 in
theorem law_c20 {g : Gt} (X : CX g ML_law) {L : Nat} {xs : Nat → Int32} (Y : SX g L xs) (hL : L ≤ 256) {k : Nat} (hk : 4 * k + 4 ≤ L) {σ : St} (hI : Inv σ) (hE : ∀ σ2 : St, Inv σ2 → ZW g 1079 [some (.ref 57), some (.ref 0), some (.ref 42), some (.int (nI (4 * k)))] [] σ2) : ZW g 732 [some (.ref 57), some (.ref 0), some (.ref 42), some (.int (nI (4 * k)))] [] σ := by
  refine zw_aload_1 X dL_law_732 ?_
  refine zw_aload_0 X dL_law_733 ?_
  refine zw_iload_3 X dL_law_734 ?_
  refine zw_iconst (v := 1) X dL_law_735 ik_1 ?_
  refine zw_iadd X dL_law_736 ?_
  refine zl_ld X Y dL_law_737 (sc_in 1 (by decide) hk hL) ?_
  refine zw_aload_0 X dL_law_738 ?_
  refine zw_iload_3 X dL_law_739 ?_
  refine zw_iconst (v := 2) X dL_law_740 ik_2 ?_
  refine zw_iadd X dL_law_741 ?_
  refine zl_ld X Y dL_law_742 (sc_in 2 (by decide) hk hL) ?_
  refine zw_aload_0 X dL_law_743 ?_
  refine zw_iload_3 X dL_law_744 ?_
  refine zw_iconst (v := 3) X dL_law_745 ik_3 ?_
  refine zw_iadd X dL_law_746 ?_
  refine zl_ld X Y dL_law_747 (sc_in 3 (by decide) hk hL) ?_
  obtain ⟨r, σ1, σ2, hc1, hc2, hI2⟩ := B_heard hI (a0 := xs (nI (4 * k) + 1).toNatClampNeg) (a1 := xs (nI (4 * k) + 2).toNatClampNeg) (a2 := xs (nI (4 * k) + 3).toNatClampNeg)
  refine zw_cV_iiii X dL_law_748 lk_L_98 ok_MX7_heard vi_MX7_heard rm_L_law_X7_heard sh_0 rfl (Nat.le_of_ble_eq_true rfl) hc1 ?_
  refine zw_aload_2 X dL_law_751 ?_
  refine zw_aload_0 X dL_law_752 ?_
  refine zw_iload_3 X dL_law_753 ?_
  refine zw_iconst (v := 1) X dL_law_754 ik_1 ?_
  refine zw_iadd X dL_law_755 ?_
  refine zl_ld X Y dL_law_756 (sc_in 1 (by decide) hk hL) ?_
  refine zw_aload_0 X dL_law_757 ?_
  refine zw_iload_3 X dL_law_758 ?_
  refine zw_iconst (v := 2) X dL_law_759 ik_2 ?_
  refine zw_iadd X dL_law_760 ?_
  refine zl_ld X Y dL_law_761 (sc_in 2 (by decide) hk hL) ?_
  refine zw_aload_0 X dL_law_762 ?_
  refine zw_iload_3 X dL_law_763 ?_
  refine zw_iconst (v := 3) X dL_law_764 ik_3 ?_
  refine zw_iadd X dL_law_765 ?_
  refine zl_ld X Y dL_law_766 (sc_in 3 (by decide) hk hL) ?_
  refine zw_cV_iiii X dL_law_767 lk_L_101 ok_MX8_heard vi_MX8_heard rm_L_law_X8_heard sh_42 rfl (Nat.le_of_ble_eq_true rfl) hc2 ?_
  refine zw_icmpeq_t (tgt := 1079) X dL_law_770 (by decide) rfl ?_
  exact hE σ2 hI2
set_option maxRecDepth 20000 in
theorem law_c21 {g : Gt} (X : CX g ML_law) {L : Nat} {xs : Nat → Int32} (Y : SX g L xs) (hL : L ≤ 256) {k : Nat} (hk : 4 * k + 4 ≤ L) {σ : St} (hI : Inv σ) (hE : ∀ σ2 : St, Inv σ2 → ZW g 1079 [some (.ref 57), some (.ref 0), some (.ref 42), some (.int (nI (4 * k)))] [] σ2) : ZW g 775 [some (.ref 57), some (.ref 0), some (.ref 42), some (.int (nI (4 * k)))] [] σ := by
  refine zw_aload_1 X dL_law_775 ?_
  refine zw_aload_0 X dL_law_776 ?_
  refine zw_iload_3 X dL_law_777 ?_
  refine zw_iconst (v := 1) X dL_law_778 ik_1 ?_
  refine zw_iadd X dL_law_779 ?_
  refine zl_ld X Y dL_law_780 (sc_in 1 (by decide) hk hL) ?_
  obtain ⟨r, σ1, σ2, hc1, hc2, hI2⟩ := B_richest hI (a0 := xs (nI (4 * k) + 1).toNatClampNeg)
  refine zw_cV_ii X dL_law_781 lk_L_102 ok_MX7_richest vi_MX7_richest rm_L_law_X7_richest sh_0 rfl (Nat.le_of_ble_eq_true rfl) hc1 ?_
  refine zw_aload_2 X dL_law_784 ?_
  refine zw_aload_0 X dL_law_785 ?_
  refine zw_iload_3 X dL_law_786 ?_
  refine zw_iconst (v := 1) X dL_law_787 ik_1 ?_
  refine zw_iadd X dL_law_788 ?_
  refine zl_ld X Y dL_law_789 (sc_in 1 (by decide) hk hL) ?_
  refine zw_cV_ii X dL_law_790 lk_L_105 ok_MX8_richest vi_MX8_richest rm_L_law_X8_richest sh_42 rfl (Nat.le_of_ble_eq_true rfl) hc2 ?_
  refine zw_icmpeq_t (tgt := 1079) X dL_law_793 (by decide) rfl ?_
  exact hE σ2 hI2
set_option maxRecDepth 20000 in
theorem law_c22 {g : Gt} (X : CX g ML_law) {L : Nat} {xs : Nat → Int32} (Y : SX g L xs) (hL : L ≤ 256) {k : Nat} (hk : 4 * k + 4 ≤ L) {σ : St} (hI : Inv σ) (hE : ∀ σ2 : St, Inv σ2 → ZW g 1079 [some (.ref 57), some (.ref 0), some (.ref 42), some (.int (nI (4 * k)))] [] σ2) : ZW g 798 [some (.ref 57), some (.ref 0), some (.ref 42), some (.int (nI (4 * k)))] [] σ := by
  refine zw_aload_1 X dL_law_798 ?_
  refine zw_aload_0 X dL_law_799 ?_
  refine zw_iload_3 X dL_law_800 ?_
  refine zw_iconst (v := 1) X dL_law_801 ik_1 ?_
  refine zw_iadd X dL_law_802 ?_
  refine zl_ld X Y dL_law_803 (sc_in 1 (by decide) hk hL) ?_
  refine zw_aload_0 X dL_law_804 ?_
  refine zw_iload_3 X dL_law_805 ?_
  refine zw_iconst (v := 2) X dL_law_806 ik_2 ?_
  refine zw_iadd X dL_law_807 ?_
  refine zl_ld X Y dL_law_808 (sc_in 2 (by decide) hk hL) ?_
  obtain ⟨r, σ1, σ2, hc1, hc2, hI2⟩ := B_seen hI (a0 := xs (nI (4 * k) + 1).toNatClampNeg) (a1 := xs (nI (4 * k) + 2).toNatClampNeg)
  refine zw_cV_iii X dL_law_809 lk_L_106 ok_MX7_seen vi_MX7_seen rm_L_law_X7_seen sh_0 rfl (Nat.le_of_ble_eq_true rfl) hc1 ?_
  refine zw_aload_2 X dL_law_812 ?_
  refine zw_aload_0 X dL_law_813 ?_
  refine zw_iload_3 X dL_law_814 ?_
  refine zw_iconst (v := 1) X dL_law_815 ik_1 ?_
  refine zw_iadd X dL_law_816 ?_
  refine zl_ld X Y dL_law_817 (sc_in 1 (by decide) hk hL) ?_
  refine zw_aload_0 X dL_law_818 ?_
  refine zw_iload_3 X dL_law_819 ?_
  refine zw_iconst (v := 2) X dL_law_820 ik_2 ?_
  refine zw_iadd X dL_law_821 ?_
  refine zl_ld X Y dL_law_822 (sc_in 2 (by decide) hk hL) ?_
  refine zw_cV_iii X dL_law_823 lk_L_109 ok_MX8_seen vi_MX8_seen rm_L_law_X8_seen sh_42 rfl (Nat.le_of_ble_eq_true rfl) hc2 ?_
  refine zw_icmpeq_t (tgt := 1079) X dL_law_826 (by decide) rfl ?_
  exact hE σ2 hI2
set_option maxRecDepth 20000 in
theorem law_c23 {g : Gt} (X : CX g ML_law) {L : Nat} {xs : Nat → Int32} (Y : SX g L xs) (hL : L ≤ 256) {k : Nat} (hk : 4 * k + 4 ≤ L) {σ : St} (hI : Inv σ) (hE : ∀ σ2 : St, Inv σ2 → ZW g 1079 [some (.ref 57), some (.ref 0), some (.ref 42), some (.int (nI (4 * k)))] [] σ2) : ZW g 831 [some (.ref 57), some (.ref 0), some (.ref 42), some (.int (nI (4 * k)))] [] σ := by
  refine zw_aload_1 X dL_law_831 ?_
  obtain ⟨r, σ1, σ2, hc1, hc2, hI2⟩ := B_forget hI 
  refine zw_cV_ni X dL_law_832 lk_L_110 ok_MX7_forget vi_MX7_forget rm_L_law_X7_forget sh_0 rfl (Nat.le_of_ble_eq_true rfl) hc1 ?_
  refine zw_aload_2 X dL_law_835 ?_
  refine zw_cV_ni X dL_law_836 lk_L_113 ok_MX8_forget vi_MX8_forget rm_L_law_X8_forget sh_42 rfl (Nat.le_of_ble_eq_true rfl) hc2 ?_
  refine zw_icmpeq_t (tgt := 1079) X dL_law_839 (by decide) rfl ?_
  exact hE σ2 hI2
set_option maxRecDepth 20000 in
theorem law_c24 {g : Gt} (X : CX g ML_law) {L : Nat} {xs : Nat → Int32} (Y : SX g L xs) (hL : L ≤ 256) {k : Nat} (hk : 4 * k + 4 ≤ L) {σ : St} (hI : Inv σ) (hE : ∀ σ2 : St, Inv σ2 → ZW g 1079 [some (.ref 57), some (.ref 0), some (.ref 42), some (.int (nI (4 * k)))] [] σ2) : ZW g 844 [some (.ref 57), some (.ref 0), some (.ref 42), some (.int (nI (4 * k)))] [] σ := by
  refine zw_aload_1 X dL_law_844 ?_
  obtain ⟨r, σ1, σ2, hc1, hc2, hI2⟩ := B_hum hI 
  refine zw_cV_ni X dL_law_845 lk_L_114 ok_MX7_hum vi_MX7_hum rm_L_law_X7_hum sh_0 rfl (Nat.le_of_ble_eq_true rfl) hc1 ?_
  refine zw_aload_2 X dL_law_848 ?_
  refine zw_cV_ni X dL_law_849 lk_L_117 ok_MX8_hum vi_MX8_hum rm_L_law_X8_hum sh_42 rfl (Nat.le_of_ble_eq_true rfl) hc2 ?_
  refine zw_icmpeq_t (tgt := 1079) X dL_law_852 (by decide) rfl ?_
  exact hE σ2 hI2
set_option maxRecDepth 20000 in
theorem law_c25 {g : Gt} (X : CX g ML_law) {L : Nat} {xs : Nat → Int32} (Y : SX g L xs) (hL : L ≤ 256) {k : Nat} (hk : 4 * k + 4 ≤ L) {σ : St} (hI : Inv σ) (hE : ∀ σ2 : St, Inv σ2 → ZW g 1079 [some (.ref 57), some (.ref 0), some (.ref 42), some (.int (nI (4 * k)))] [] σ2) : ZW g 857 [some (.ref 57), some (.ref 0), some (.ref 42), some (.int (nI (4 * k)))] [] σ := by
  refine zw_aload_1 X dL_law_857 ?_
  refine zw_aload_0 X dL_law_858 ?_
  refine zw_iload_3 X dL_law_859 ?_
  refine zw_iconst (v := 1) X dL_law_860 ik_1 ?_
  refine zw_iadd X dL_law_861 ?_
  refine zl_ld X Y dL_law_862 (sc_in 1 (by decide) hk hL) ?_
  obtain ⟨r, σ1, σ2, hc1, hc2, hI2⟩ := B_watch hI (a0 := xs (nI (4 * k) + 1).toNatClampNeg)
  refine zw_cV_ii X dL_law_863 lk_L_118 ok_MX7_watch vi_MX7_watch rm_L_law_X7_watch sh_0 rfl (Nat.le_of_ble_eq_true rfl) hc1 ?_
  refine zw_aload_2 X dL_law_866 ?_
  refine zw_aload_0 X dL_law_867 ?_
  refine zw_iload_3 X dL_law_868 ?_
  refine zw_iconst (v := 1) X dL_law_869 ik_1 ?_
  refine zw_iadd X dL_law_870 ?_
  refine zl_ld X Y dL_law_871 (sc_in 1 (by decide) hk hL) ?_
  refine zw_cV_ii X dL_law_872 lk_L_121 ok_MX8_watch vi_MX8_watch rm_L_law_X8_watch sh_42 rfl (Nat.le_of_ble_eq_true rfl) hc2 ?_
  refine zw_icmpeq_t (tgt := 1079) X dL_law_875 (by decide) rfl ?_
  exact hE σ2 hI2
set_option maxRecDepth 20000 in
theorem law_c26 {g : Gt} (X : CX g ML_law) {L : Nat} {xs : Nat → Int32} (Y : SX g L xs) (hL : L ≤ 256) {k : Nat} (hk : 4 * k + 4 ≤ L) {σ : St} (hI : Inv σ) (hE : ∀ σ2 : St, Inv σ2 → ZW g 1079 [some (.ref 57), some (.ref 0), some (.ref 42), some (.int (nI (4 * k)))] [] σ2) : ZW g 880 [some (.ref 57), some (.ref 0), some (.ref 42), some (.int (nI (4 * k)))] [] σ := by
  refine zw_aload_1 X dL_law_880 ?_
  refine zw_aload_0 X dL_law_881 ?_
  refine zw_iload_3 X dL_law_882 ?_
  refine zw_iconst (v := 1) X dL_law_883 ik_1 ?_
  refine zw_iadd X dL_law_884 ?_
  refine zl_ld X Y dL_law_885 (sc_in 1 (by decide) hk hL) ?_
  refine zw_aload_0 X dL_law_886 ?_
  refine zw_iload_3 X dL_law_887 ?_
  refine zw_iconst (v := 2) X dL_law_888 ik_2 ?_
  refine zw_iadd X dL_law_889 ?_
  refine zl_ld X Y dL_law_890 (sc_in 2 (by decide) hk hL) ?_
  refine zw_aload_0 X dL_law_891 ?_
  refine zw_iload_3 X dL_law_892 ?_
  refine zw_iconst (v := 3) X dL_law_893 ik_3 ?_
  refine zw_iadd X dL_law_894 ?_
  refine zl_ld X Y dL_law_895 (sc_in 3 (by decide) hk hL) ?_
  obtain ⟨r, σ1, σ2, hc1, hc2, hI2⟩ := B_auction hI (a0 := xs (nI (4 * k) + 1).toNatClampNeg) (a1 := xs (nI (4 * k) + 2).toNatClampNeg) (a2 := xs (nI (4 * k) + 3).toNatClampNeg)
  refine zw_cV_iiii X dL_law_896 lk_L_122 ok_MX7_auction vi_MX7_auction rm_L_law_X7_auction sh_0 rfl (Nat.le_of_ble_eq_true rfl) hc1 ?_
  refine zw_aload_2 X dL_law_899 ?_
  refine zw_aload_0 X dL_law_900 ?_
  refine zw_iload_3 X dL_law_901 ?_
  refine zw_iconst (v := 1) X dL_law_902 ik_1 ?_
  refine zw_iadd X dL_law_903 ?_
  refine zl_ld X Y dL_law_904 (sc_in 1 (by decide) hk hL) ?_
  refine zw_aload_0 X dL_law_905 ?_
  refine zw_iload_3 X dL_law_906 ?_
  refine zw_iconst (v := 2) X dL_law_907 ik_2 ?_
  refine zw_iadd X dL_law_908 ?_
  refine zl_ld X Y dL_law_909 (sc_in 2 (by decide) hk hL) ?_
  refine zw_aload_0 X dL_law_910 ?_
  refine zw_iload_3 X dL_law_911 ?_
  refine zw_iconst (v := 3) X dL_law_912 ik_3 ?_
  refine zw_iadd X dL_law_913 ?_
  refine zl_ld X Y dL_law_914 (sc_in 3 (by decide) hk hL) ?_
  refine zw_cV_iiii X dL_law_915 lk_L_125 ok_MX8_auction vi_MX8_auction rm_L_law_X8_auction sh_42 rfl (Nat.le_of_ble_eq_true rfl) hc2 ?_
  refine zw_icmpeq_t (tgt := 1079) X dL_law_918 (by decide) rfl ?_
  exact hE σ2 hI2
set_option maxRecDepth 20000 in
theorem law_c27 {g : Gt} (X : CX g ML_law) {L : Nat} {xs : Nat → Int32} (Y : SX g L xs) (hL : L ≤ 256) {k : Nat} (hk : 4 * k + 4 ≤ L) {σ : St} (hI : Inv σ) (hE : ∀ σ2 : St, Inv σ2 → ZW g 1079 [some (.ref 57), some (.ref 0), some (.ref 42), some (.int (nI (4 * k)))] [] σ2) : ZW g 923 [some (.ref 57), some (.ref 0), some (.ref 42), some (.int (nI (4 * k)))] [] σ := by
  refine zw_aload_1 X dL_law_923 ?_
  refine zw_aload_0 X dL_law_924 ?_
  refine zw_iload_3 X dL_law_925 ?_
  refine zw_iconst (v := 1) X dL_law_926 ik_1 ?_
  refine zw_iadd X dL_law_927 ?_
  refine zl_ld X Y dL_law_928 (sc_in 1 (by decide) hk hL) ?_
  refine zw_aload_0 X dL_law_929 ?_
  refine zw_iload_3 X dL_law_930 ?_
  refine zw_iconst (v := 2) X dL_law_931 ik_2 ?_
  refine zw_iadd X dL_law_932 ?_
  refine zl_ld X Y dL_law_933 (sc_in 2 (by decide) hk hL) ?_
  refine zw_aload_0 X dL_law_934 ?_
  refine zw_iload_3 X dL_law_935 ?_
  refine zw_iconst (v := 3) X dL_law_936 ik_3 ?_
  refine zw_iadd X dL_law_937 ?_
  refine zl_ld X Y dL_law_938 (sc_in 3 (by decide) hk hL) ?_
  obtain ⟨r, σ1, σ2, hc1, hc2, hI2⟩ := B_coughs hI (a0 := xs (nI (4 * k) + 1).toNatClampNeg) (a1 := xs (nI (4 * k) + 2).toNatClampNeg) (a2 := xs (nI (4 * k) + 3).toNatClampNeg)
  refine zw_cV_iiil X dL_law_939 lk_L_126 ok_MX7_coughs vi_MX7_coughs rm_L_law_X7_coughs sh_0 rfl (Nat.le_of_ble_eq_true rfl) hc1 ?_
  refine zw_aload_2 X dL_law_942 ?_
  refine zw_aload_0 X dL_law_943 ?_
  refine zw_iload_3 X dL_law_944 ?_
  refine zw_iconst (v := 1) X dL_law_945 ik_1 ?_
  refine zw_iadd X dL_law_946 ?_
  refine zl_ld X Y dL_law_947 (sc_in 1 (by decide) hk hL) ?_
  refine zw_aload_0 X dL_law_948 ?_
  refine zw_iload_3 X dL_law_949 ?_
  refine zw_iconst (v := 2) X dL_law_950 ik_2 ?_
  refine zw_iadd X dL_law_951 ?_
  refine zl_ld X Y dL_law_952 (sc_in 2 (by decide) hk hL) ?_
  refine zw_aload_0 X dL_law_953 ?_
  refine zw_iload_3 X dL_law_954 ?_
  refine zw_iconst (v := 3) X dL_law_955 ik_3 ?_
  refine zw_iadd X dL_law_956 ?_
  refine zl_ld X Y dL_law_957 (sc_in 3 (by decide) hk hL) ?_
  refine zw_cV_iiil X dL_law_958 lk_L_130 ok_MX8_coughs vi_MX8_coughs rm_L_law_X8_coughs sh_42 rfl (Nat.le_of_ble_eq_true rfl) hc2 ?_
  refine zw_lcmp X dL_law_961 ?_
  refine zw_ifeq_t (tgt := 1079) X dL_law_962 (by decide) ((lg_cmp_eq _ _).mpr rfl) ?_
  exact hE σ2 hI2
set_option maxRecDepth 20000 in
theorem law_c28 {g : Gt} (X : CX g ML_law) {L : Nat} {xs : Nat → Int32} (Y : SX g L xs) (hL : L ≤ 256) {k : Nat} (hk : 4 * k + 4 ≤ L) {σ : St} (hI : Inv σ) (hE : ∀ σ2 : St, Inv σ2 → ZW g 1079 [some (.ref 57), some (.ref 0), some (.ref 42), some (.int (nI (4 * k)))] [] σ2) : ZW g 967 [some (.ref 57), some (.ref 0), some (.ref 42), some (.int (nI (4 * k)))] [] σ := by
  refine zw_aload_1 X dL_law_967 ?_
  refine zw_aload_0 X dL_law_968 ?_
  refine zw_iload_3 X dL_law_969 ?_
  refine zw_iconst (v := 1) X dL_law_970 ik_1 ?_
  refine zw_iadd X dL_law_971 ?_
  refine zl_ld X Y dL_law_972 (sc_in 1 (by decide) hk hL) ?_
  refine zw_aload_0 X dL_law_973 ?_
  refine zw_iload_3 X dL_law_974 ?_
  refine zw_iconst (v := 2) X dL_law_975 ik_2 ?_
  refine zw_iadd X dL_law_976 ?_
  refine zl_ld X Y dL_law_977 (sc_in 2 (by decide) hk hL) ?_
  refine zw_aload_0 X dL_law_978 ?_
  refine zw_iload_3 X dL_law_979 ?_
  refine zw_iconst (v := 3) X dL_law_980 ik_3 ?_
  refine zw_iadd X dL_law_981 ?_
  refine zl_ld X Y dL_law_982 (sc_in 3 (by decide) hk hL) ?_
  obtain ⟨r, σ1, σ2, hc1, hc2, hI2⟩ := B_year hI (a0 := xs (nI (4 * k) + 1).toNatClampNeg) (a1 := xs (nI (4 * k) + 2).toNatClampNeg) (a2 := xs (nI (4 * k) + 3).toNatClampNeg)
  refine zw_cV_iiii X dL_law_983 lk_L_131 ok_MX7_year vi_MX7_year rm_L_law_X7_year sh_0 rfl (Nat.le_of_ble_eq_true rfl) hc1 ?_
  refine zw_aload_2 X dL_law_986 ?_
  refine zw_aload_0 X dL_law_987 ?_
  refine zw_iload_3 X dL_law_988 ?_
  refine zw_iconst (v := 1) X dL_law_989 ik_1 ?_
  refine zw_iadd X dL_law_990 ?_
  refine zl_ld X Y dL_law_991 (sc_in 1 (by decide) hk hL) ?_
  refine zw_aload_0 X dL_law_992 ?_
  refine zw_iload_3 X dL_law_993 ?_
  refine zw_iconst (v := 2) X dL_law_994 ik_2 ?_
  refine zw_iadd X dL_law_995 ?_
  refine zl_ld X Y dL_law_996 (sc_in 2 (by decide) hk hL) ?_
  refine zw_aload_0 X dL_law_997 ?_
  refine zw_iload_3 X dL_law_998 ?_
  refine zw_iconst (v := 3) X dL_law_999 ik_3 ?_
  refine zw_iadd X dL_law_1000 ?_
  refine zl_ld X Y dL_law_1001 (sc_in 3 (by decide) hk hL) ?_
  refine zw_cV_iiii X dL_law_1002 lk_L_134 ok_MX8_year vi_MX8_year rm_L_law_X8_year sh_42 rfl (Nat.le_of_ble_eq_true rfl) hc2 ?_
  refine zw_icmpeq_t (tgt := 1079) X dL_law_1005 (by decide) rfl ?_
  exact hE σ2 hI2
set_option maxRecDepth 20000 in
theorem law_c29 {g : Gt} (X : CX g ML_law) {L : Nat} {xs : Nat → Int32} (Y : SX g L xs) (hL : L ≤ 256) {k : Nat} (hk : 4 * k + 4 ≤ L) {σ : St} (hI : Inv σ) (hE : ∀ σ2 : St, Inv σ2 → ZW g 1079 [some (.ref 57), some (.ref 0), some (.ref 42), some (.int (nI (4 * k)))] [] σ2) : ZW g 1010 [some (.ref 57), some (.ref 0), some (.ref 42), some (.int (nI (4 * k)))] [] σ := by
  refine zw_aload_1 X dL_law_1010 ?_
  refine zw_aload_0 X dL_law_1011 ?_
  refine zw_iload_3 X dL_law_1012 ?_
  refine zw_iconst (v := 1) X dL_law_1013 ik_1 ?_
  refine zw_iadd X dL_law_1014 ?_
  refine zl_ld X Y dL_law_1015 (sc_in 1 (by decide) hk hL) ?_
  obtain ⟨r, σ1, σ2, hc1, hc2, hI2⟩ := B_image hI (a0 := xs (nI (4 * k) + 1).toNatClampNeg)
  refine zw_cV_ii X dL_law_1016 lk_L_135 ok_MX7_image vi_MX7_image rm_L_law_X7_image sh_0 rfl (Nat.le_of_ble_eq_true rfl) hc1 ?_
  refine zw_aload_2 X dL_law_1019 ?_
  refine zw_aload_0 X dL_law_1020 ?_
  refine zw_iload_3 X dL_law_1021 ?_
  refine zw_iconst (v := 1) X dL_law_1022 ik_1 ?_
  refine zw_iadd X dL_law_1023 ?_
  refine zl_ld X Y dL_law_1024 (sc_in 1 (by decide) hk hL) ?_
  refine zw_cV_ii X dL_law_1025 lk_L_138 ok_MX8_image vi_MX8_image rm_L_law_X8_image sh_42 rfl (Nat.le_of_ble_eq_true rfl) hc2 ?_
  refine zw_icmpeq_t (tgt := 1079) X dL_law_1028 (by decide) rfl ?_
  exact hE σ2 hI2
set_option maxRecDepth 20000 in
theorem law_c30 {g : Gt} (X : CX g ML_law) {L : Nat} {xs : Nat → Int32} (Y : SX g L xs) (hL : L ≤ 256) {k : Nat} (hk : 4 * k + 4 ≤ L) {σ : St} (hI : Inv σ) (hE : ∀ σ2 : St, Inv σ2 → ZW g 1079 [some (.ref 57), some (.ref 0), some (.ref 42), some (.int (nI (4 * k)))] [] σ2) : ZW g 1033 [some (.ref 57), some (.ref 0), some (.ref 42), some (.int (nI (4 * k)))] [] σ := by
  refine zw_aload_1 X dL_law_1033 ?_
  refine zw_aload_0 X dL_law_1034 ?_
  refine zw_iload_3 X dL_law_1035 ?_
  refine zw_iconst (v := 1) X dL_law_1036 ik_1 ?_
  refine zw_iadd X dL_law_1037 ?_
  refine zl_ld X Y dL_law_1038 (sc_in 1 (by decide) hk hL) ?_
  obtain ⟨r, σ1, σ2, hc1, hc2, hI2⟩ := B_restore hI (a0 := xs (nI (4 * k) + 1).toNatClampNeg)
  refine zw_cV_ii X dL_law_1039 lk_L_139 ok_MX7_restore vi_MX7_restore rm_L_law_X7_restore sh_0 rfl (Nat.le_of_ble_eq_true rfl) hc1 ?_
  refine zw_aload_2 X dL_law_1042 ?_
  refine zw_aload_0 X dL_law_1043 ?_
  refine zw_iload_3 X dL_law_1044 ?_
  refine zw_iconst (v := 1) X dL_law_1045 ik_1 ?_
  refine zw_iadd X dL_law_1046 ?_
  refine zl_ld X Y dL_law_1047 (sc_in 1 (by decide) hk hL) ?_
  refine zw_cV_ii X dL_law_1048 lk_L_142 ok_MX8_restore vi_MX8_restore rm_L_law_X8_restore sh_42 rfl (Nat.le_of_ble_eq_true rfl) hc2 ?_
  refine zw_icmpeq_t (tgt := 1079) X dL_law_1051 (by decide) rfl ?_
  exact hE σ2 hI2
set_option maxRecDepth 20000 in
theorem law_c31 {g : Gt} (X : CX g ML_law) {L : Nat} {xs : Nat → Int32} (Y : SX g L xs) (hL : L ≤ 256) {k : Nat} (hk : 4 * k + 4 ≤ L) {σ : St} (hI : Inv σ) (hE : ∀ σ2 : St, Inv σ2 → ZW g 1079 [some (.ref 57), some (.ref 0), some (.ref 42), some (.int (nI (4 * k)))] [] σ2) : ZW g 1056 [some (.ref 57), some (.ref 0), some (.ref 42), some (.int (nI (4 * k)))] [] σ := by
  refine zw_aload_1 X dL_law_1056 ?_
  refine zw_aload_0 X dL_law_1057 ?_
  refine zw_iload_3 X dL_law_1058 ?_
  refine zw_iconst (v := 1) X dL_law_1059 ik_1 ?_
  refine zw_iadd X dL_law_1060 ?_
  refine zl_ld X Y dL_law_1061 (sc_in 1 (by decide) hk hL) ?_
  obtain ⟨r, σ1, σ2, hc1, hc2, hI2⟩ := B_told hI (a0 := xs (nI (4 * k) + 1).toNatClampNeg)
  refine zw_cV_ii X dL_law_1062 lk_L_143 ok_MX7_told vi_MX7_told rm_L_law_X7_told sh_0 rfl (Nat.le_of_ble_eq_true rfl) hc1 ?_
  refine zw_aload_2 X dL_law_1065 ?_
  refine zw_aload_0 X dL_law_1066 ?_
  refine zw_iload_3 X dL_law_1067 ?_
  refine zw_iconst (v := 1) X dL_law_1068 ik_1 ?_
  refine zw_iadd X dL_law_1069 ?_
  refine zl_ld X Y dL_law_1070 (sc_in 1 (by decide) hk hL) ?_
  refine zw_cV_ii X dL_law_1071 lk_L_146 ok_MX8_told vi_MX8_told rm_L_law_X8_told sh_42 rfl (Nat.le_of_ble_eq_true rfl) hc2 ?_
  refine zw_icmpeq_t (tgt := 1079) X dL_law_1074 (by decide) rfl ?_
  exact hE σ2 hI2
set_option maxRecDepth 20000 in
theorem law_loop {g : Gt} (X : CX g ML_law) {L : Nat} {xs : Nat → Int32} (Y : SX g L xs) (Z : LG g) (hL : L ≤ 256) : ∀ (n k : Nat) (σ : St), L + 1 ≤ 4 * k + n → 4 * k ≤ L + 3 → Inv σ → ZW g 18 [some (.ref 57), some (.ref 0), some (.ref 42), some (.int (nI (4 * k)))] [] σ := by
  intro n
  induction n using Nat.strongRecOn with
  | ind n ih =>
    intro k σ hn hk3 hI
    refine zw_iload_3 X dL_law_18 ?_
    refine zw_aload_0 X dL_law_19 ?_
    refine zl_len X Y dL_law_20 ?_
    refine zw_iconst (v := 4) X dL_law_21 ik_4 ?_
    refine zw_isub X dL_law_22 ?_
    have e4 : (nI L - 4).toInt = (L : Int) - 4 := pk_sub_toInt (a := L) (b := 4) (by omega) (by decide)
    have ek : (nI (4 * k)).toInt = ((4 * k : Nat) : Int) := nI_toInt (by omega)
    refine zw_icmpgt (tgt := 1085) X dL_law_23 (by decide) (fun c_23 => ?_) (fun c_23 => ?_)
    · refine zw_iconst (v := 1) X dL_law_1085 ik_1 ?_
      exact zl_ret X Z dL_law_1086
    · have hk : 4 * k + 4 ≤ L := by
        have h := Int32.not_lt.mp c_23
        rw [Int32.le_iff_toInt_le, e4, ek] at h
        omega
      have hE : ∀ σ2 : St, Inv σ2 → ZW g 1079 [some (.ref 57), some (.ref 0), some (.ref 42), some (.int (nI (4 * k)))] [] σ2 := by
        intro σ2 hI2
        refine zw_iinc_3_p4 X dL_law_1079 ?_
        refine zw_goto (tgt := 18) X dL_law_1082 (by decide) ?_
        rw [show nI (4 * k) + 4 = nI (4 * (k + 1)) from nI_add (4 * k) 4]
        exact ih (n - 4) (by omega) (k + 1) σ2 (by omega) (by omega) hI2
      refine zw_aload_0 X dL_law_26 ?_
      refine zw_iload_3 X dL_law_27 ?_
      refine zl_ld X Y dL_law_28 (vp_in_nI (by omega) (by omega)) ?_
      refine zw_bipush (v := 31) X dL_law_29 bk_31 ?_
      refine zw_iand X dL_law_31 ?_
      refine zw_tabN 32 X dL_law_32 (by decide) rfl (fun i hi hx => ?_) (fun hx => ?_)
      · have hi2 : i = 0 ∨ i = 1 ∨ i = 2 ∨ i = 3 ∨ i = 4 ∨ i = 5 ∨ i = 6 ∨ i = 7 ∨ i = 8 ∨ i = 9 ∨ i = 10 ∨ i = 11 ∨ i = 12 ∨ i = 13 ∨ i = 14 ∨ i = 15 ∨ i = 16 ∨ i = 17 ∨ i = 18 ∨ i = 19 ∨ i = 20 ∨ i = 21 ∨ i = 22 ∨ i = 23 ∨ i = 24 ∨ i = 25 ∨ i = 26 ∨ i = 27 ∨ i = 28 ∨ i = 29 ∨ i = 30 ∨ i = 31 := by omega
        rcases hi2 with rfl | rfl | rfl | rfl | rfl | rfl | rfl | rfl | rfl | rfl | rfl | rfl | rfl | rfl | rfl | rfl | rfl | rfl | rfl | rfl | rfl | rfl | rfl | rfl | rfl | rfl | rfl | rfl | rfl | rfl | rfl | rfl
        · exact ⟨144, 176, rfl, by decide, law_c0 X Y hL hk hI hE⟩
        · exact ⟨167, 199, rfl, by decide, law_c1 X Y hL hk hI hE⟩
        · exact ⟨216, 248, rfl, by decide, law_c2 X Y hL hk hI hE⟩
        · exact ⟨259, 291, rfl, by decide, law_c3 X Y hL hk hI hE⟩
        · exact ⟨292, 324, rfl, by decide, law_c4 X Y hL hk hI hE⟩
        · exact ⟨325, 357, rfl, by decide, law_c5 X Y hL hk hI hE⟩
        · exact ⟨348, 380, rfl, by decide, law_c6 X Y hL hk hI hE⟩
        · exact ⟨371, 403, rfl, by decide, law_c7 X Y hL hk hI hE⟩
        · exact ⟨384, 416, rfl, by decide, law_c8 X Y hL hk hI hE⟩
        · exact ⟨397, 429, rfl, by decide, law_c9 X Y hL hk hI hE⟩
        · exact ⟨420, 452, rfl, by decide, law_c10 X Y hL hk hI hE⟩
        · exact ⟨433, 465, rfl, by decide, law_c11 X Y hL hk hI hE⟩
        · exact ⟨456, 488, rfl, by decide, law_c12 X Y hL hk hI hE⟩
        · exact ⟨479, 511, rfl, by decide, law_c13 X Y hL hk hI hE⟩
        · exact ⟨502, 534, rfl, by decide, law_c14 X Y hL hk hI hE⟩
        · exact ⟨535, 567, rfl, by decide, law_c15 X Y hL hk hI hE⟩
        · exact ⟨558, 590, rfl, by decide, law_c16 X Y hL hk hI hE⟩
        · exact ⟨591, 623, rfl, by decide, law_c17 X Y hL hk hI hE⟩
        · exact ⟨624, 656, rfl, by decide, law_c18 X Y hL hk hI hE⟩
        · exact ⟨667, 699, rfl, by decide, law_c19 X Y hL hk hI hE⟩
        · exact ⟨700, 732, rfl, by decide, law_c20 X Y hL hk hI hE⟩
        · exact ⟨743, 775, rfl, by decide, law_c21 X Y hL hk hI hE⟩
        · exact ⟨766, 798, rfl, by decide, law_c22 X Y hL hk hI hE⟩
        · exact ⟨799, 831, rfl, by decide, law_c23 X Y hL hk hI hE⟩
        · exact ⟨812, 844, rfl, by decide, law_c24 X Y hL hk hI hE⟩
        · exact ⟨825, 857, rfl, by decide, law_c25 X Y hL hk hI hE⟩
        · exact ⟨848, 880, rfl, by decide, law_c26 X Y hL hk hI hE⟩
        · exact ⟨891, 923, rfl, by decide, law_c27 X Y hL hk hI hE⟩
        · exact ⟨935, 967, rfl, by decide, law_c28 X Y hL hk hI hE⟩
        · exact ⟨978, 1010, rfl, by decide, law_c29 X Y hL hk hI hE⟩
        · exact ⟨1001, 1033, rfl, by decide, law_c30 X Y hL hk hI hE⟩
        · exact ⟨1024, 1056, rfl, by decide, law_c31 X Y hL hk hI hE⟩
      · refine ⟨1079, by decide, ?_⟩
        exact hE σ hI
