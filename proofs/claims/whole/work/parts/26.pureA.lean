/-! bits (the kit's family bt) -/
def bt (x : Int32) (i : Nat) : Bool := x.toBitVec.getLsbD i
theorem b_ext {x y : Int32} (h : ∀ i, i < 32 → bt x i = bt y i) : x = y := Int32.toBitVec_inj.mp (BitVec.eq_of_getLsbD_eq (fun i hi => h i hi))
theorem b_or (x y : Int32) (i : Nat) : bt (x ||| y) i = (bt x i || bt y i) := by unfold bt; rw [Int32.toBitVec_or, BitVec.getLsbD_or]
theorem b_and (x y : Int32) (i : Nat) : bt (x &&& y) i = (bt x i && bt y i) := by unfold bt; rw [Int32.toBitVec_and, BitVec.getLsbD_and]
theorem b_xor (x y : Int32) (i : Nat) : bt (x ^^^ y) i = (bt x i ^^ bt y i) := by unfold bt; rw [Int32.toBitVec_xor, BitVec.getLsbD_xor]
theorem b_big {x : Int32} {i : Nat} (h : 32 ≤ i) : bt x i = false := BitVec.getLsbD_of_ge _ _ h
theorem b_m1 : ∀ i, i < 32 → bt (-1) i = true := by decide +kernel
theorem b_0 (i : Nat) : bt 0 i = false := BitVec.getLsbD_zero
theorem s_l : ∀ n, n < 32 → ((nI n &&& 31).toBitVec.smod 32).toNat = n := by decide +kernel
theorem b_shl (n : Nat) (hn : n < 32) (x : Int32) {i : Nat} (hi : i < 32) : bt (x <<< (nI n &&& 31)) i = (decide (n ≤ i) && bt x (i - n)) := by
  unfold bt
  rw [Int32.toBitVec_shiftLeft]
  show (x.toBitVec <<< ((nI n &&& 31).toBitVec.smod 32).toNat).getLsbD i = _
  rw [s_l n hn, BitVec.getLsbD_shiftLeft]
  rcases Nat.lt_or_ge i n with h | h
  · simp [h, Nat.not_le.mpr h]
  · simp [hi, h, Nat.not_lt.mpr h]
theorem b_sshr (n : Nat) (hn : n < 32) (x : Int32) {i : Nat} (hi : i < 32) : bt (x >>> (nI n &&& 31)) i = if n + i < 32 then bt x (n + i) else bt x 31 := by
  unfold bt
  rw [Int32.toBitVec_shiftRight]
  show (x.toBitVec.sshiftRight ((nI n &&& 31).toBitVec.smod 32).toNat).getLsbD i = _
  rw [s_l n hn, BitVec.getLsbD_sshiftRight, BitVec.msb_eq_getLsbD_last]
  simp [hi]
theorem b_1 : ∀ i, i < 32 → bt 1 i = decide (i = 0) := by decide +kernel
theorem b_one {n i : Nat} (hn : n < 32) (hi : i < 32) : bt ((1 : Int32) <<< (nI n &&& 31)) i = decide (i = n) := by
  rw [b_shl n hn 1 hi]
  by_cases h : n ≤ i
  · rw [b_1 (i - n) (by omega), decide_eq_true h, Bool.true_and]
    by_cases h2 : i = n
    · subst h2; simp
    · simp [h2]; omega
  · rw [decide_eq_false h, Bool.false_and, decide_eq_false (by omega)]
/-- a bit, three ways -/
theorem bit_and {x : Int32} {n : Nat} (hn : n < 32) : x &&& ((1 : Int32) <<< (nI n &&& 31)) = 0 ↔ bt x n = false := by
  constructor
  · intro h
    have := congrArg (fun y => bt y n) h
    simp only [b_and, b_one hn hn, b_0, decide_true, Bool.and_true] at this
    exact this
  · intro h
    refine b_ext (fun i hi => ?_)
    rw [b_and, b_one hn hi, b_0]
    by_cases e : i = n
    · subst e; rw [h]; rfl
    · simp [e]
theorem bit_shr1 {x : Int32} {n : Nat} (hn : n < 32) : (x >>> (nI n &&& 31)) &&& 1 = if bt x n then 1 else 0 := by
  refine b_ext (fun i hi => ?_)
  rw [b_and, b_sshr n hn x hi, b_1 i hi]
  by_cases e : i = 0
  · subst e; simp [hn]; cases bt x n <;> rfl
  · simp only [e, decide_false, Bool.and_false]
    cases bt x n
    · exact (b_0 i).symm
    · simp only [if_true]; rw [b_1 i hi, decide_eq_false e]
theorem hasB_bt {x : Int32} {n : Nat} (hn : n < 32) : hasB x (nI n) = bt x n := by
  unfold hasB; rw [bit_shr1 hn]; cases bt x n <;> rfl
theorem tn_bt {x : Int32} {n : Nat} (hn : n < 30) : tn x (nI n) = bt x n := by
  unfold tn
  have h1 : ¬ nI n < 0 := nI_pos (by omega)
  have h2 : nI n < 30 := nI_lt (b := 30) hn (by decide)
  simp only [h1, h2, decide_false, decide_true, Bool.not_false, Bool.true_and]
  cases hb : bt x n
  · rw [decide_eq_true ((bit_and (by omega)).mpr hb)]; rfl
  · rw [decide_eq_false (fun h => by rw [(bit_and (by omega)).mp h] at hb; cases hb)]; rfl
theorem bt_nI {n i : Nat} (hi : i < 32) : bt (nI n) i = n.testBit i := by
  unfold bt; show (BitVec.ofNat 32 n).getLsbD i = _; rw [BitVec.getLsbD_ofNat]; simp [hi]
/-! a valid one -/
theorem isTr_wth (t : Int32) : isTr t = wth t 0 5 := by
  unfold isTr wth
  congr 1
  rw [← decide_not]
  refine decide_eq_decide.mpr ?_
  rw [Int32.not_lt, Int32.lt_iff_toInt_lt, Int32.le_iff_toInt_le]
  have e6 : (6 : Int32).toInt = 6 := rfl
  have e5 : (5 : Int32).toInt = 5 := rfl
  omega
theorem isCo_wth (t : Int32) : isCo t = wth t 0 2 := by
  unfold isCo wth
  congr 1
  rw [← decide_not]
  refine decide_eq_decide.mpr ?_
  rw [Int32.not_lt, Int32.lt_iff_toInt_lt, Int32.le_iff_toInt_le]
  have e6 : (3 : Int32).toInt = 3 := rfl
  have e5 : (2 : Int32).toInt = 2 := rfl
  omega
theorem isMi_wth (t : Int32) : isMi t = wth t 0 29 := by
  unfold isMi wth
  congr 1
  rw [← decide_not]
  refine decide_eq_decide.mpr ?_
  rw [Int32.not_lt, Int32.lt_iff_toInt_lt, Int32.le_iff_toInt_le]
  have e6 : (30 : Int32).toInt = 30 := rfl
  have e5 : (29 : Int32).toInt = 29 := rfl
  omega
theorem wth_0 {v b : Int32} {B : Nat} (hb : b = nI B) (hB : B < 2 ^ 31) : wth v 0 b = true ↔ ∃ n : Nat, n ≤ B ∧ v = nI n := by
  constructor
  · intro h
    exact wth_nI (by rw [hb]; exact nI_toInt hB) h
  · rintro ⟨n, hn, rfl⟩
    subst hb
    simp only [wth, nI_pos (show n < 2 ^ 31 by omega), nI_nlt hn hB, decide_false, Bool.not_false, Bool.and_self]
theorem tr_nI {t : Int32} (h : wth t 0 5 = true) : ∃ n : Nat, n < 6 ∧ t = nI n := by
  obtain ⟨n, hn, e⟩ := (wth_0 (b := 5) (B := 5) rfl (by decide)).mp h
  exact ⟨n, by omega, e⟩
theorem ix_nI {n : Nat} (h : n < 2 ^ 31) : ix (nI n) = n := nI_clamp h
theorem clN_nI {n : Nat} (h : n < 2 ^ 31) : clN (nI n) = n := nI_clamp h
theorem cnt_nI {a b : Nat} (ha : a < 2 ^ 31) (hb : b < 2 ^ 31) : cnt (nI a) (nI b) = b - a := by
  unfold cnt; rw [nI_toInt ha, nI_toInt hb]; omega
/-! what a call leaves as it was -/
def SameX (σ σ' : St) : Prop := ∀ q, ¬ (7 ≤ q ∧ q ≤ 12) → q ≠ 15 → ¬ (19 ≤ q ∧ q ≤ 21) → σ' q = σ q
def SameY (μ μ' : St) : Prop := (∀ q, q ≠ 42 → ¬ (50 ≤ q ∧ q ≤ 54) → μ' q = μ q) ∧ ∀ j, j ≠ 16 → j ≠ 17 → j ≠ 18 → j ≠ 21 → j ≠ 22 → j ≠ 23 → μ' 42 j = μ 42 j
theorem sx_rf (σ : St) : SameX σ σ := fun _ _ _ _ => rfl
theorem sx_tr {a b c : St} (h1 : SameX a b) (h2 : SameX b c) : SameX a c := fun q x y z => (h2 q x y z).trans (h1 q x y z)
theorem sy_rf (σ : St) : SameY σ σ := ⟨fun _ _ _ => rfl, fun _ _ _ _ _ _ _ => rfl⟩
theorem sy_tr {a b c : St} (h1 : SameY a b) (h2 : SameY b c) : SameY a c := ⟨fun q x y => (h2.1 q x y).trans (h1.1 q x y), fun j a b c d e f => (h2.2 j a b c d e f).trans (h1.2 j a b c d e f)⟩
theorem sx_itr {f : Nat → St → St} (h : ∀ n τ, SameX τ (f n τ)) : ∀ n τ, SameX τ (itr f n τ)
  | 0, τ => sx_rf τ
  | n + 1, τ => sx_tr (sx_itr h n τ) (h n _)
theorem sx_itr2 {β : Type} {f : Nat → β × St → β × St} (h : ∀ n a, SameX a.2 (f n a).2) : ∀ n a, SameX a.2 (itr f n a).2
  | 0, a => sx_rf a.2
  | n + 1, a => sx_tr (sx_itr2 h n a) (h n _)
theorem sy_itr {f : Nat → St → St} (h : ∀ n τ, SameY τ (f n τ)) : ∀ n τ, SameY τ (itr f n τ)
  | 0, τ => sy_rf τ
  | n + 1, τ => sy_tr (sy_itr h n τ) (h n _)
theorem sy_itr2 {β : Type} {f : Nat → β × St → β × St} (h : ∀ n a, SameY a.2 (f n a).2) : ∀ n a, SameY a.2 (itr f n a).2
  | 0, a => sy_rf a.2
  | n + 1, a => sy_tr (sy_itr2 h n a) (h n _)
theorem sx_ups (σ : St) {p : Nat} (i : Nat) (x : Int32) (hp : (7 ≤ p ∧ p ≤ 12) ∨ p = 15 ∨ (19 ≤ p ∧ p ≤ 21)) : SameX σ (ups σ p i x) := fun q h1 h2 h3 => ups_other (by omega)
theorem sy_ups (μ : St) {p : Nat} (i : Nat) (x : Int32) (hp : 50 ≤ p ∧ p ≤ 54) : SameY μ (ups μ p i x) := ⟨fun q h1 h2 => ups_other (by omega), fun j _ _ _ _ _ _ => by rw [ups_other (by omega)]⟩
theorem sy_ups42 (μ : St) {i : Nat} (x : Int32) (hi : i = 16 ∨ i = 17 ∨ i = 18 ∨ i = 21 ∨ i = 22 ∨ i = 23) : SameY μ (ups μ 42 i x) := ⟨fun q h1 h2 => ups_other h1, fun j _ _ _ _ _ _ => ups_j (by omega)⟩
theorem sx_pas (σ : St) : SameX σ (tpas σ 7) := fun q h1 h2 h3 => tpas_ne σ 7 (by omega) (by omega)
theorem sx_cou (σ : St) (t : Int32) : SameX σ (tcou σ 7 t) := fun q h1 h2 h3 => tcou_ne σ 7 t (by omega) (by omega)
theorem sx_bid (σ : St) (t b : Int32) : SameX σ (tsetB σ 7 t b) := fun q h1 h2 h3 => tsetB_ne σ 7 t b (by omega)
theorem sx_draw (σ : St) (x : Int32) : SameX σ (tdraw σ 7 x) := fun q h1 h2 h3 => tdraw_ne σ 7 x (by omega) (by omega) (by omega)
theorem sx_copy (σ : St) : SameX σ (tcopy σ 7 1) := fun q h1 h2 h3 => tcopy_ne σ 7 1 (by omega) (by omega) (by omega) (by omega) (by omega) (by omega)
theorem sy_pas (μ : St) : SameY μ (mpas μ) := ⟨fun q h1 h2 => mpas_ne μ h1 (by omega) (by omega) (by omega), fun j a b _ _ _ _ => mpas_42 μ a b⟩
theorem sy_now (μ : St) : SameY μ (mNow μ) := ⟨fun q h1 h2 => mNow_ne μ h1 (by omega) (by omega) (by omega) (by omega), fun j a b c _ _ _ => mNow_42 μ a b c⟩
theorem sy_cou (μ : St) (k : Int32) : SameY μ (mcou μ k) := ⟨fun q h1 h2 => mcou_ne μ k h1 (by omega), fun j _ b c _ _ _ => mcou_42 μ k b c⟩
theorem sy_run (μ : St) (n : Nat) : SameY μ (mrun n μ) := sy_itr (fun _ τ => sy_pas τ) n μ
theorem sx_all (σ : St) : SameX σ (X_all σ) := sx_tr (sx_copy σ) (sx_itr (fun _ τ => sx_pas τ) _ _)
theorem sx_taS (σ : St) (x : Int32) : SameX σ (taS σ x) := by
  unfold taS; split
  · exact sx_pas σ
  · split
    · exact sx_bid σ _ _
    · split
      · split
        · exact sx_rf σ
        · split
          · exact sx_cou σ _
          · exact sx_rf σ
      · exact sx_rf σ
theorem sx_tr1 (σ : St) (x : Int32) : SameX σ (tr1 σ x) := sx_tr (sx_taS σ x) (sx_ups _ _ _ (by omega))
theorem sx_tr2 (σ : St) (x : Int32) : SameX σ (tr2 σ x) := sx_tr (sx_tr1 σ x) (sx_ups _ _ _ (by omega))
theorem sx_trGo : ∀ (n : Nat) (x : Int32) (σ : St), SameX σ (trGo n x σ)
  | 0, _, σ => sx_rf σ
  | n + 1, x, σ => by
    rw [trGo]; split
    · split
      · exact sx_tr (sx_tr2 σ x) (sx_trGo n _ _)
      · exact sx_tr1 σ x
    · exact sx_rf σ
theorem sx_canS (σ : St) : SameX σ (X_canS σ) := sx_tr (sx_copy σ) (sx_tr (sx_tr (sx_ups _ _ _ (by omega)) (sx_ups _ _ _ (by omega))) (sx_trGo 60 0 _))
theorem sx_can (σ : St) : SameX σ (X_can σ).2 := by
  unfold X_can; split
  · exact sx_canS σ
  · exact sx_rf σ
theorem sy_mgS (μ : St) (j : Nat) : SameY μ (mgS μ j) := ⟨fun q h1 h2 => mgS_ne μ j h1 (by omega) (by omega) (by omega) (by omega), fun i a b c d _ _ => mgS_42 μ j a b c d⟩
theorem sy_mgGo : ∀ (n j : Nat) (μ : St), SameY μ (mgGo n j μ).2
  | 0, _, μ => sy_rf μ
  | n + 1, j, μ => by
    rw [mgGo]; split
    · split
      · exact sy_mgS μ j
      · exact sy_tr (sy_tr (sy_mgS μ j) (sy_ups42 _ _ (by omega))) (sy_mgGo n _ _)
    · exact sy_rf μ
theorem sy_mgAll (μ : St) : SameY μ (mgAll μ).2 := sy_tr (sy_now μ) (sy_tr (sy_ups42 _ _ (by omega)) (sy_mgGo 61 0 _))
theorem sy_bar (μ : St) : SameY μ (mBar μ).2 := by
  unfold mBar; split
  · exact sy_mgAll μ
  · exact sy_rf μ
/-! the tie, carried over -/
theorem Inv2_congr {σ σ' μ μ' : St} (h : Inv2 σ μ) (hσ : ∀ q, q < 42 → ¬ (7 ≤ q ∧ q ≤ 12) → q ≠ 15 → ¬ (19 ≤ q ∧ q ≤ 21) → σ' q = σ q) (hμ : ∀ q, 42 < q → ¬ (50 ≤ q ∧ q ≤ 54) → μ' q = μ q) (h42 : ∀ j, j ≠ 16 → j ≠ 17 → j ≠ 18 → j ≠ 21 → j ≠ 22 → j ≠ 23 → μ' 42 j = μ 42 j) : Inv2 σ' μ' := by
  have s1 := hσ 1 (by decide) (by decide) (by decide) (by decide); have s2 := hσ 2 (by decide) (by decide) (by decide) (by decide); have s3 := hσ 3 (by decide) (by decide) (by decide) (by decide); have s4 := hσ 4 (by decide) (by decide) (by decide) (by decide); have s5 := hσ 5 (by decide) (by decide) (by decide) (by decide); have s6 := hσ 6 (by decide) (by decide) (by decide) (by decide)
  have s13 := hσ 13 (by decide) (by decide) (by decide) (by decide); have s14 := hσ 14 (by decide) (by decide) (by decide) (by decide); have s16 := hσ 16 (by decide) (by decide) (by decide) (by decide); have s17 := hσ 17 (by decide) (by decide) (by decide) (by decide); have s18 := hσ 18 (by decide) (by decide) (by decide) (by decide)
  have si : ∀ q, 22 ≤ q → q < 42 → σ' q = σ q := fun q h1 h2 => hσ q h2 (by omega) (by omega) (by omega)
  have m43 := hμ 43 (by decide) (by decide); have m44 := hμ 44 (by decide) (by decide); have m45 := hμ 45 (by decide) (by decide); have m46 := hμ 46 (by decide) (by decide); have m47 := hμ 47 (by decide) (by decide); have m48 := hμ 48 (by decide) (by decide); have m49 := hμ 49 (by decide) (by decide); have m55 := hμ 55 (by decide) (by decide); have m56 := hμ 56 (by decide) (by decide)
  have j0 := h42 0 (by decide) (by decide) (by decide) (by decide) (by decide) (by decide); have j1 := h42 1 (by decide) (by decide) (by decide) (by decide) (by decide) (by decide); have j7 := h42 7 (by decide) (by decide) (by decide) (by decide) (by decide) (by decide); have j8 := h42 8 (by decide) (by decide) (by decide) (by decide) (by decide) (by decide); have j9 := h42 9 (by decide) (by decide) (by decide) (by decide) (by decide) (by decide); have j10 := h42 10 (by decide) (by decide) (by decide) (by decide) (by decide) (by decide); have j12 := h42 12 (by decide) (by decide) (by decide) (by decide) (by decide) (by decide)
  have i22 := si 22 (by decide) (by decide); have i23 := si 23 (by decide) (by decide); have i24 := si 24 (by decide) (by decide); have i25 := si 25 (by decide) (by decide); have i26 := si 26 (by decide) (by decide); have i27 := si 27 (by decide) (by decide); have i28 := si 28 (by decide) (by decide); have i29 := si 29 (by decide) (by decide); have i30 := si 30 (by decide) (by decide); have i31 := si 31 (by decide) (by decide)
  have i32 := si 32 (by decide) (by decide); have i33 := si 33 (by decide) (by decide); have i34 := si 34 (by decide) (by decide); have i35 := si 35 (by decide) (by decide); have i36 := si 36 (by decide) (by decide); have i37 := si 37 (by decide) (by decide); have i38 := si 38 (by decide) (by decide); have i39 := si 39 (by decide) (by decide); have i40 := si 40 (by decide) (by decide); have i41 := si 41 (by decide) (by decide)
  obtain ⟨h1, h2, h3, h4⟩ := h
  refine ⟨?_, ?_, ?_, ?_⟩
  · unfold Main Core at h1 ⊢
    simp only [show (1 : Nat) + 1 = 2 from rfl, show (1 : Nat) + 2 = 3 from rfl, show (1 : Nat) + 3 = 4 from rfl, show (1 : Nat) + 4 = 5 from rfl, show (1 : Nat) + 5 = 6 from rfl, show (16 : Nat) + 1 = 17 from rfl, show (16 : Nat) + 2 = 18 from rfl] at h1 ⊢
    rw [s1, s2, s3, s4, s5, s6, s16, s17, s18, m43, m44, m45, m46, m47, m48, j0, j1, j7, j8, j9, j10]
    exact h1
  · unfold Padr at h2 ⊢
    rw [s13, s14, m49, j12]
    exact h2
  · unfold Imgr Core at h3 ⊢
    simp only [show (23 : Nat) + 1 = 24 from rfl, show (23 : Nat) + 2 = 25 from rfl, show (23 : Nat) + 3 = 26 from rfl, show (23 : Nat) + 4 = 27 from rfl, show (23 : Nat) + 5 = 28 from rfl, show (29 : Nat) + 1 = 30 from rfl, show (29 : Nat) + 2 = 31 from rfl] at h3 ⊢
    rw [i22, i23, i24, i25, i26, i27, i28, i29, i30, i31, m55, m56]
    exact h3
  · unfold Imgr Core at h4 ⊢
    simp only [show (33 : Nat) + 1 = 34 from rfl, show (33 : Nat) + 2 = 35 from rfl, show (33 : Nat) + 3 = 36 from rfl, show (33 : Nat) + 4 = 37 from rfl, show (33 : Nat) + 5 = 38 from rfl, show (39 : Nat) + 1 = 40 from rfl, show (39 : Nat) + 2 = 41 from rfl] at h4 ⊢
    rw [i32, i33, i34, i35, i36, i37, i38, i39, i40, i41, m55, m56]
    exact h4
theorem inv_mid {σ σ1 : St} (h : Inv σ) (f : ∀ q, 42 ≤ q → σ1 q = σ q) : Inv2 σ σ1 := Inv2_congr h (fun _ _ _ _ _ => rfl) (fun q hq _ => f q (by omega)) (fun j _ _ _ _ _ _ => by rw [f 42 (by decide)])
theorem inv_end {σ1 σ2 : St} (h : Inv2 σ1 σ2) (f : ∀ q, q < 42 → σ2 q = σ1 q) : Inv σ2 := Inv2_congr h (fun q hq _ _ _ => f q hq) (fun _ _ _ => rfl) (fun _ _ _ _ _ _ _ => rfl)
theorem inv_same {σ σ' μ μ' : St} (h : Inv2 σ μ) (hx : SameX σ σ') (hy : SameY μ μ') : Inv2 σ' μ' := Inv2_congr h (fun q _ a b c => hx q a b c) (fun q a b => hy.1 q (by omega) b) (fun j a b c d e f => hy.2 j a b c d e f)
/-- calls that change nothing that is told -/
theorem inv_read {σ σ1 σ2 : St} (h : Inv σ) (hx : SameX σ σ1) (hy : SameY σ1 σ2) : Inv σ2 :=
  inv_end (inv_same (inv_mid h (fun q hq => hx q (by omega) (by omega) (by omega))) hx hy) (fun q hq => hy.1 q (by omega) (by omega))
theorem mid_read {σ σ1 : St} (h : Inv σ) (hx : SameX σ σ1) : Inv2 σ σ1 := inv_mid h (fun q hq => hx q (by omega) (by omega) (by omega))
