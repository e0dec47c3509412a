/-! where to watch -/
theorem cN_6 {P : Nat → Bool} (h : ∀ n, 6 ≤ n → P n = false) : ∀ d, cN P (6 + d) = cN P 6
  | 0 => rfl
  | d + 1 => by
    have e : cN P (6 + (d + 1)) = cN P (6 + d) + (if P (6 + d) then 1 else 0) := rfl
    rw [e, h (6 + d) (by omega), if_neg (by decide), cN_6 h d, Nat.add_zero]
theorem cN_split (P R : Nat → Bool) : ∀ n, cN (fun k => P k && R k) n + cN (fun k => P k && !R k) n = cN P n
  | 0 => rfl
  | n + 1 => by
    have e : ∀ Q : Nat → Bool, cN Q (n + 1) = cN Q n + (if Q n then 1 else 0) := fun _ => rfl
    rw [e, e, e, ← cN_split P R n]
    cases P n <;> cases R n <;> simp <;> omega
theorem set_ext {x : Int32} {P : Nat → Bool} (h : ∀ i, i < 32 → bt x i = (decide (i < 6) && P i)) : x = setB P 6 := b_ext (fun i hi => by rw [h i hi, b_setB _ 6 (by decide) i hi])
theorem mBits_cN (x : Int32) : mBits x = nI (cN (bt x) 30) := by
  have : mBits x = cntB (bt x) 30 := by
    unfold mBits; rw [cntB_add]
    exact itr_congr (fun n hn a => by rw [bit_shr1 (by omega)])
  rw [this, cntB_cN]
theorem left_eq {σ μ : St} (h : Main σ μ) {m c : Nat} (hc : c < 3) {s : Int32} {Q : Nat → Bool} (hs : s = setB Q 6) : ∃ w, w ≤ 6 ∧ leftM s (trdo σ 1 (nI c) (nI m)) = nI w ∧ mwW μ s m c = nI w := by
  have hb : ∀ i, i < 32 → bt s i = (decide (i < 6) && Q i) := fun i hi => by rw [hs, b_setB _ 6 (by decide) i hi]
  have htr : ∀ i, i < 32 → bt (trdo σ 1 (nI c) (nI m)) i = (decide (i < 6) && (mrd μ (nI i) (nI m) && decide (μ 45 i = nI c))) := fun i hi => by
    unfold trdo
    rw [b_setB _ 6 (by decide) i hi]
    by_cases h6 : i < 6
    · unfold tri
      rw [rd_main h h6, ix_nI (by omega), show (1 : Nat) + 3 = 4 from rfl, show σ 4 i = μ 45 i from (h.2.1 i h6).2.2.1]
    · rw [decide_eq_false h6, Bool.false_and, Bool.false_and]
  have a1 : s &&& trdo σ 1 (nI c) (nI m) = setB (fun k => bt s k && (mrd μ (nI k) (nI m) && decide (μ 45 k = nI c))) 6 := set_ext (fun i hi => by
    rw [b_and, htr i hi]
    by_cases h6 : i < 6
    · rw [decide_eq_true h6, Bool.true_and, Bool.true_and]
    · rw [decide_eq_false h6]; simp)
  have a2 : s &&& (trdo σ 1 (nI c) (nI m) ^^^ (-1)) = setB (fun k => bt s k && !(mrd μ (nI k) (nI m) && decide (μ 45 k = nI c))) 6 := set_ext (fun i hi => by
    rw [b_and, b_xor, htr i hi, b_m1 i hi]
    by_cases h6 : i < 6
    · rw [decide_eq_true h6, Bool.true_and, Bool.true_and]; simp
    · rw [hb i hi, decide_eq_false h6]; simp)
  have e1 : bitC (s &&& trdo σ 1 (nI c) (nI m)) = nI (cN (fun k => bt s k && (mrd μ (nI k) (nI m) && decide (μ 45 k = nI c))) 6) := by rw [a1, bitC_setB, cntB_cN]
  have e2 : bitC (s &&& (trdo σ 1 (nI c) (nI m) ^^^ (-1))) = nI (cN (fun k => bt s k && !(mrd μ (nI k) (nI m) && decide (μ 45 k = nI c))) 6) := by rw [a2, bitC_setB, cntB_cN]
  have e3 : mwH μ s m c = nI (cN (fun k => bt s k && (mrd μ (nI k) (nI m) && decide (μ 45 k = nI c))) 6) := by
    rw [← cntB_cN, cntB_add]; unfold mwH
    exact itr_congr (fun k hk a => by unfold mwK; rw [hasB_bt (by omega)])
  have hz : ∀ n, 6 ≤ n → bt s n = false := fun n hn => by
    by_cases h32 : n < 32
    · rw [hb n h32, decide_eq_false (by omega), Bool.false_and]
    · exact b_big (by omega)
  have e4 : mBits s = nI (cN (bt s) 6) := by rw [mBits_cN, show (30 : Nat) = 6 + 24 from rfl, cN_6 hz 24]
  have hsp := cN_split (bt s) (fun k => mrd μ (nI k) (nI m) && decide (μ 45 k = nI c)) 6
  have hle := cN_le (bt s) 6
  unfold leftM mwW
  rw [e1, e2, e3, e4]
  generalize cN (fun k => bt s k && (mrd μ (nI k) (nI m) && decide (μ 45 k = nI c))) 6 = p at hsp ⊢
  generalize cN (fun k => bt s k && !(mrd μ (nI k) (nI m) && decide (μ 45 k = nI c))) 6 = q at hsp ⊢
  generalize cN (bt s) 6 = r at hsp hle ⊢
  rw [pk_sub (by omega), show r - p = q by omega]
  rcases Nat.lt_or_ge p q with hl | hl
  · rw [if_pos (nI_lt hl (by omega)), if_neg (nI_nlt (by omega) (by omega))]; exact ⟨q, by omega, rfl, rfl⟩
  · rw [if_neg (nI_nlt hl (by omega))]
    by_cases hq : q < p
    · rw [if_pos (nI_lt hq (by omega))]; exact ⟨p, by omega, rfl, rfl⟩
    · rw [if_neg (nI_nlt (by omega) (by omega))]; exact ⟨p, by omega, rfl, by rw [show q = p by omega]⟩
def wR (a b : Int32 × Int32) : Prop := (a = b ∧ ∃ k : Nat, k < 1000 ∧ a.1 = nI k) ∨ (a = (0, 7) ∧ b = (-6, 1000000))
theorem wI_eq {σ μ : St} (h : Main σ μ) {Q : Nat → Bool} (hs : gSus σ = setB Q 6) {m c : Nat} (hm : m < 30) (hc : c < 3) {a b : Int32 × Int32} (hab : wR a b) : X_wI σ m c a = mwI μ (gSus σ) m c b ∧ ∃ k : Nat, k < 1000 ∧ (X_wI σ m c a).1 = nI k := by
  obtain ⟨w, hw, e1, e2⟩ := left_eq h (m := m) hc hs
  have e10 : 10 * nI m + nI c = nI (10 * m + c) := by rw [show (10 : Int32) * nI m = nI (10 * m) from pk_mul 10 m, nI_add]
  unfold X_wI mwI
  rw [e1, e2, e10]
  rcases hab with ⟨rfl, k, hk, ek⟩ | ⟨rfl, rfl⟩
  · by_cases hl : nI w < a.2
    · rw [if_pos hl, if_pos hl, if_pos hl]; exact ⟨rfl, 10 * m + c, by omega, rfl⟩
    · rw [if_neg hl, if_neg hl, if_neg hl]; exact ⟨rfl, k, hk, ek⟩
  · have h7 : nI w < 7 := nI_lt (b := 7) (by omega) (by decide)
    have hM : nI w < 1000000 := nI_lt (b := 1000000) (by omega) (by decide)
    dsimp only
    rw [if_pos h7, if_pos hM, if_pos hM]; exact ⟨rfl, 10 * m + c, by omega, rfl⟩
theorem wO_eq {σ μ : St} (h : Main σ μ) {Q : Nat → Bool} (hs : gSus σ = setB Q 6) {m : Nat} (hm : m < 30) {a b : Int32 × Int32} (hab : wR a b) : ∀ n, n ≤ 3 → wR (itr (X_wI σ m) n a) (itr (mwI μ (gSus σ) m) n b) ∧ (1 ≤ n → itr (X_wI σ m) n a = itr (mwI μ (gSus σ) m) n b)
  | 0, _ => ⟨hab, fun x => absurd x (by decide)⟩
  | n + 1, hn => by
    obtain ⟨ih, -⟩ := wO_eq h hs hm hab n (by omega)
    obtain ⟨g1, g2⟩ := wI_eq h hs hm (c := n) (by omega) ih
    have x1 : itr (X_wI σ m) (n + 1) a = X_wI σ m n (itr (X_wI σ m) n a) := rfl
    have x2 : itr (mwI μ (gSus σ) m) (n + 1) b = mwI μ (gSus σ) m n (itr (mwI μ (gSus σ) m) n b) := rfl
    rw [x1, x2]
    exact ⟨Or.inl ⟨g1, g2⟩, fun _ => g1⟩
theorem wO_1 {σ μ : St} (h : Main σ μ) {Q : Nat → Bool} (hs : gSus σ = setB Q 6) {m : Nat} (hm : m < 30) {a b : Int32 × Int32} (hab : wR a b) : wR (X_wO σ m a) (mwO μ (gSus σ) m b) ∧ X_wO σ m a = mwO μ (gSus σ) m b := by
  have g := wO_eq h hs hm hab 3 (Nat.le_refl 3)
  have y1 : X_wO σ m a = itr (X_wI σ m) 3 a := by unfold X_wO; rfl
  have y2 : mwO μ (gSus σ) m b = itr (mwI μ (gSus σ) m) 3 b := by unfold mwO; rfl
  rw [y1, y2]
  exact ⟨g.1, g.2 (by decide)⟩
theorem itr_s {α : Type} (f : Nat → α → α) (n : Nat) (a : α) : itr f (n + 1) a = f n (itr f n a) := rfl
theorem wA_eq {σ μ : St} (h : Main σ μ) {Q : Nat → Bool} (hs : gSus σ = setB Q 6) {a b : Int32 × Int32} (hab : wR a b) (n : Nat) : n ≤ 30 → wR (itr (X_wO σ) n a) (itr (mwO μ (gSus σ)) n b) ∧ (1 ≤ n → itr (X_wO σ) n a = itr (mwO μ (gSus σ)) n b) := by
  induction n with
  | zero => intro _; rw [itr_0, itr_0]; exact ⟨hab, fun x => absurd x (by decide)⟩
  | succ n ih =>
    intro hn
    obtain ⟨ih, -⟩ := ih (by omega)
    rw [itr_s, itr_s]
    generalize itr (X_wO σ) n a = za at ih ⊢
    generalize itr (mwO μ (gSus σ)) n b = zb at ih ⊢
    obtain ⟨g1, g2⟩ := wO_1 h hs (m := n) (by omega) ih
    refine And.intro g1 ?_
    intro _
    exact g2
theorem A_watch {σ μ : St} (h : Main σ μ) (w : Int32) : (X_watch σ w).1 = (Y_watch μ w).1 := by
  obtain ⟨L, M, hL, hL2, hML, eL, eM⟩ := h.2.2.2.1
  have eY : mHum μ = setB (muB μ) 6 := by unfold mHum; rw [← orB_setB]; rfl
  have hs : gSus σ = setB (muB μ) 6 := (hum_eq h).trans eY
  unfold X_watch Y_watch
  by_cases hw : wth w 0 1 = true
  · rw [if_pos hw, if_pos hw, ← hum_eq h]
    dsimp only
    unfold mwA
    by_cases hz : gSus σ = 0
    · rw [if_pos hz, if_pos hz, if_pos (by rfl)]
    · rw [if_neg hz, if_neg hz]
      obtain ⟨g1, g2⟩ := wA_eq h hs (a := (0, 7)) (b := (-6, 1000000)) (Or.inr ⟨rfl, rfl⟩) L hL2
      have g2 := g2 hL
      have hX : X_wA σ = itr (mwO μ (gSus σ)) L (-6, 1000000) := by unfold X_wA; rw [eL, clN_nI (by omega), g2]
      have hp : ∃ k : Nat, k < 1000 ∧ (itr (mwO μ (gSus σ)) L (-6, 1000000)).1 = nI k := by
        rcases g1 with ⟨e, k, hk, ek⟩ | ⟨e1, e2⟩
        · exact ⟨k, hk, by rw [← g2]; exact ek⟩
        · rw [g2, e2] at e1; exact absurd (congrArg Prod.fst e1) (by decide)
      obtain ⟨k, hk, ek⟩ := hp
      rw [← h.1.1, eL, clN_nI (by omega), hX, decide_eq_false (by rw [ek]; exact nI_pos (by omega)), Bool.false_or]
      by_cases h0 : w = 0
      · rw [if_pos h0, if_pos (decide_eq_true h0)]
      · rw [if_neg h0, if_neg (by rw [decide_eq_false h0]; decide)]
  · rw [if_neg hw, if_neg hw]
theorem B_watch {σ : St} (hI : Inv σ) {a0 : Int32} : ∃ (r : Int32) (σ1 σ2 : St), Ct MX7_watch [.ref 0, .int a0] σ (some (.int r)) σ1 ∧ Ct MX8_watch [.ref 42, .int a0] σ1 (some (.int r)) σ2 ∧ Inv σ2 := by
  have hx : (X_watch σ a0).2 = σ := by unfold X_watch; split <;> rfl
  have hy : (Y_watch σ a0).2 = σ := by unfold Y_watch; split <;> rfl
  have e1 := A_watch hI.1 a0
  refine ⟨(X_watch σ a0).1, σ, σ, ?_, ?_, hI⟩
  · have := t_X7_watch (σ := σ) (w := a0); rw [hx] at this; exact this
  · have := t_X8_watch (w := a0) (SI_main hI.1); rw [hy] at this; rw [e1]; exact this
