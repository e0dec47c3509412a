/-! who hums -/
theorem cN_exB (P : Nat → Bool) : ∀ n, decide (0 < cN P n) = exB P n
  | 0 => rfl
  | n + 1 => by
    have e1 : cN P (n + 1) = cN P n + (if P n then 1 else 0) := rfl
    have e2 : exB P (n + 1) = (exB P n || P n) := rfl
    rw [e1, e2, ← cN_exB P n]
    cases P n
    · simp
    · simp
theorem itr_exB (P : Nat → Bool) : ∀ n, itr (fun n b => b || P n) n false = exB P n
  | 0 => rfl
  | n + 1 => by
    have e1 : itr (fun n b => b || P n) (n + 1) false = (itr (fun n b => b || P n) n false || P n) := rfl
    have e2 : exB P (n + 1) = (exB P n || P n) := rfl
    rw [e1, e2, itr_exB P n]
theorem rd_main {σ μ : St} (h : Main σ μ) {n : Nat} (hn : n < 6) (m : Int32) : trd σ 1 (nI n) m = mrd μ (nI n) m := by
  unfold trd
  refine rd_mrd (isTr_nI hn) ?_ ?_ h.1.1 m
  · rw [ix_nI (by omega)]; exact (h.2.1 n hn).1
  · rw [ix_nI (by omega)]; exact (h.2.1 n hn).2.1
theorem at_eq {σ μ : St} (h : Main σ μ) {n : Nat} (hn : n < 6) : decide (0 < tminOf σ 1 (nI n)) = mAt μ (nI n) := by
  obtain ⟨L, M, hL, hL2, hML, eL, eM⟩ := h.2.2.2.1
  unfold tminOf mAt
  rw [itr_exB, ← h.1.1, eL, clN_nI (by omega), cntB_cN]
  have hle := cN_le (fun k => trd σ 1 (nI n) (nI k)) L
  have e : decide ((0 : Int32) < nI (cN (fun k => trd σ 1 (nI n) (nI k)) L)) = decide (0 < cN (fun k => trd σ 1 (nI n) (nI k)) L) := decide_eq_decide.mpr (nI_ltI (a := 0) (by decide) (by omega))
  rw [e, cN_exB]
  exact exB_congr (fun k _ => rd_main h hn _)
theorem b_tcomp {σ μ : St} (h : Main σ μ) {t : Nat} (ht : t < 6) (m : Int32) {i : Nat} (hi : i < 32) : bt (tcomp σ 1 (nI t) m) i = (decide (i < 6) && (!decide (t = i) && (mrd μ (nI i) m && (mrd μ (nI t) m && decide (μ 45 i = μ 45 t))))) := by
  unfold tcomp
  rw [isTr_nI ht, Bool.true_and, rd_main h ht, ix_nI (by omega), show (1 : Nat) + 3 = 4 from rfl, show σ 4 t = μ 45 t from (h.2.1 t ht).2.2.1]
  cases hr : mrd μ (nI t) m with
  | false => rw [if_neg (by decide), b_0]; simp
  | true =>
    rw [if_pos rfl, b_and, b_xor, b_one (by omega) hi, b_m1 i hi]
    unfold trdo
    rw [b_setB _ 6 (by decide) i hi]
    by_cases h6 : i < 6
    · rw [decide_eq_true h6, Bool.true_and, Bool.true_and]
      unfold tri
      rw [rd_main h h6, ix_nI (by omega), show (1 : Nat) + 3 = 4 from rfl, show σ 4 i = μ 45 i from (h.2.1 i h6).2.2.1]
      have ed : decide (i = t) = decide (t = i) := decide_eq_decide.mpr ⟨Eq.symm, Eq.symm⟩
      rw [ed]
      cases decide (t = i) <;> simp
    · rw [decide_eq_false h6]; simp
theorem hum_eq {σ μ : St} (h : Main σ μ) : gSus σ = mHum μ := by
  obtain ⟨⟨c1, c2, c3, c4, c5, c6⟩, ca, cs, ⟨rL, rF, ⟨S, hS, eS⟩, r4, r5, r6⟩⟩ := id h
  have eY : mHum μ = setB (muB μ) 6 := by unfold mHum; rw [← orB_setB]; rfl
  have hN : gNum σ = S := by unfold gNum; rw [eS, clN_nI (by omega)]; omega
  have hN2 : clN (μ 42 10) = S := by rw [← c6, eS]; exact clN_nI (by omega)
  rw [eY]
  refine b_ext (fun i hi => ?_)
  rw [b_setB _ 6 (by decide) i hi]
  unfold gSus
  rw [hN]
  have key : ∀ n, n ≤ S → bt (itr (fun n a => a &&& tcomp σ 1 (σ 18 n) (σ 17 n)) n (trol σ 1)) i = (decide (i < 6) && itr (muI μ i) n (mAt μ (nI i))) := by
    intro n
    induction n with
    | zero =>
      intro _
      show bt (trol σ 1) i = (decide (i < 6) && mAt μ (nI i))
      unfold trol
      rw [b_setB _ 6 (by decide) i hi]
      by_cases h6 : i < 6
      · rw [at_eq h h6]
      · rw [decide_eq_false h6, Bool.false_and, Bool.false_and]
    | succ n ih =>
      intro hn
      have x1 : itr (fun n a => a &&& tcomp σ 1 (σ 18 n) (σ 17 n)) (n + 1) (trol σ 1) = itr (fun n a => a &&& tcomp σ 1 (σ 18 n) (σ 17 n)) n (trol σ 1) &&& tcomp σ 1 (σ 18 n) (σ 17 n) := rfl
      have x2 : itr (muI μ i) (n + 1) (mAt μ (nI i)) = muI μ i n (itr (muI μ i) n (mAt μ (nI i))) := rfl
      obtain ⟨t, ht, et⟩ := r6 n (by omega)
      have e18 : μ 48 (2 * n + 1) = nI t := by rw [← (cs n (by omega)).2]; exact et
      have e17 : σ 17 n = μ 48 (2 * n) := (cs n (by omega)).1
      have et : σ 18 n = nI t := et
      rw [x1, x2, b_and, ih (by omega), et, b_tcomp h ht _ hi, e17]
      generalize itr (muI μ i) n (mAt μ (nI i)) = b
      unfold muI
      rw [(sg_ix n (by omega)).1, (sg_ix n (by omega)).2, e18, ix_nI (by omega)]
      by_cases h6 : i < 6
      · have ed : decide (nI t = nI i) = decide (t = i) := decide_eq_decide.mpr (nI_eq (by omega) (by omega))
        rw [decide_eq_true h6, ed]; simp
      · rw [decide_eq_false h6]; simp
  rw [key S (Nat.le_refl S)]
  unfold muB
  rw [hN2]
theorem SI_main {σ μ : St} (h : Main σ μ) : SI μ := by
  obtain ⟨⟨c1, c2, c3, c4, c5, c6⟩, ca, cs, ⟨rL, rF, ⟨S, hS, eS⟩, r4, r5, r6⟩⟩ := id h
  have hN2 : clN (μ 42 10) = S := by rw [← c6, eS]; exact clN_nI (by omega)
  refine ⟨by rw [hN2]; exact hS, fun i hi => ?_⟩
  rw [hN2] at hi
  obtain ⟨t, ht, et⟩ := r6 i (by omega)
  rw [← (cs i (by omega)).2, et]
  exact vp_in_nI ht (by decide)
theorem B_hum {σ : St} (hI : Inv σ) : ∃ (r : Int32) (σ1 σ2 : St), Ct MX7_hum [.ref 0] σ (some (.int r)) σ1 ∧ Ct MX8_hum [.ref 42] σ1 (some (.int r)) σ2 ∧ Inv σ2 := by
  have e1 : (X_hum σ).1 = (Y_hum σ).1 := hum_eq hI.1
  refine ⟨_, _, _, t_X7_hum, ?_, hI⟩
  rw [e1]; exact t_X8_hum (SI_main hI.1)
