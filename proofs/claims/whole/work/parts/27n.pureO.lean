/-! coughs: the answer -/
theorem lN_div {a b : Nat} (ha : a < 2 ^ 31) (hb : b < 2 ^ 31) (h0 : 0 < b) : lN a / lN b = lN (a / b) := by
  refine Int64.toInt_inj.mp ?_
  have hq : a / b ≤ a := Nat.div_le_self a b
  rw [lg_ldiv_nonneg (by rw [pk_lT (by omega)]; omega) (by rw [pk_lT (by omega)]; omega), pk_lT (by omega), pk_lT (by omega), pk_lT (by omega)]
  exact (Int.natCast_ediv a b).symm
theorem gcd10 : ∀ r, r < 10 → Nat.gcd r 10 = (if r % 2 = 0 then 2 else 1) * (if r % 5 = 0 then 5 else 1) := by decide
theorem gcd_10 (u : Nat) : Nat.gcd u 10 = (if u % 2 = 0 then 2 else 1) * (if u % 5 = 0 then 5 else 1) := by
  rw [Nat.gcd_comm, Nat.gcd_rec, gcd10 (u % 10) (Nat.mod_lt _ (by decide)), show u % 10 % 2 = u % 2 by omega, show u % 10 % 5 = u % 5 by omega]
theorem ten_eq {u : Nat} (hu : u < 2 ^ 30) {p : Int32} : (X_ten (nI u) p).toInt64 = mkR u p := by
  have r2 : rem (nI u) 2 = nI (u % 2) := remN (d := 2) (by omega) (by decide) (by decide)
  have d2 : nI u / 2 = nI (u / 2) := pk_div (d := 2) (by omega) (by decide) (by decide)
  have r5 : ∀ v, v < 2 ^ 30 → rem (nI v) 5 = nI (v % 5) := fun v hv => remN (d := 5) (by omega) (by decide) (by decide)
  have d5 : ∀ v, v < 2 ^ 30 → nI v / 5 = nI (v / 5) := fun v hv => pk_div (d := 5) (by omega) (by decide) (by decide)
  have z : ∀ v, v < 2 ^ 30 → (nI v = 0 ↔ v = 0) := fun v hv => nI_eq (b := 0) (by omega) (by decide)
  have l10 : (10 : Int64) = lN 10 := rfl
  have i10 : (10 : Int32) = nI 10 := rfl
  have i5 : (10 : Int32) / 2 = nI 5 := by decide
  unfold X_ten mkR X_tu X_tl
  rw [r2, d2, gcd_10, i5, l10, i10]
  by_cases h2 : u % 2 = 0
  · rw [if_pos ((z _ (by omega)).mpr h2), if_pos h2, if_pos ((z _ (by omega)).mpr h2)]
    rw [r5 (u / 2) (by omega), d5 (u / 2) (by omega), d5 5 (by decide)]
    by_cases h5 : u % 5 = 0
    · have q5 : u / 2 % 5 = 0 := by omega
      rw [if_pos ((z _ (by omega)).mpr q5), if_pos ((z _ (by omega)).mpr q5), if_pos h5]
      by_cases hp : p = 0
      · rw [if_pos hp, if_pos hp, nI_l (by omega), lN_div (by omega) (by decide) (by decide), show u / 2 / 5 = u / (2 * 5) by omega]
      · rw [if_neg hp, if_neg hp, nI_l (by decide), lN_div (by decide) (by decide) (by decide)]
    · have q5 : ¬ u / 2 % 5 = 0 := by omega
      rw [if_neg (fun q => q5 ((z _ (by omega)).mp q)), if_neg (fun q => q5 ((z _ (by omega)).mp q)), if_neg h5]
      by_cases hp : p = 0
      · rw [if_pos hp, if_pos hp, nI_l (by omega), lN_div (by omega) (by decide) (by decide)]
      · rw [if_neg hp, if_neg hp, nI_l (by decide), lN_div (by decide) (by decide) (by decide)]
  · rw [if_neg (fun q => h2 ((z _ (by omega)).mp q)), if_neg h2, if_neg (fun q => h2 ((z _ (by omega)).mp q))]
    rw [r5 u hu, d5 u hu, d5 10 (by decide)]
    by_cases h5 : u % 5 = 0
    · rw [if_pos ((z _ (by omega)).mpr h5), if_pos ((z _ (by omega)).mpr h5), if_pos h5]
      by_cases hp : p = 0
      · rw [if_pos hp, if_pos hp, nI_l (by omega), lN_div (by omega) (by decide) (by decide)]
      · rw [if_neg hp, if_neg hp, nI_l (by decide), lN_div (by decide) (by decide) (by decide)]
    · rw [if_neg (fun q => h5 ((z _ (by omega)).mp q)), if_neg (fun q => h5 ((z _ (by omega)).mp q)), if_neg h5]
      by_cases hp : p = 0
      · rw [if_pos hp, if_pos hp, nI_l (by omega), lN_div (by omega) (by decide) (by decide), Nat.mul_one, Nat.div_one]
      · rw [if_neg hp, if_neg hp, nI_l (by decide), lN_div (by decide) (by decide) (by decide)]
theorem A_cou {σ μ : St} (h : Inv2 σ μ) (c t p : Int32) : ∃ u : Nat, u < 2 ^ 62 ∧ (wth c 0 2 = true → wth t 0 10 = true → (mkA μ c t).1 = lN u) ∧ (X_cou σ c t p).1 = (Y_cou μ u c t p).1 := by
  unfold X_cou Y_cou
  rw [isCo_wth]
  by_cases hc : wth c 0 2 = true
  · by_cases ht : wth t 0 10 = true
    · obtain ⟨T, hT, eT⟩ := (wth_0 (b := 10) (B := 10) rfl (by decide)).mp ht
      obtain ⟨F, hF, eF⟩ := h.1.2.2.2.2.1
      obtain ⟨C, hC, e1, e2⟩ := ch_all h (c := c) eF hF eT hT
      have hFT : F * T ≤ 99 * 10 := Nat.mul_le_mul hF hT
      have hu : F * T * C ≤ 99 * 10 * 180 := Nat.mul_le_mul hFT hC
      refine ⟨F * T * C, by omega, fun _ _ => e2, ?_⟩
      rw [if_pos hc, if_pos hc]
      split
      · dsimp only
        rw [e1, eF, eT, pk_mul, pk_mul]
        exact ten_eq (by omega)
      · rfl
    · refine ⟨0, by decide, fun _ q => absurd q ht, ?_⟩
      rw [if_pos hc, if_pos hc]
      have : (wth t 0 10 && wth p 0 1) = false := by
        cases hq : wth t 0 10 with
        | true => exact absurd hq ht
        | false => rfl
      rw [this, if_neg (by decide), if_neg (by decide)]
  · refine ⟨0, by decide, fun q => absurd q hc, ?_⟩
    rw [if_neg hc, if_neg hc]
theorem SX_cou (σ : St) (c t p : Int32) : SameX σ (X_cou σ c t p).2 := by
  unfold X_cou; split
  · split
    · exact sx_tr (sx_copy σ) (sx_itr2 (fun n a => sx_pas a.2) _ (0, tcopy σ 7 1))
    · exact sx_rf σ
  · exact sx_rf σ
theorem SY_cou (μ : St) (u : Nat) (c t p : Int32) : SameY μ (Y_cou μ u c t p).2 := by
  unfold Y_cou; split
  · split
    · exact sy_tr (sy_now μ) (sy_itr2 (fun n a => sy_pas a.2) _ (0, mNow μ))
    · exact sy_rf μ
  · exact sy_rf μ
/-! the calls that only tell -/
theorem B_holds {σ : St} (hI : Inv σ) {a0 : Int32} : ∃ (r : Int32) (σ1 σ2 : St), Ct MX7_holds [.ref 0, .int a0] σ (some (.int r)) σ1 ∧ Ct MX8_holds [.ref 42, .int a0] σ1 (some (.int r)) σ2 ∧ Inv σ2 := by
  have e1 := A_holds (mid_read hI (SX_holds σ a0)) a0
  refine ⟨_, _, _, t_X7_holds, ?_, inv_read hI (SX_holds σ a0) (SY_holds _ a0)⟩
  rw [e1]; exact t_X8_holds
theorem B_hears {σ : St} (hI : Inv σ) {a0 : Int32} : ∃ (r : Int32) (σ1 σ2 : St), Ct MX7_hears [.ref 0, .int a0] σ (some (.int r)) σ1 ∧ Ct MX8_hears [.ref 42, .int a0] σ1 (some (.int r)) σ2 ∧ Inv σ2 := by
  have e1 := A_hears (mid_read hI (SX_hears σ a0)) a0
  refine ⟨_, _, _, t_X7_hears, ?_, inv_read hI (SX_hears σ a0) (SY_hears _ a0)⟩
  rw [e1]; exact t_X8_hears
theorem B_forecast {σ : St} (hI : Inv σ) {a0 a1 : Int32} : ∃ (r : Int32) (σ1 σ2 : St), Ct MX7_forecast [.ref 0, .int a0, .int a1] σ (some (.int r)) σ1 ∧ Ct MX8_forecast [.ref 42, .int a0, .int a1] σ1 (some (.int r)) σ2 ∧ Inv σ2 := by
  have e1 := A_fore (mid_read hI (SX_fore σ a0 a1)) a0 a1
  refine ⟨_, _, _, t_X7_forecast, ?_, inv_read hI (SX_fore σ a0 a1) (SY_fore _ a0 a1)⟩
  rw [e1]; exact t_X8_forecast
theorem B_rests {σ : St} (hI : Inv σ) {a0 : Int32} : ∃ (r : Int32) (σ1 σ2 : St), Ct MX7_rests [.ref 0, .int a0] σ (some (.int r)) σ1 ∧ Ct MX8_rests [.ref 42, .int a0] σ1 (some (.int r)) σ2 ∧ Inv σ2 := by
  have e1 := A_rests (mid_read hI (SX_rests σ a0)) a0
  refine ⟨_, _, _, t_X7_rests, ?_, inv_read hI (SX_rests σ a0) (SY_rests _ a0)⟩
  rw [e1]; exact t_X8_rests
theorem B_talks {σ : St} (hI : Inv σ) {a0 a1 : Int32} : ∃ (r : Int32) (σ1 σ2 : St), Ct MX7_talks [.ref 0, .int a0, .int a1] σ (some (.int r)) σ1 ∧ Ct MX8_talks [.ref 42, .int a0, .int a1] σ1 (some (.int r)) σ2 ∧ Inv σ2 := by
  have e1 := A_talks (mid_read hI (SX_talks σ a0 a1)) a0 a1
  refine ⟨_, _, _, t_X7_talks, ?_, inv_read hI (SX_talks σ a0 a1) (SY_talks _ a0 a1)⟩
  rw [e1]; exact t_X8_talks
theorem B_buy {σ : St} (hI : Inv σ) {a0 a1 : Int32} : ∃ (r : Int32) (σ1 σ2 : St), Ct MX7_buy [.ref 0, .int a0, .int a1] σ (some (.int r)) σ1 ∧ Ct MX8_buy [.ref 42, .int a0, .int a1] σ1 (some (.int r)) σ2 ∧ Inv σ2 := by
  have e1 := A_buy (mid_read hI (SX_buy σ a0 a1)) a0 a1
  refine ⟨_, _, _, t_X7_buy, ?_, inv_read hI (SX_buy σ a0 a1) (SY_buy _ a0 a1)⟩
  rw [e1]; exact t_X8_buy
theorem B_richest {σ : St} (hI : Inv σ) {a0 : Int32} : ∃ (r : Int32) (σ1 σ2 : St), Ct MX7_richest [.ref 0, .int a0] σ (some (.int r)) σ1 ∧ Ct MX8_richest [.ref 42, .int a0] σ1 (some (.int r)) σ2 ∧ Inv σ2 := by
  have e1 := A_rich (mid_read hI (SX_rich σ a0)) a0
  refine ⟨_, _, _, t_X7_richest, ?_, inv_read hI (SX_rich σ a0) (SY_rich _ a0)⟩
  rw [e1]; exact t_X8_richest
theorem B_year {σ : St} (hI : Inv σ) {a0 a1 a2 : Int32} : ∃ (r : Int32) (σ1 σ2 : St), Ct MX7_year [.ref 0, .int a0, .int a1, .int a2] σ (some (.int r)) σ1 ∧ Ct MX8_year [.ref 42, .int a0, .int a1, .int a2] σ1 (some (.int r)) σ2 ∧ Inv σ2 := by
  have e1 := A_year (mid_read hI (SX_year σ a0 a1 a2)) a0 a1 a2
  refine ⟨_, _, _, t_X7_year, ?_, inv_read hI (SX_year σ a0 a1 a2) (SY_year _ a0 a1 a2)⟩
  rw [e1]; exact t_X8_year
theorem B_judge {σ : St} (hI : Inv σ) {a0 : Int32} : ∃ (r : Int32) (σ1 σ2 : St), Ct MX7_judge [.ref 0, .int a0] σ (some (.int r)) σ1 ∧ Ct MX8_judge [.ref 42, .int a0] σ1 (some (.int r)) σ2 ∧ Inv σ2 := by
  obtain ⟨N, hN, p1, p2, p3⟩ := (mid_read hI (SX_judge σ a0)).2.1
  have e1 := A_judge (mid_read hI (SX_judge σ a0)) a0
  refine ⟨_, _, _, t_X7_judge, ?_, inv_read hI (SX_judge σ a0) (SY_judge _ a0)⟩
  rw [e1]; exact t_X8_judge p2 hN
theorem B_behind {σ : St} (hI : Inv σ) {a0 : Int32} : ∃ (r : Int32) (σ1 σ2 : St), Ct MX7_behind [.ref 0, .int a0] σ (some (.int r)) σ1 ∧ Ct MX8_behind [.ref 42, .int a0] σ1 (some (.int r)) σ2 ∧ Inv σ2 := by
  obtain ⟨N, hN, p1, p2, p3⟩ := (mid_read hI (SX_beh σ a0)).2.1
  have e1 := A_beh (mid_read hI (SX_beh σ a0)) a0
  refine ⟨_, _, _, t_X7_behind, ?_, inv_read hI (SX_beh σ a0) (SY_beh _ a0)⟩
  rw [e1]; exact t_X8_behind p2 hN
theorem B_auction {σ : St} (hI : Inv σ) {a0 a1 a2 : Int32} : ∃ (r : Int32) (σ1 σ2 : St), Ct MX7_auction [.ref 0, .int a0, .int a1, .int a2] σ (some (.int r)) σ1 ∧ Ct MX8_auction [.ref 42, .int a0, .int a1, .int a2] σ1 (some (.int r)) σ2 ∧ Inv σ2 := by
  have e1 := A_auc σ (X_auc σ a0 a1 a2).2 a0 a1 a2
  refine ⟨_, _, _, t_X7_auction, ?_, inv_read hI (SX_auc σ a0 a1 a2) (SY_auc _ a0 a1 a2)⟩
  rw [e1]; exact t_X8_auction
theorem B_fault {σ : St} (hI : Inv σ) : ∃ (r : Int32) (σ1 σ2 : St), Ct MX7_fault [.ref 0] σ (some (.int r)) σ1 ∧ Ct MX8_fault [.ref 42] σ1 (some (.int r)) σ2 ∧ Inv σ2 := by
  obtain ⟨N, hN, p1, p2, p3⟩ := hI.2.1
  have e1 := A_fault hI
  refine ⟨_, _, _, t_X7_fault, ?_, hI⟩
  rw [e1]; exact t_X8_fault (by show clN (σ 42 12) ≤ 60; rw [p2, clN_nI (by omega)]; exact hN)
theorem B_done {σ : St} (hI : Inv σ) : ∃ (r : Int32) (σ1 σ2 : St), Ct MX7_done [.ref 0] σ (some (.int r)) σ1 ∧ Ct MX8_done [.ref 42] σ1 (some (.int r)) σ2 ∧ Inv σ2 := by
  obtain ⟨N, hN, p1, p2, p3⟩ := (inv_mid hI (FX_done σ)).2.1
  obtain ⟨e1, e2⟩ := E_done (inv_mid hI (FX_done σ))
  refine ⟨_, _, _, t_X7_done, ?_, inv_end e2 (FY_done _)⟩
  rw [e1]; exact t_X8_done p2 hN
theorem B_coughs {σ : St} (hI : Inv σ) {a0 a1 a2 : Int32} : ∃ (r : Int64) (σ1 σ2 : St), Ct MX7_coughs [.ref 0, .int a0, .int a1, .int a2] σ (some (.long r)) σ1 ∧ Ct MX8_coughs [.ref 42, .int a0, .int a1, .int a2] σ1 (some (.long r)) σ2 ∧ Inv σ2 := by
  obtain ⟨u, h1, h2, h3⟩ := A_cou (mid_read hI (SX_cou σ a0 a1 a2)) a0 a1 a2
  refine ⟨_, _, _, t_X7_coughs, ?_, inv_read hI (SX_cou σ a0 a1 a2) (SY_cou _ u a0 a1 a2)⟩
  rw [h3]; exact t_X8_coughs h2 h1
