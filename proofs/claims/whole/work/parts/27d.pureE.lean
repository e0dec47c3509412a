/-! frames, and the calls -/
theorem FX_line (σ : St) (a0 : Int32) : ∀ q, 42 ≤ q → (X_line σ a0).2 q = σ q := by
  intro q hq; unfold X_line; repeat' split
  all_goals try dsimp only
  all_goals repeat rw [ups_other (by omega)]
theorem FY_line (σ : St) (a0 : Int32) : ∀ q, q < 42 → (Y_line σ a0).2 q = σ q := by
  intro q hq; unfold Y_line; repeat' split
  all_goals try dsimp only
  all_goals repeat rw [ups_other (by omega)]
theorem B_line {σ : St} (hI : Inv σ) {a0 : Int32} : ∃ (r : Int32) (σ1 σ2 : St), Ct MX7_line [.ref 0, .int a0] σ (some (.int r)) σ1 ∧ Ct MX8_line [.ref 42, .int a0] σ1 (some (.int r)) σ2 ∧ Inv σ2 := by
  obtain ⟨e1, e2⟩ := E_line (inv_mid hI (FX_line σ a0)) a0
  refine ⟨_, _, _, t_X7_line, ?_, inv_end e2 (FY_line _ a0)⟩
  rw [e1]; exact t_X8_line
theorem FX_fine (σ : St) (a0 : Int32) : ∀ q, 42 ≤ q → (X_fine σ a0).2 q = σ q := by
  intro q hq; unfold X_fine; repeat' split
  all_goals try dsimp only
  all_goals repeat rw [ups_other (by omega)]
theorem FY_fine (σ : St) (a0 : Int32) : ∀ q, q < 42 → (Y_fine σ a0).2 q = σ q := by
  intro q hq; unfold Y_fine; repeat' split
  all_goals try dsimp only
  all_goals repeat rw [ups_other (by omega)]
theorem B_fine {σ : St} (hI : Inv σ) {a0 : Int32} : ∃ (r : Int32) (σ1 σ2 : St), Ct MX7_fine [.ref 0, .int a0] σ (some (.int r)) σ1 ∧ Ct MX8_fine [.ref 42, .int a0] σ1 (some (.int r)) σ2 ∧ Inv σ2 := by
  obtain ⟨e1, e2⟩ := E_fine (inv_mid hI (FX_fine σ a0)) a0
  refine ⟨_, _, _, t_X7_fine, ?_, inv_end e2 (FY_fine _ a0)⟩
  rw [e1]; exact t_X8_fine
theorem FX_seat (σ : St) (a0 a1 : Int32) : ∀ q, 42 ≤ q → (X_seat σ a0 a1).2 q = σ q := by
  intro q hq; unfold X_seat; repeat' split
  all_goals try dsimp only
  all_goals repeat rw [ups_other (by omega)]
theorem FY_seat (σ : St) (a0 a1 : Int32) : ∀ q, q < 42 → (Y_seat σ a0 a1).2 q = σ q := by
  intro q hq; unfold Y_seat; repeat' split
  all_goals try dsimp only
  all_goals repeat rw [ups_other (by omega)]
theorem B_seat {σ : St} (hI : Inv σ) {a0 a1 : Int32} : ∃ (r : Int32) (σ1 σ2 : St), Ct MX7_seat [.ref 0, .int a0, .int a1] σ (some (.int r)) σ1 ∧ Ct MX8_seat [.ref 42, .int a0, .int a1] σ1 (some (.int r)) σ2 ∧ Inv σ2 := by
  obtain ⟨e1, e2⟩ := E_seat (inv_mid hI (FX_seat σ a0 a1)) a0 a1
  refine ⟨_, _, _, t_X7_seat, ?_, inv_end e2 (FY_seat _ a0 a1)⟩
  rw [e1]; exact t_X8_seat
theorem FX_purse (σ : St) (a0 a1 : Int32) : ∀ q, 42 ≤ q → (X_purse σ a0 a1).2 q = σ q := by
  intro q hq; unfold X_purse; repeat' split
  all_goals try dsimp only
  all_goals repeat rw [ups_other (by omega)]
theorem FY_purse (σ : St) (a0 a1 : Int32) : ∀ q, q < 42 → (Y_purse σ a0 a1).2 q = σ q := by
  intro q hq; unfold Y_purse; repeat' split
  all_goals try dsimp only
  all_goals repeat rw [ups_other (by omega)]
theorem B_purse {σ : St} (hI : Inv σ) {a0 a1 : Int32} : ∃ (r : Int32) (σ1 σ2 : St), Ct MX7_purse [.ref 0, .int a0, .int a1] σ (some (.int r)) σ1 ∧ Ct MX8_purse [.ref 42, .int a0, .int a1] σ1 (some (.int r)) σ2 ∧ Inv σ2 := by
  obtain ⟨e1, e2⟩ := E_purse (inv_mid hI (FX_purse σ a0 a1)) a0 a1
  refine ⟨_, _, _, t_X7_purse, ?_, inv_end e2 (FY_purse _ a0 a1)⟩
  rw [e1]; exact t_X8_purse
theorem FX_tun (σ : St) (a0 a1 : Int32) : ∀ q, 42 ≤ q → (X_tun σ a0 a1).2 q = σ q := by
  intro q hq; unfold X_tun X_tunS; repeat' split
  all_goals try dsimp only
  all_goals repeat rw [ups_other (by omega)]
theorem FY_tun (σ : St) (a0 a1 : Int32) : ∀ q, q < 42 → (Y_tun σ a0 a1).2 q = σ q := by
  intro q hq; unfold Y_tun Y_tun2 Y_tun1; repeat' split
  all_goals try dsimp only
  all_goals repeat rw [ups_other (by omega)]
theorem B_tunnel {σ : St} (hI : Inv σ) {a0 a1 : Int32} (hb : a1 = 0 ∨ a1 = 1) : ∃ (r : Int32) (σ1 σ2 : St), Ct MX7_tunnel [.ref 0, .int a0, .int a1] σ (some (.int r)) σ1 ∧ Ct MX8_tunnel [.ref 42, .int a0, .int a1] σ1 (some (.int r)) σ2 ∧ Inv σ2 := by
  obtain ⟨e1, e2⟩ := E_tun (inv_mid hI (FX_tun σ a0 a1)) a0 a1
  refine ⟨_, _, _, t_X7_tunnel, ?_, inv_end e2 (FY_tun _ a0 a1)⟩
  rw [e1]; exact t_X8_tunnel
theorem FX_ride (σ : St) (a0 a1 a2 : Int32) : ∀ q, 42 ≤ q → (X_ride σ a0 a1 a2).2 q = σ q := by
  intro q hq; unfold X_ride tsetR; repeat' split
  all_goals try dsimp only
  all_goals repeat rw [ups_other (by omega)]
theorem FY_ride (σ : St) (a0 a1 a2 : Int32) : ∀ q, q < 42 → (Y_ride σ a0 a1 a2).2 q = σ q := by
  intro q hq; unfold Y_ride Y_rdS; repeat' split
  all_goals try dsimp only
  all_goals repeat rw [ups_other (by omega)]
theorem B_ride {σ : St} (hI : Inv σ) {a0 a1 a2 : Int32} : ∃ (r : Int32) (σ1 σ2 : St), Ct MX7_ride [.ref 0, .int a0, .int a1, .int a2] σ (some (.int r)) σ1 ∧ Ct MX8_ride [.ref 42, .int a0, .int a1, .int a2] σ1 (some (.int r)) σ2 ∧ Inv σ2 := by
  obtain ⟨e1, e2⟩ := E_ride (inv_mid hI (FX_ride σ a0 a1 a2)) a0 a1 a2
  refine ⟨_, _, _, t_X7_ride, ?_, inv_end e2 (FY_ride _ a0 a1 a2)⟩
  rw [e1]; exact t_X8_ride
theorem FX_say (σ : St) (a0 : Int32) : ∀ q, 42 ≤ q → (X_say σ a0).2 q = σ q := by
  intro q hq; unfold X_say X_sayS pWr; repeat' split
  all_goals try dsimp only
  all_goals repeat rw [ups_other (by omega)]
theorem FY_say (σ : St) (a0 : Int32) : ∀ q, q < 42 → (Y_say σ a0).2 q = σ q := by
  intro q hq; unfold Y_say Y_say2 Y_say1; repeat' split
  all_goals try dsimp only
  all_goals repeat rw [ups_other (by omega)]
theorem B_say {σ : St} (hI : Inv σ) {a0 : Int32} : ∃ (r : Int32) (σ1 σ2 : St), Ct MX7_say [.ref 0, .int a0] σ (some (.int r)) σ1 ∧ Ct MX8_say [.ref 42, .int a0] σ1 (some (.int r)) σ2 ∧ Inv σ2 := by
  obtain ⟨N, hN, p1, p2, p3⟩ := (inv_mid hI (FX_say σ a0)).2.1
  obtain ⟨e1, e2⟩ := E_say (inv_mid hI (FX_say σ a0)) a0
  refine ⟨_, _, _, t_X7_say, ?_, inv_end e2 (FY_say _ a0)⟩
  rw [e1]; exact t_X8_say p2 hN
theorem FX_wipe (σ : St) : ∀ q, 42 ≤ q → (X_wipe σ ).2 q = σ q := by
  intro q hq; unfold X_wipe; repeat' split
  all_goals try dsimp only
  all_goals repeat rw [ups_other (by omega)]
theorem FY_wipe (σ : St) : ∀ q, q < 42 → (Y_wipe σ ).2 q = σ q := by
  intro q hq; unfold Y_wipe; repeat' split
  all_goals try dsimp only
  all_goals repeat rw [ups_other (by omega)]
theorem B_wipe {σ : St} (hI : Inv σ) : ∃ (r : Int32) (σ1 σ2 : St), Ct MX7_wipe [.ref 0] σ (some (.int r)) σ1 ∧ Ct MX8_wipe [.ref 42] σ1 (some (.int r)) σ2 ∧ Inv σ2 := by
  obtain ⟨e1, e2⟩ := E_wipe (inv_mid hI (FX_wipe σ )) 
  refine ⟨_, _, _, t_X7_wipe, ?_, inv_end e2 (FY_wipe _ )⟩
  rw [e1]; exact t_X8_wipe
theorem FX_seen (σ : St) (a0 a1 : Int32) : ∀ q, 42 ≤ q → (X_seen σ a0 a1).2 q = σ q := by
  intro q hq; unfold X_seen X_seenS gAdd gAdd2 gAdd1; repeat' split
  all_goals try dsimp only
  all_goals repeat rw [ups_other (by omega)]
theorem FY_seen (σ : St) (a0 a1 : Int32) : ∀ q, q < 42 → (Y_seen σ a0 a1).2 q = σ q := by
  intro q hq; unfold Y_seen ms3 ms2 ms1; repeat' split
  all_goals try dsimp only
  all_goals repeat rw [ups_other (by omega)]
theorem B_seen {σ : St} (hI : Inv σ) {a0 a1 : Int32} : ∃ (r : Int32) (σ1 σ2 : St), Ct MX7_seen [.ref 0, .int a0, .int a1] σ (some (.int r)) σ1 ∧ Ct MX8_seen [.ref 42, .int a0, .int a1] σ1 (some (.int r)) σ2 ∧ Inv σ2 := by
  obtain ⟨⟨c1, c2, c3, c4, c5, c6⟩, ca, cs, rL, rF, ⟨S, hS, eS⟩, rX⟩ := (inv_mid hI (FX_seen σ a0 a1)).1
  obtain ⟨e1, e2⟩ := E_seen (inv_mid hI (FX_seen σ a0 a1)) a0 a1
  refine ⟨_, _, _, t_X7_seen, ?_, inv_end e2 (FY_seen _ a0 a1)⟩
  rw [e1]; exact t_X8_seen (c6.symm.trans eS) hS
theorem FX_forg (σ : St) : ∀ q, 42 ≤ q → (X_forg σ ).2 q = σ q := by
  intro q hq; unfold X_forg; repeat' split
  all_goals try dsimp only
  all_goals repeat rw [ups_other (by omega)]
theorem FY_forg (σ : St) : ∀ q, q < 42 → (Y_forg σ ).2 q = σ q := by
  intro q hq; unfold Y_forg; repeat' split
  all_goals try dsimp only
  all_goals repeat rw [ups_other (by omega)]
theorem B_forget {σ : St} (hI : Inv σ) : ∃ (r : Int32) (σ1 σ2 : St), Ct MX7_forget [.ref 0] σ (some (.int r)) σ1 ∧ Ct MX8_forget [.ref 42] σ1 (some (.int r)) σ2 ∧ Inv σ2 := by
  obtain ⟨e1, e2⟩ := E_forg (inv_mid hI (FX_forg σ )) 
  refine ⟨_, _, _, t_X7_forget, ?_, inv_end e2 (FY_forg _ )⟩
  rw [e1]; exact t_X8_forget
theorem FX_told (σ : St) (a0 : Int32) : ∀ q, 42 ≤ q → (X_told σ a0).2 q = σ q := by
  intro q hq; unfold X_told; repeat' split
  all_goals try dsimp only
  all_goals repeat rw [ups_other (by omega)]
theorem FY_told (σ : St) (a0 : Int32) : ∀ q, q < 42 → (Y_told σ a0).2 q = σ q := by
  intro q hq; unfold Y_told; repeat' split
  all_goals try dsimp only
  all_goals repeat rw [ups_other (by omega)]
theorem B_told {σ : St} (hI : Inv σ) {a0 : Int32} : ∃ (r : Int32) (σ1 σ2 : St), Ct MX7_told [.ref 0, .int a0] σ (some (.int r)) σ1 ∧ Ct MX8_told [.ref 42, .int a0] σ1 (some (.int r)) σ2 ∧ Inv σ2 := by
  obtain ⟨e1, e2⟩ := E_told (inv_mid hI (FX_told σ a0)) a0
  refine ⟨_, _, _, t_X7_told, ?_, inv_end e2 (FY_told _ a0)⟩
  rw [e1]; exact t_X8_told
