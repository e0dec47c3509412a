/-! the whole pad -/
theorem taS_15 (σ : St) (x : Int32) : taS σ x 15 = σ 15 := by
  unfold taS; split
  · exact tpas_ne σ 7 (by decide) (by decide)
  · split
    · exact tsetB_ne σ 7 _ _ (by decide)
    · split
      · split
        · rfl
        · split
          · exact tcou_ne σ 7 _ (by decide) (by decide)
          · rfl
      · rfl
theorem pLen_congr {σ σ' : St} (h1 : σ' 13 = σ 13) (h2 : σ' 14 = σ 14) (x : Int32) : pLen σ' x = pLen σ x := by
  unfold pLen pDig pSign; rw [h1, h2]
theorem tr_all : ∀ (n j : Nat) (σ τ : St) (N : Nat), TR σ τ N j → j ≤ N → mW (τ 49) j = 0 → N - j ≤ n →
    (trGo n (nI j) σ 15 1 = -6 ∧ (mgGo (n + 1) j τ).1 = -6 ∧ RF (trGo n (nI j) σ) (mgGo (n + 1) j τ).2 ∧ trGo n (nI j) σ 15 0 = (mgGo (n + 1) j τ).2 42 22) ∨
    (¬ trGo n (nI j) σ 15 1 = -6 ∧ ¬ (mgGo (n + 1) j τ).1 < 0 ∧ trGo n (nI j) σ 15 0 = (mgGo (n + 1) j τ).1 ∧ trGo n (nI j) σ 15 1 = (mgGo (n + 1) j τ).2 42 21)
  | n, j, σ, τ, N, h, hj, hw, hn => by
    obtain ⟨hr, p1, p2, p3, h6, hPO, hv, k, hk, k1, k2⟩ := id h
    by_cases hlt : j < N
    · obtain ⟨n', rfl⟩ : ∃ n', n = n' + 1 := ⟨n - 1, by omega⟩
      have hx : nI j < σ 13 1 := by rw [p1]; exact nI_lt hlt (by omega)
      have hy : nI j < τ 42 12 := by rw [p2]; exact nI_lt hlt (by omega)
      have sx := sx_taS σ (nI j)
      have e15 := taS_15 σ (nI j)
      have t1 : tr1 σ (nI j) 15 1 = taR σ (nI j) := by unfold tr1; rw [ups_s]
      have t10 : tr1 σ (nI j) 15 0 = nI k := by unfold tr1; rw [ups_j (by decide), e15, k1]
      have y22 : mgS τ j 42 22 = nI k := by rw [mgS_42 τ j (by decide) (by decide) (by decide) (by decide), k2]
      rcases tr_step h hlt hw with ⟨a1, a2, a3, a4, a5, a6, a7⟩ | ⟨a1, a2, a3⟩
      · have e2 : mgGo (n' + 1 + 1) j τ = mgGo (n' + 1) (j + mgL τ j) (mgN τ j) := mgGo_on hy a2
        have s13 : tr2 σ (nI j) 13 = σ 13 := by
          unfold tr2 tr1; rw [ups_other (by decide), ups_other (by decide)]; exact sx 13 (by decide) (by decide) (by decide)
        have s14 : tr2 σ (nI j) 14 = σ 14 := by
          unfold tr2 tr1; rw [ups_other (by decide), ups_other (by decide)]; exact sx 14 (by decide) (by decide) (by decide)
        have m49 : mgN τ j 49 = τ 49 := by unfold mgN; rw [ups_other (by decide), mgS_49]
        have m12 : mgN τ j 42 12 = τ 42 12 := by unfold mgN; rw [ups_j (by decide), mgS_12]
        have e1 : trGo (n' + 1) (nI j) σ = trGo n' (nI (j + mgL τ j)) (tr2 σ (nI j)) := by
          rw [trGo, if_pos hx, if_pos (t1.trans a1), pLen_congr s13 s14, a7, nI_add]
        rw [e1, e2]
        refine tr_all n' (j + mgL τ j) (tr2 σ (nI j)) (mgN τ j) N ⟨?_, ?_, ?_, ?_, h6, ?_, ?_, k + 1, by omega, ?_, ?_⟩ a5 (by rw [m49]; exact a4) (by omega)
        · unfold tr2 tr1 mgN
          exact rf_42 (rf_15 (rf_15 a3 _ _) _ _) (Or.inr rfl) _
        · rw [s13, p1]
        · rw [m12, p2]
        · rw [s14, m49]; exact p3
        · rw [m49]; exact hPO
        · unfold tr2; rw [ups_j (by decide), t1, a1]
        · unfold tr2; rw [ups_s, t10, nI_1]
        · unfold mgN; rw [ups_s, y22, nI_1]
      · right
        have e2 : mgGo (n' + 1 + 1) j τ = (mgS τ j 42 22, mgS τ j) := mgGo_hit hy a2
        have e1 : trGo (n' + 1) (nI j) σ = tr1 σ (nI j) := by
          rw [trGo, if_pos hx, if_neg (by rw [t1]; exact a1)]
        rw [e1, e2, t1, t10]
        dsimp only
        rw [y22]
        exact ⟨a1, nI_pos (by omega), rfl, a3⟩
    · left
      have eN : j = N := by omega
      have hx : ¬ nI j < σ 13 1 := by rw [p1, eN]; exact nI_nlt (Nat.le_refl N) (by omega)
      have hy : ¬ nI j < τ 42 12 := by rw [p2, eN]; exact nI_nlt (Nat.le_refl N) (by omega)
      have e2 : mgGo (n + 1) j τ = (-6, τ) := mgGo_end hy
      have e1 : trGo n (nI j) σ = σ := by
        cases n with
        | zero => rw [trGo]
        | succ n => rw [trGo, if_neg hx]
      rw [e1, e2]
      exact ⟨hv, rfl, hr, by dsimp only; rw [k1, k2]⟩
theorem can_eq {σ μ : St} (h : Inv2 σ μ) (hf : mFault μ < 0) :
    (X_canS σ 15 1 = -6 ∧ (mgAll μ).1 = -6 ∧ RF (X_canS σ) (mgAll μ).2 ∧ X_canS σ 15 0 = (mgAll μ).2 42 22) ∨
    (¬ X_canS σ 15 1 = -6 ∧ ¬ (mgAll μ).1 < 0 ∧ X_canS σ 15 0 = (mgAll μ).1 ∧ X_canS σ 15 1 = (mgAll μ).2 42 21) := by
  obtain ⟨N, h6, p1, p2, p3⟩ := h.2.1
  have hPO := PO_of p2 h6 hf
  have sy := sy_tr (sy_now μ) (sy_ups42 (mNow μ) (i := 22) 0 (by omega))
  have y49 : ups (mNow μ) 42 22 0 49 = μ 49 := sy.1 49 (by decide) (by decide)
  have y12 : ups (mNow μ) 42 22 0 42 12 = μ 42 12 := sy.2 12 (by decide) (by decide) (by decide) (by decide) (by decide) (by decide)
  have sx := sx_copy σ
  have x13 : tr0 (tcopy σ 7 1) 13 = σ 13 := by unfold tr0; rw [ups_other (by decide), ups_other (by decide)]; exact sx 13 (by decide) (by decide) (by decide)
  have x14 : tr0 (tcopy σ 7 1) 14 = σ 14 := by unfold tr0; rw [ups_other (by decide), ups_other (by decide)]; exact sx 14 (by decide) (by decide) (by decide)
  have := tr_all 60 0 (tr0 (tcopy σ 7 1)) (ups (mNow μ) 42 22 0) N ⟨?_, ?_, ?_, ?_, h6, ?_, ?_, 0, Nat.le_refl 0, ?_, ?_⟩ (Nat.zero_le N) ?_ (by omega)
  · exact this
  · unfold tr0; exact rf_42 (rf_15 (rf_15 (rf_copy h.1) _ _) _ _) (Or.inr rfl) _
  · rw [x13, p1]
  · rw [y12, p2]
  · rw [x14, y49]; exact p3
  · rw [y49]; exact hPO
  · unfold tr0; rw [ups_s]
  · unfold tr0; rw [ups_j (by decide), ups_s]; rfl
  · rw [ups_s]; rfl
  · rfl
theorem can_bar {σ μ : St} (h : Inv2 σ μ) : ((X_can σ).1 = true ∧ (mBar μ).1 = 0 ∧ RF (X_can σ).2 (mBar μ).2 ∧ (X_can σ).2 15 0 = (mBar μ).2 42 22) ∨ ((X_can σ).1 = false ∧ (mBar μ).1 = -5) := by
  obtain ⟨N, h6, p1, p2, p3⟩ := h.2.1
  unfold X_can mBar
  rw [fault_eq h]
  by_cases hf : mFault μ < 0
  · rw [if_pos ((fault_neg p2 h6).mpr hf), if_pos hf]
    rcases can_eq h hf with ⟨a1, a2, a3, a4⟩ | ⟨a1, a2, a3, a4⟩
    · left
      rw [a2]
      exact ⟨decide_eq_true a1, rfl, a3, a4⟩
    · right
      dsimp only
      rw [if_neg a2]
      exact ⟨decide_eq_false a1, rfl⟩
  · rw [if_neg (fun e => hf ((fault_neg p2 h6).mp e)), if_neg hf]
    exact Or.inr ⟨rfl, rfl⟩
theorem A_fault {σ μ : St} (h : Inv2 σ μ) : (X_fault σ).1 = (Y_fault μ).1 := fault_eq h
theorem A_judge {σ μ : St} (h : Inv2 σ μ) (w : Int32) : (X_judge σ w).1 = (Y_judge μ w).1 := by
  obtain ⟨N, h6, p1, p2, p3⟩ := h.2.1
  unfold X_judge Y_judge
  by_cases hw : wth w 0 1 = true
  · rw [if_pos hw, if_pos hw]
    rw [fault_eq h]
    by_cases hf : mFault μ < 0
    · have hf6 := (fault_neg p2 h6).mpr hf
      rw [if_pos hf6, if_pos hf]
      have ec : X_can σ = (decide (X_canS σ 15 1 = -6), X_canS σ) := by unfold X_can; rw [fault_eq h, if_pos hf6]
      rw [ec]
      dsimp only
      rcases can_eq h hf with ⟨a1, a2, a3, a4⟩ | ⟨a1, a2, a3, a4⟩
      · rw [decide_eq_true a1, if_pos rfl, a2, if_pos (by rfl)]
      · rw [decide_eq_false a1, if_neg (by decide), decide_eq_false a2, Bool.false_or, a3, a4]
        by_cases h0 : w = 0
        · rw [if_pos h0, if_pos (decide_eq_true h0)]
        · rw [if_neg h0, if_neg (by rw [decide_eq_false h0]; decide)]
    · rw [if_neg (fun e => hf ((fault_neg p2 h6).mp e)), if_neg hf]
  · rw [if_neg hw, if_neg hw]
theorem SX_judge (σ : St) (w : Int32) : SameX σ (X_judge σ w).2 := by
  unfold X_judge; split
  · split
    · exact sx_can σ
    · exact sx_rf σ
  · exact sx_rf σ
theorem SY_judge (μ : St) (w : Int32) : SameY μ (Y_judge μ w).2 := by
  unfold Y_judge; split
  · split
    · exact sy_mgAll μ
    · exact sy_rf μ
  · exact sy_rf μ
theorem A_beh {σ μ : St} (h : Inv2 σ μ) (w : Int32) : (X_beh σ w).1 = (Y_beh μ w).1 := by
  unfold X_beh Y_beh
  by_cases hw : wth w 0 8 = true
  · rw [if_pos hw, if_pos hw]
    obtain ⟨v, hv, rfl⟩ := (wth_0 (b := 8) (B := 8) rfl (by decide)).mp hw
    dsimp only
    rcases can_bar h with ⟨a1, a2, a3, a4⟩ | ⟨a1, a2⟩
    · rw [a1, if_pos rfl, a2, if_neg (show ¬ (0 : Int32) < 0 by decide)]
      by_cases h6 : v < 6
      · rw [if_pos (isTr_nI h6), if_pos (show nI v < 6 from nI_lt (b := 6) h6 (by decide)), ix_nI (by omega)]
        exact (a3.1.2.1 v h6).2.2.2.1
      · have hnt : ¬ isTr (nI v) = true := by
          rw [isTr_wth, wth_0 (b := 5) (B := 5) rfl (by decide)]
          rintro ⟨n, hn, e⟩
          have := (nI_eq (by omega) (by omega)).mp e
          omega
        rw [if_neg hnt, if_neg (show ¬ nI v < 6 from nI_nlt (b := 6) (by omega) (by omega)), a3.1.1.2.2.1, a3.1.1.2.1, a3.2]
    · rw [a1, if_neg (by decide), a2, if_pos (by decide)]
  · rw [if_neg hw, if_neg hw]
theorem SX_beh (σ : St) (w : Int32) : SameX σ (X_beh σ w).2 := by
  unfold X_beh; split
  · exact sx_can σ
  · exact sx_rf σ
theorem SY_beh (μ : St) (w : Int32) : SameY μ (Y_beh μ w).2 := by
  unfold Y_beh; split
  · exact sy_bar μ
  · exact sy_rf μ
/-! done -/
theorem mdst_it (μ : St) : ∀ N, (∀ q, q ≠ 46 → q ≠ 47 → itr mdst N μ q = μ q) ∧ ∀ n, n < N → itr mdst N μ 46 n = μ 50 n ∧ itr mdst N μ 47 n = μ 51 n
  | 0 => ⟨fun _ _ _ => rfl, fun n h => absurd h (Nat.not_lt_zero n)⟩
  | N + 1 => by
    obtain ⟨ih1, ih2⟩ := mdst_it μ N
    have e : itr mdst (N + 1) μ = mdst N (itr mdst N μ) := rfl
    rw [e]
    generalize itr mdst N μ = ρ at ih1 ih2 ⊢
    unfold mdst
    refine ⟨fun q h1 h2 => ?_, fun n hn => ?_⟩
    · rw [cpA_ne h2, cpA_ne h1]; exact ih1 q h1 h2
    · rw [cpA_ne (show (46 : Nat) ≠ 47 by decide)]
      by_cases en : n = N
      · subst en
        rw [cpA_at, cpA_at, cpA_ne (show (51 : Nat) ≠ 46 by decide), ih1 50 (by decide) (by decide), ih1 51 (by decide) (by decide)]
        exact ⟨rfl, rfl⟩
      · rw [cpA_j en, cpA_j en, cpA_ne (show (47 : Nat) ≠ 46 by decide)]; exact ih2 n (by omega)
theorem E_done {σ μ : St} (h : Inv2 σ μ) : (X_done σ).1 = (Y_done μ).1 ∧ Inv2 (X_done σ).2 (Y_done μ).2 := by
  unfold X_done Y_done
  have hI := inv_same h (sx_can σ) (sy_bar μ)
  rcases can_bar h with ⟨a1, a2, a3, a4⟩ | ⟨a1, a2⟩
  · rw [a1, if_pos rfl, a2, if_neg (by decide)]
    unfold X_doneS
    generalize (X_can σ).2 = τ at hI a3 a4 ⊢
    generalize (mBar μ).2 = ρ at hI a3 a4 ⊢
    obtain ⟨b1, b2⟩ := mdst_it ρ 6
    have m42 : md1 ρ 42 = ρ 42 := b1 42 (by decide) (by decide)
    have w22 : md4 ρ 42 22 = ρ 42 22 := by unfold md4 md3 md2; simp [ups, m42]
    have wj : ∀ j, j ≠ 8 → j ≠ 9 → j ≠ 12 → md4 ρ 42 j = ρ 42 j := fun j h1 h2 h3 => by
      unfold md4 md3 md2; simp [ups, m42, h1, h2, h3]
    have w8 : md4 ρ 42 8 = ρ 42 16 := by unfold md4 md3 md2; simp [ups, m42]
    have w9 : md4 ρ 42 9 = ρ 42 17 := by unfold md4 md3 md2; simp [ups, m42]
    have w12 : md4 ρ 42 12 = 0 := by unfold md4; rw [ups_s]
    have wq : ∀ q, q ≠ 42 → md4 ρ q = md1 ρ q := fun q hq => by unfold md4 md3 md2; rw [ups_other hq, ups_other hq, ups_other hq]
    have wo : ∀ q, q ≠ 42 → q ≠ 46 → q ≠ 47 → md4 ρ q = ρ q := fun q h1 h2 h3 => by rw [wq q h1]; exact b1 q h2 h3
    obtain ⟨⟨v0, v1, v2, v3, v4, v5⟩, va⟩ := tcopy_v τ (k := 1) (j := 7) (by decide)
    have xo : ∀ q, 6 < q → q ≠ 13 → ups (tcopy τ 1 7) 13 1 0 q = τ q := fun q h1 h2 => by
      rw [ups_other h2]; exact tcopy_ne τ 1 7 (by omega) (by omega) (by omega) (by omega) (by omega) (by omega)
    have xi : ∀ q, q ≠ 13 → ups (tcopy τ 1 7) 13 1 0 q = tcopy τ 1 7 q := fun q h2 => ups_other h2
    obtain ⟨N, h6, p1, p2, p3⟩ := hI.2.1
    obtain ⟨⟨c1, c2, c3, c4, c5, c6⟩, ca, cs, rL, rF, rS, r4, r5, r6⟩ := hI.1
    obtain ⟨⟨d1, d2, d3, d4, d5⟩, da, dL, d6⟩ := a3.1
    show ups (tcopy τ 1 7) 13 1 0 15 0 = md4 ρ 42 22 ∧ Inv2 (ups (tcopy τ 1 7) 13 1 0) (md4 ρ)
    refine ⟨?_, ⟨⟨?_, ?_, ?_, ?_⟩, ⟨0, by omega, ?_, ?_, ?_⟩, ?_, ?_⟩⟩
    · rw [xo 15 (by decide) (by decide), w22]; exact a4
    · rw [xi 1 (by decide), v0, v1, v2, v3, v5, xo 16 (by decide) (by decide), wj 0 (by decide) (by decide) (by decide), w8, w9, wj 7 (by decide) (by decide) (by decide), wj 1 (by decide) (by decide) (by decide), wj 10 (by decide) (by decide) (by decide)]
      exact ⟨d1, d2, d3, d4, d5, c6⟩
    · intro n hn
      obtain ⟨t1, t2, t3, t4, t5⟩ := va n hn
      obtain ⟨u1, u2, u3, u4, u5⟩ := da n hn
      rw [xi (1 + 1) (by decide), xi (1 + 2) (by decide), xi (1 + 3) (by decide), xi (1 + 4) (by decide), xi (1 + 5) (by decide), t1, t2, t3, t4, t5, wo 43 (by decide) (by decide) (by decide), wo 44 (by decide) (by decide) (by decide), wo 45 (by decide) (by decide) (by decide), wq 46 (by decide), wq 47 (by decide)]
      exact ⟨u1, u2, u3, u4.trans (b2 n hn).1.symm, u5.trans (b2 n hn).2.symm⟩
    · intro n hn
      rw [xo (16 + 1) (by decide) (by decide), xo (16 + 2) (by decide) (by decide), wo 48 (by decide) (by decide) (by decide)]
      exact cs n hn
    · rw [xi 1 (by decide), v0, v1, v3, xo 16 (by decide) (by decide), xo (16 + 2) (by decide) (by decide)]
      refine ⟨dL, ?_, rS, fun n hn => ?_, fun n hn => ?_, r6⟩
      · rw [d4, ← c4]; exact rF
      · rw [xi (1 + 1) (by decide), xi (1 + 2) (by decide), (va n hn).1, (va n hn).2.1, (da n hn).1, (da n hn).2.1, ← (ca n hn).1, ← (ca n hn).2.1]; exact r4 n hn
      · rw [xi (1 + 3) (by decide), (va n hn).2.2.1]; exact d6 n hn
    · rw [ups_s, nI_0]
    · rw [w12, nI_0]
    · rw [xo 14 (by decide) (by decide), wo 49 (by decide) (by decide) (by decide)]; exact p3
    · exact Imgr_of hI.2.2.1 (xo 22 (by decide) (by decide)) (fun d hd => xo _ (by omega) (by omega)) (fun d hd => xo _ (by omega) (by omega)) (wo 55 (by decide) (by decide) (by decide)) (wo 56 (by decide) (by decide) (by decide))
    · exact Imgr_of hI.2.2.2 (xo 32 (by decide) (by decide)) (fun d hd => xo _ (by omega) (by omega)) (fun d hd => xo _ (by omega) (by omega)) (wo 55 (by decide) (by decide) (by decide)) (wo 56 (by decide) (by decide) (by decide))
  · rw [a1, if_neg (by decide), a2, if_pos (by decide)]
    exact ⟨rfl, hI⟩
theorem FX_done (σ : St) : ∀ q, 42 ≤ q → (X_done σ).2 q = σ q := by
  intro q hq
  have hs := sx_can σ q (by omega) (by omega) (by omega)
  unfold X_done; split
  · unfold X_doneS; dsimp only; rw [ups_other (by omega), tcopy_ne _ 1 7 (by omega) (by omega) (by omega) (by omega) (by omega) (by omega)]; exact hs
  · exact hs
theorem FY_done (μ : St) : ∀ q, q < 42 → (Y_done μ).2 q = μ q := by
  intro q hq
  have hs := (sy_bar μ).1 q (by omega) (by omega)
  unfold Y_done; split
  · exact hs
  · show md4 (mBar μ).2 q = μ q
    unfold md4 md3 md2
    rw [ups_other (by omega), ups_other (by omega), ups_other (by omega)]
    exact ((mdst_it (mBar μ).2 6).1 q (by omega) (by omega)).trans hs
