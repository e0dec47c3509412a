/-! a minute passes, a cough, a bid: on both sides -/
theorem rr_upd {σ σ' μ μ' : St} (h : RR σ 7 μ) (s0 : σ' 7 0 = σ 7 0) (s3 : σ' 7 3 = σ 7 3) (s5 : σ' 7 5 = σ 7 5) (s8 : σ' 8 = σ 8) (s9 : σ' 9 = σ 9) (s10 : σ' 10 = σ 10) (m0 : μ' 42 0 = μ 42 0) (m7 : μ' 42 7 = μ 42 7) (m1 : μ' 42 1 = μ 42 1) (m43 : μ' 43 = μ 43) (m44 : μ' 44 = μ 44) (m45 : μ' 45 = μ 45)
    (e1 : σ' 7 1 = μ' 42 16) (e2 : σ' 7 2 = μ' 42 17) (hM : ∃ L M : Nat, 1 ≤ L ∧ L ≤ 30 ∧ M ≤ L ∧ σ' 7 0 = nI L ∧ σ' 7 1 = nI M) (e4 : ∀ n, n < 6 → σ' 11 n = μ' 50 n) (e5 : ∀ n, n < 6 → σ' 12 n = μ' 51 n) : RR σ' 7 μ' := by
  obtain ⟨⟨c1, c2, c3, c4, c5⟩, ca, rL, r5⟩ := h
  refine ⟨⟨by rw [s0, m0]; exact c1, e1, e2, by rw [s3, m7]; exact c4, by rw [s5, m1]; exact c5⟩, fun n hn => ?_, hM, fun n hn => ?_⟩
  · obtain ⟨a1, a2, a3, a4, a5⟩ := ca n hn
    exact ⟨by rw [s8, m43]; exact a1, by rw [s9, m44]; exact a2, by rw [s10, m45]; exact a3, e4 n hn, e5 n hn⟩
  · show ∃ c, c < 3 ∧ σ' 10 n = nI c
    rw [s10]; exact r5 n hn
/-- j pays v to the guard -/
theorem rr_pay {σ μ μ' : St} (h : RR σ 7 μ) {j : Nat} (v : Int32) (m0 : μ' 42 0 = μ 42 0) (m7 : μ' 42 7 = μ 42 7) (m1 : μ' 42 1 = μ 42 1) (m43 : μ' 43 = μ 43) (m44 : μ' 44 = μ 44) (m45 : μ' 45 = μ 45) (m16 : μ' 42 16 = μ 42 16) (m17 : μ' 42 17 = μ 42 17 + v) (m50 : μ' 50 j = μ 50 j - v) (m50' : ∀ n, n ≠ j → μ' 50 n = μ 50 n) (m51 : μ' 51 = μ 51) : RR (ups (ups σ 11 j (σ 11 j - v)) 7 2 (σ 7 2 + v)) 7 μ' := by
  obtain ⟨⟨c1, c2, c3, c4, c5⟩, ca, ⟨L, M, hL, hL2, hM, eL, eM⟩, r5⟩ := id h
  refine rr_upd h ?_ ?_ ?_ ?_ ?_ ?_ m0 m7 m1 m43 m44 m45 ?_ ?_ ⟨L, M, hL, hL2, hM, ?_, ?_⟩ (fun n hn => ?_) (fun n hn => ?_)
  · simp [ups]
  · simp [ups]
  · simp [ups]
  · rw [ups_other (by decide), ups_other (by decide)]
  · rw [ups_other (by decide), ups_other (by decide)]
  · rw [ups_other (by decide), ups_other (by decide)]
  · rw [m16, ← c2]; simp [ups]
  · rw [m17, ← c3, ups_s]
  · rw [← eL]; simp [ups]
  · rw [← eM]; simp [ups]
  · rw [ups_other (by decide)]
    by_cases e : n = j
    · subst e; rw [ups_s, m50, (show σ 11 n = μ 50 n from (ca n hn).2.2.2.1)]
    · rw [ups_j e, m50' n e]; exact (ca n hn).2.2.2.1
  · rw [ups_other (by decide), ups_other (by decide), m51]; exact (ca n hn).2.2.2.2
theorem rr_pst {σ μ : St} (h : RR σ 7 μ) (c : Nat) : RR (tpst 7 c σ) 7 (mpst c μ) := by
  unfold tpst mpst
  rw [rr_hold h, mh_tr]
  rcases mh_val μ (nI c) with e | ⟨j, hj, e⟩
  · rw [e, if_neg (by decide), if_pos (by decide)]; exact h
  · have a5 : σ 12 j = μ 51 j := (h.2.1 j hj).2.2.2.2
    rw [e, decide_eq_false (nI_pos (show j < 2 ^ 31 by omega)), Bool.not_false, if_pos rfl, if_neg (nI_pos (show j < 2 ^ 31 by omega))]
    unfold tpay tpay1
    rw [if_pos (isTr_nI hj), ix_nI (by omega)]
    show RR (ups (ups σ 11 j (σ 11 j - σ 12 j)) 7 2 (ups σ 11 j (σ 11 j - σ 12 j) 7 2 + σ 12 j)) 7 _
    rw [ups_other (show (7 : Nat) ≠ 11 by decide), a5]
    unfold mp4 mp3 mp2 mp1
    rw [ix_nI (by omega)]
    refine rr_pay h (μ 51 j) ?_ ?_ ?_ ?_ ?_ ?_ ?_ ?_ ?_ (fun n hn => ?_) ?_
    · simp [ups]
    · simp [ups]
    · simp [ups]
    · rw [ups_other (by decide), ups_other (by decide), ups_other (by decide), ups_other (by decide)]
    · rw [ups_other (by decide), ups_other (by decide), ups_other (by decide), ups_other (by decide)]
    · rw [ups_other (by decide), ups_other (by decide), ups_other (by decide), ups_other (by decide)]
    · simp [ups]
    · simp [ups]
    · simp [ups]
    · simp [ups, hn]
    · rw [ups_other (by decide), ups_other (by decide), ups_other (by decide), ups_other (by decide)]
theorem rr_pas3 {σ μ : St} (h : RR σ 7 μ) : ∀ n, RR (itr (tpst 7) n σ) 7 (itr mpst n μ)
  | 0 => h
  | n + 1 => rr_pst (rr_pas3 h n) n
theorem tpst_j (c : Nat) (τ : St) {j : Nat} (h : j ≠ 2) : tpst 7 c τ 7 j = τ 7 j := by
  unfold tpst tpay tpay1; split
  · rw [ups_j h, ups_other (by decide)]
  · rfl
theorem tpas3_j (σ : St) {j : Nat} (h : j ≠ 2) : tpas3 σ 7 7 j = σ 7 j := itr_fj (fun n τ => tpst_j n τ h) 3 σ
theorem tpas_4 (σ : St) : tpas σ 7 7 4 = σ 7 4 := by
  unfold tpas; split
  · rw [ups_j (by decide), tpas3_j σ (by decide)]
  · rfl
theorem rr_pas {σ μ : St} (h : RR σ 7 μ) (hlt : σ 7 1 < σ 7 0) : RR (tpas σ 7) 7 (mpas μ) := by
  have h3 : RR (tpas3 σ 7) 7 (mpas3 μ) := rr_pas3 h 3
  obtain ⟨⟨c1, c2, c3, c4, c5⟩, ca, ⟨L, M, hL, hL2, hM, eL, eM⟩, r5⟩ := id h
  have hML : M < L := by rw [eL, eM] at hlt; exact (nI_ltI (by omega) (by omega)).mp hlt
  unfold tpas mpas
  rw [if_pos hlt]
  refine rr_upd h3 ?_ ?_ ?_ ?_ ?_ ?_ ?_ ?_ ?_ ?_ ?_ ?_ ?_ ?_ ⟨L, M + 1, hL, hL2, by omega, ?_, ?_⟩ (fun n hn => ?_) (fun n hn => ?_)
  · rw [ups_j (by decide)]
  · rw [ups_j (by decide)]
  · rw [ups_j (by decide)]
  · rw [ups_other (by decide)]
  · rw [ups_other (by decide)]
  · rw [ups_other (by decide)]
  · rw [ups_j (by decide)]
  · rw [ups_j (by decide)]
  · rw [ups_j (by decide)]
  · rw [ups_other (by decide)]
  · rw [ups_other (by decide)]
  · rw [ups_other (by decide)]
  · rw [ups_s, ups_s, h3.1.2.1]
  · rw [ups_j (by decide), ups_j (by decide)]; exact h3.1.2.2.1
  · rw [ups_j (by decide), tpas3_j σ (by decide), eL]
  · rw [ups_s, tpas3_j σ (by decide), eM, nI_1]
  · rw [ups_other (by decide), ups_other (by decide)]; exact (h3.2.1 n hn).2.2.2.1
  · rw [ups_other (by decide), ups_other (by decide)]; exact (h3.2.1 n hn).2.2.2.2
theorem rf_pas {σ μ : St} (h : RF σ μ) (hlt : σ 7 1 < σ 7 0) : RF (tpas σ 7) (mpas μ) := ⟨rr_pas h.1 hlt, by rw [tpas_4, mpas_42 μ (by decide) (by decide)]; exact h.2⟩
theorem tpas_end {σ : St} (h : ¬ σ 7 1 < σ 7 0) : tpas σ 7 = σ := by unfold tpas; rw [if_neg h]
theorem rf_bid {σ μ : St} (h : RF σ μ) {n : Nat} (hn : n < 6) (b : Int32) : RF (tsetB σ 7 (nI n) b) (ups μ 51 n b) := by
  obtain ⟨⟨c1, c2, c3, c4, c5⟩, ca, rL, r5⟩ := id h.1
  unfold tsetB
  rw [if_pos (isTr_nI hn), ix_nI (by omega)]
  refine ⟨rr_upd h.1 ?_ ?_ ?_ ?_ ?_ ?_ ?_ ?_ ?_ ?_ ?_ ?_ ?_ ?_ ?_ (fun i hi => ?_) (fun i hi => ?_), ?_⟩
  · rw [ups_other (by decide)]
  · rw [ups_other (by decide)]
  · rw [ups_other (by decide)]
  · rw [ups_other (by decide)]
  · rw [ups_other (by decide)]
  · rw [ups_other (by decide)]
  · rw [ups_other (by decide)]
  · rw [ups_other (by decide)]
  · rw [ups_other (by decide)]
  · rw [ups_other (by decide)]
  · rw [ups_other (by decide)]
  · rw [ups_other (by decide)]
  · rw [ups_other (by decide), ups_other (by decide)]; exact c2
  · rw [ups_other (by decide), ups_other (by decide)]; exact c3
  · rw [ups_other (by decide)]; exact rL
  · rw [ups_other (by decide), ups_other (by decide)]; exact (ca i hi).2.2.2.1
  · by_cases e : i = n
    · subst e; rw [ups_s, ups_s]
    · rw [ups_j e, ups_j e]; exact (ca i hi).2.2.2.2
  · rw [ups_other (by decide), ups_other (by decide)]; exact h.2
theorem min_two (p f : Int32) : (if p < f then p else f) = (if f < p then f else p) := by
  by_cases h : p < f
  · rw [if_pos h]
    by_cases h2 : f < p
    · exact absurd (Int32.lt_trans h h2) Int32.lt_irrefl
    · rw [if_neg h2]
  · rw [if_neg h]
    by_cases h2 : f < p
    · rw [if_pos h2]
    · rw [if_neg h2]
      exact Int32.le_antisymm (Int32.not_lt.mp h) (Int32.not_lt.mp h2)
theorem rf_cou {σ μ : St} (h : RF σ μ) {n : Nat} (hn : n < 6) (hr : mrd μ (nI n) (μ 42 16) = true) : RF (tcou σ 7 (nI n)) (mcou μ (nI n)) := by
  obtain ⟨⟨c1, c2, c3, c4, c5⟩, ca, rL, r5⟩ := id h.1
  have a3 : σ 10 n = μ 45 n := (ca n hn).2.2.1
  unfold tcou mcou
  rw [if_pos (by rw [isTr_nI hn, c2, rr_rd h.1 hn, hr]; rfl), ix_nI (by omega)]
  show RF (if _ then ups (tcou1 σ 7 (thold σ 7 (σ 10 n))) 7 4 (tcou1 σ 7 (thold σ 7 (σ 10 n)) 7 4 + tcouv σ 7 (thold σ 7 (σ 10 n))) else σ) _
  rw [show (7 : Nat) + 3 = 10 from rfl, a3, rr_hold h.1, mh_tr]
  rcases mh_val μ (μ 45 n) with e | ⟨j, hj, e⟩
  · rw [e, if_neg (by simp), if_pos (by rfl)]; exact h
  · have a4 : σ 11 j = μ 50 j := (ca j hj).2.2.2.1
    rw [e, decide_eq_false (nI_pos (show j < 2 ^ 31 by omega)), Bool.not_false, Bool.true_and, Bool.false_or]
    by_cases hjn : nI j = nI n
    · rw [decide_eq_true hjn, if_neg (by decide), if_pos rfl]; exact h
    · rw [decide_eq_false hjn, Bool.not_false, if_pos rfl, if_neg (by decide)]
      have hv : tcouv σ 7 (nI j) = mcv μ (nI j) := by
        unfold tcouv mcv
        rw [ix_nI (by omega), show (7 : Nat) + 4 = 11 from rfl, a4, c4]; exact min_two _ _
      have et : tcou1 σ 7 (nI j) = ups (ups σ 11 j (σ 11 j - mcv μ (nI j))) 7 2 (σ 7 2 + mcv μ (nI j)) := by
        unfold tcou1 tpay tpay1
        rw [if_pos (isTr_nI hj), hv, ix_nI (by omega)]
        show ups (ups σ 11 j (σ 11 j - _)) 7 2 (ups σ 11 j (σ 11 j - _) 7 2 + _) = _
        rw [ups_other (show (7 : Nat) ≠ 11 by decide)]
      rw [hv]
      generalize hv2 : mcv μ (nI j) = v at et ⊢
      have em : mc3 μ (nI j) = ups (ups (ups μ 50 j (μ 50 j - v)) 42 17 (μ 42 17 + v)) 42 18 (μ 42 18 + v) := by
        unfold mc3 mc2 mc1
        rw [hv2, ix_nI (by omega)]
        simp only [ups_other (show (42 : Nat) ≠ 50 by decide), ups_j (show (18 : Nat) ≠ 17 by decide)]
      rw [et, em]
      have hp : RR (ups (ups σ 11 j (σ 11 j - v)) 7 2 (σ 7 2 + v)) 7 (ups (ups (ups μ 50 j (μ 50 j - v)) 42 17 (μ 42 17 + v)) 42 18 (μ 42 18 + v)) := by
        refine rr_pay h.1 v ?_ ?_ ?_ ?_ ?_ ?_ ?_ ?_ ?_ (fun n hn => ?_) ?_
        · simp [ups]
        · simp [ups]
        · simp [ups]
        · rw [ups_other (by decide), ups_other (by decide), ups_other (by decide)]
        · rw [ups_other (by decide), ups_other (by decide), ups_other (by decide)]
        · rw [ups_other (by decide), ups_other (by decide), ups_other (by decide)]
        · simp [ups]
        · simp [ups]
        · simp [ups]
        · simp [ups, hn]
        · rw [ups_other (by decide), ups_other (by decide), ups_other (by decide)]
      have e4 : ups (ups σ 11 j (σ 11 j - v)) 7 2 (σ 7 2 + v) 7 4 = σ 7 4 := by rw [ups_j (by decide), ups_other (by decide)]
      rw [e4]
      obtain ⟨⟨d1, d2, d3, d4, d5⟩, da, dL, d6⟩ := id hp
      refine ⟨rr_upd hp ?_ ?_ ?_ ?_ ?_ ?_ rfl rfl rfl rfl rfl rfl ?_ ?_ ?_ (fun i hi => ?_) (fun i hi => ?_), ?_⟩
      · rw [ups_j (by decide)]
      · rw [ups_j (by decide)]
      · rw [ups_j (by decide)]
      · rw [ups_other (by decide)]
      · rw [ups_other (by decide)]
      · rw [ups_other (by decide)]
      · rw [ups_j (by decide)]; exact d2
      · rw [ups_j (by decide)]; exact d3
      · rw [ups_j (by decide), ups_j (by decide)]; exact dL
      · rw [ups_other (by decide)]; exact (da i hi).2.2.2.1
      · rw [ups_other (by decide)]; exact (da i hi).2.2.2.2
      · rw [ups_s, ups_s, h.2]
