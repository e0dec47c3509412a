/-! years -/
theorem rf_draw {σ μ : St} (h : RF σ μ) {x : Int32} {j : Nat} (hx : x = nI j) (hj : j < 65537) : RF (tdraw σ 7 x) (myS x μ) := by
  have e8 : rem x 8 = nI (j % 8) := by rw [hx]; exact remN (d := 8) (by omega) (by decide) (by decide)
  have e6 : rem (x / 8) 6 = nI (j / 8 % 6) := by rw [hx, show (8 : Int32) = nI 8 from rfl, pk_div (by omega) (by decide) (by decide)]; exact remN (d := 6) (by omega) (by decide) (by decide)
  have h6 : j / 8 % 6 < 6 := Nat.mod_lt _ (by decide)
  have h8 : j % 8 < 8 := Nat.mod_lt _ (by decide)
  unfold tdraw myS
  rw [e8, e6, ix_nI (by omega)]
  generalize j / 8 % 6 = p at h6 ⊢
  generalize j % 8 = r at h8 ⊢
  by_cases h2 : r < 2
  · rw [if_pos (show ¬ (1 : Int32) < nI r from nI_nlt (a := 1) (by omega) (by decide)), if_pos (show nI r < 2 from nI_lt (b := 2) h2 (by decide))]
    by_cases hl : μ 42 16 < μ 42 0
    · rw [if_pos hl]; exact rf_pas h ((rf_lt h).mpr hl)
    · rw [if_neg hl, tpas_end (fun e => hl ((rf_lt h).mp e))]; exact h
  · rw [if_neg (show ¬ ¬ (1 : Int32) < nI r from fun q => q (nI_lt (a := 1) (by omega) (by omega))), if_neg (show ¬ nI r < 2 from nI_nlt (b := 2) (by omega) (by omega))]
    by_cases h5 : r < 5
    · rw [if_pos (show ¬ (4 : Int32) < nI r from nI_nlt (a := 4) (by omega) (by decide)), if_pos (show nI r < 5 from nI_lt (b := 5) h5 (by decide))]
      exact rf_bid h h6 _
    · rw [if_neg (show ¬ ¬ (4 : Int32) < nI r from fun q => q (nI_lt (a := 4) (by omega) (by omega))), if_neg (show ¬ nI r < 5 from nI_nlt (b := 5) (by omega) (by omega))]
      by_cases hr : mrd μ (nI p) (μ 42 16) = true
      · rw [if_pos hr]; exact rf_cou h h6 hr
      · rw [if_neg hr]
        unfold tcou
        rw [if_neg (by rw [isTr_nI h6, h.1.1.2.1, rr_rd h.1 h6, Bool.true_and]; exact hr)]
        exact h
theorem yr_it {σ μ : St} (h : RF σ μ) {s : Int32} {j : Nat} (hs : s = nI j) (hj : j < 65537) : ∀ n, (itr X_yF n (s, σ)).1 = (itr myF n (s, μ)).1 ∧ RF (itr X_yF n (s, σ)).2 (itr myF n (s, μ)).2
  | 0 => ⟨rfl, h⟩
  | n + 1 => by
    obtain ⟨i1, i2⟩ := yr_it h hs hj n
    obtain ⟨i, hi, e⟩ := my_rng (τ := μ) hs hj n
    obtain ⟨k, hk, e2⟩ := myX_nI hi
    have x1 : itr X_yF (n + 1) (s, σ) = X_yF n (itr X_yF n (s, σ)) := rfl
    have x2 : itr myF (n + 1) (s, μ) = myF n (itr myF n (s, μ)) := rfl
    rw [x1, x2]
    rw [← e] at e2
    generalize itr X_yF n (s, σ) = a at i1 i2 ⊢
    generalize itr myF n (s, μ) = b at i1 i2 e2 ⊢
    have e3 : rem (75 * a.1 + 74) 65537 = myX b.1 := by rw [i1]; rfl
    unfold X_yF myF
    rw [e3]
    exact ⟨rfl, rf_draw i2 e2 hk⟩
theorem SX_yA (σ : St) (s m : Int32) : SameX σ (X_yA σ s m).2 := sx_tr (sx_copy σ) (sx_itr2 (fun n a => sx_draw a.2 _) _ (s, tcopy σ 7 1))
theorem sy_myS (x : Int32) (μ : St) : SameY μ (myS x μ) := by
  unfold myS; split
  · split
    · exact sy_pas μ
    · exact sy_rf μ
  · split
    · exact sy_ups μ _ _ (by omega)
    · split
      · exact sy_cou μ _
      · exact sy_rf μ
theorem SY_yA (μ : St) (s m : Int32) : SameY μ (myA μ s m).2 := sy_tr (sy_now μ) (sy_itr2 (fun n a => sy_myS _ a.2) _ (s, mNow μ))
theorem A_year {σ μ : St} (h : Inv2 σ μ) (s m w : Int32) : (X_year σ s m w).1 = (Y_year μ s m w).1 := by
  unfold X_year Y_year
  by_cases hc : ((wth s 0 9999 && wth m 1 99) && wth w 0 2) = true
  · rw [if_pos hc, if_pos hc]
    simp only [Bool.and_eq_true] at hc
    obtain ⟨j, hj, e⟩ := wth_nI (B := 9999) rfl hc.1.1
    obtain ⟨-, hr⟩ := yr_it (rf_copy h.1) e (by omega) (clN m)
    have hr : RF (X_yA σ s m).2 (myA μ s m).2 := hr
    have g1 : (X_yA σ s m).2 1 = σ 1 := SX_yA σ s m 1 (by decide) (by decide) (by decide)
    have g2 : (myA μ s m).2 42 9 = μ 42 9 := (SY_yA μ s m).2 9 (by decide) (by decide) (by decide) (by decide) (by decide) (by decide)
    dsimp only
    rw [hr.1.1.2.2.1, hr.2, hr.1.1.2.1, g1, g2, h.1.1.2.2.1]
  · rw [if_neg hc, if_neg hc]
theorem SX_year (σ : St) (s m w : Int32) : SameX σ (X_year σ s m w).2 := by
  unfold X_year; split
  · exact SX_yA σ s m
  · exact sx_rf σ
theorem SY_year (μ : St) (s m w : Int32) : SameY μ (Y_year μ s m w).2 := by
  unfold Y_year; split
  · exact SY_yA μ s m
  · exact sy_rf μ
/-! what was paid -/
def PD (μ : St) : Prop := (∀ n, n < 6 → μ 52 n = μ 46 n - μ 50 n) ∧ ∀ c, c < 3 → μ 53 c = itr (fun n a => if μ 45 n = nI c then a + μ 52 n else a) 6 0
theorem pd_ring (p q v : Int32) : p - q + v = p - (q - v) := by
  simp only [Int32.sub_eq_add_neg, Int32.neg_add, Int32.neg_neg]; ac_rfl
theorem pd_now (μ : St) : PD (mNow μ) := by
  obtain ⟨v1, v2⟩ := mNow_v μ
  refine ⟨fun n hn => ?_, fun c hc => ?_⟩
  · rw [(v1 n hn).2.2, (v1 n hn).1, mNow_ne μ (by decide) (by decide) (by decide) (by decide) (by decide), Int32.sub_self]
  · rw [v2 c hc]
    refine (itr_id (fun n hn => ?_)).symm
    rw [(v1 n hn).2.2, Int32.add_zero]; simp
theorem pd_bid {μ : St} (h : PD μ) (n : Nat) (b : Int32) : PD (ups μ 51 n b) := by
  unfold PD
  rw [ups_other (show (52 : Nat) ≠ 51 by decide), ups_other (show (46 : Nat) ≠ 51 by decide), ups_other (show (50 : Nat) ≠ 51 by decide), ups_other (show (53 : Nat) ≠ 51 by decide), ups_other (show (45 : Nat) ≠ 51 by decide)]
  exact h
theorem sum_upd (Q : Nat → Bool) {g g' : Nat → Int32} {j : Nat} {v : Int32} (h1 : g' j = g j + v) (h2 : ∀ n, n ≠ j → g' n = g n) : ∀ N, itr (fun n a => if Q n = true then a + g' n else a) N 0 = itr (fun n a => if Q n = true then a + g n else a) N 0 + (if (decide (j < N) && Q j) = true then v else 0)
  | 0 => by simp [itr]
  | N + 1 => by
    have e1 : ∀ g : Nat → Int32, itr (fun n a => if Q n = true then a + g n else a) (N + 1) 0 = if Q N = true then itr (fun n a => if Q n = true then a + g n else a) N 0 + g N else itr (fun n a => if Q n = true then a + g n else a) N 0 := fun _ => rfl
    rw [e1, e1, sum_upd Q h1 h2 N]
    by_cases c : j = N
    · subst c
      rw [decide_eq_false (Nat.lt_irrefl j), decide_eq_true (Nat.lt_succ_self j), Bool.false_and, Bool.true_and, h1]
      generalize itr (fun n a => if Q n = true then a + g n else a) j 0 = A
      cases Q j
      · simp
      · simp [Int32.add_assoc]
    · rw [h2 N (fun e => c e.symm)]
      have ed : decide (j < N + 1) = decide (j < N) := decide_eq_decide.mpr (by omega)
      rw [ed]
      cases Q N
      · simp
      · simp only [if_true]; ac_rfl
theorem mh_seat {μ : St} {c : Int32} {j : Nat} (hj : j < 6) (h : mhold μ c = nI j) : μ 45 j = c := by
  have key : ∀ n, n ≤ 6 → ∀ i, i < 6 → itr (mhst μ c) n (-6) = nI i → μ 45 i = c := by
    intro n
    induction n with
    | zero =>
      intro _ i hi e
      exfalso
      have := congrArg Int32.toInt e
      rw [nI_toInt (by omega)] at this
      have e6 : (-6 : Int32).toInt = -6 := rfl
      have e7 : (itr (mhst μ c) 0 (-6)).toInt = (-6 : Int32).toInt := rfl
      omega
    | succ n ih =>
      intro hn i hi e
      have x2 : itr (mhst μ c) (n + 1) (-6) = mhst μ c n (itr (mhst μ c) n (-6)) := rfl
      rw [x2] at e
      have ih := ih (by omega) i hi
      generalize itr (mhst μ c) n (-6) = a at e ih
      unfold mhst at e
      split at e
      · rename_i hc
        have := (nI_eq (by omega) (by omega)).mp e
        subst this
        unfold mmay at hc
        simp only [Bool.and_eq_true, decide_eq_true_eq] at hc
        exact hc.1.2.2.2.1
      · exact ih e
  exact key 6 (Nat.le_refl 6) j hj h
theorem pd_pst {μ : St} (h : PD μ) {c : Nat} (hc : c < 3) : PD (mpst c μ) := by
  unfold mpst
  rcases mh_val μ (nI c) with e | ⟨j, hj, e⟩
  · rw [e, if_pos (by decide)]; exact h
  · rw [e, if_neg (nI_pos (show j < 2 ^ 31 by omega))]
    have hs := mh_seat hj e
    have q45 : mp4 μ (nI j) c 45 = μ 45 := mp4_ne μ _ _ (by decide) (by decide) (by decide) (by decide)
    have q46 : mp4 μ (nI j) c 46 = μ 46 := mp4_ne μ _ _ (by decide) (by decide) (by decide) (by decide)
    have q52 : mp4 μ (nI j) c 52 j = μ 52 j + μ 51 j := by unfold mp4 mp3 mp2 mp1; rw [ix_nI (by omega)]; simp [ups]
    have q52' : ∀ n, n ≠ j → mp4 μ (nI j) c 52 n = μ 52 n := fun n hn => by unfold mp4 mp3 mp2 mp1; rw [ix_nI (by omega)]; simp [ups, hn]
    have q50 : mp4 μ (nI j) c 50 j = μ 50 j - μ 51 j := by unfold mp4 mp3 mp2 mp1; rw [ix_nI (by omega)]; simp [ups]
    have q50' : ∀ n, n ≠ j → mp4 μ (nI j) c 50 n = μ 50 n := fun n hn => by unfold mp4 mp3 mp2 mp1; rw [ix_nI (by omega)]; simp [ups, hn]
    have q53 : mp4 μ (nI j) c 53 c = μ 53 c + μ 51 j := by unfold mp4 mp3 mp2 mp1; rw [ix_nI (by omega)]; simp [ups]
    have q53' : ∀ n, n ≠ c → mp4 μ (nI j) c 53 n = μ 53 n := fun n hn => by unfold mp4 mp3 mp2 mp1; rw [ix_nI (by omega)]; simp [ups, hn]
    refine ⟨fun n hn => ?_, fun d hd => ?_⟩
    · rw [q46]
      by_cases en : n = j
      · subst en; rw [q52, q50, h.1 n hn]; exact pd_ring _ _ _
      · rw [q52' n en, q50' n en]; exact h.1 n hn
    · rw [q45]
      have hsum := sum_upd (fun n => decide (μ 45 n = nI d)) q52 q52' 6
      simp only [decide_eq_true_eq] at hsum
      rw [hsum, ← h.2 d hd]
      by_cases ed : d = c
      · subst ed
        rw [q53, if_pos (by rw [decide_eq_true hj, decide_eq_true hs]; rfl)]
      · rw [q53' d ed, if_neg (by
          rw [Bool.and_eq_true]
          rintro ⟨-, hx⟩
          rw [decide_eq_true_eq, hs] at hx
          exact ed ((nI_eq (by omega) (by omega)).mp hx).symm), Int32.add_zero]
theorem pd_p3 {μ : St} (h : PD μ) : ∀ n, n ≤ 3 → PD (itr mpst n μ)
  | 0, _ => h
  | n + 1, hn => by
    have e : itr mpst (n + 1) μ = mpst n (itr mpst n μ) := rfl
    rw [e]; exact pd_pst (pd_p3 h n (by omega)) (by omega)
theorem pd_pas {μ : St} (h : PD μ) : PD (mpas μ) := by
  have h3 : PD (mpas3 μ) := pd_p3 h 3 (Nat.le_refl 3)
  unfold mpas PD
  rw [ups_other (show (52 : Nat) ≠ 42 by decide), ups_other (show (46 : Nat) ≠ 42 by decide), ups_other (show (50 : Nat) ≠ 42 by decide), ups_other (show (53 : Nat) ≠ 42 by decide), ups_other (show (45 : Nat) ≠ 42 by decide)]
  exact h3
theorem pd_run {μ : St} (h : PD μ) : ∀ n, PD (mrun n μ)
  | 0 => h
  | n + 1 => pd_pas (pd_run h n)
/-- what each paid, on both sides -/
theorem paid_eq {σ τ μ ρ : St} (hI : Inv2 σ μ) (hx : SameX σ τ) (hy : SameY μ ρ) (h : RF τ ρ) (hp : PD ρ) {n : Nat} (hn : n < 6) : paidT τ (nI n) = ρ 52 n := by
  unfold paidT
  rw [if_pos (isTr_nI hn), ix_nI (by omega), hp.1 n hn]
  have e1 : τ 5 n = ρ 46 n := by rw [hx 5 (by decide) (by decide) (by decide), hy.1 46 (by decide) (by decide)]; exact (hI.1.2.1 n hn).2.2.2.1
  have e2 : τ 11 n = ρ 50 n := (h.1.2.1 n hn).2.2.2.1
  rw [e1, e2]
