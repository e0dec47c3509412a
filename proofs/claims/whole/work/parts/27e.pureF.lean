/-! the run: a train of the class (at k) and the reference's now -/
def RR (σ : St) (k : Nat) (μ : St) : Prop :=
  (σ k 0 = μ 42 0 ∧ σ k 1 = μ 42 16 ∧ σ k 2 = μ 42 17 ∧ σ k 3 = μ 42 7 ∧ σ k 5 = μ 42 1) ∧
  (∀ n, n < 6 → σ (k + 1) n = μ 43 n ∧ σ (k + 2) n = μ 44 n ∧ σ (k + 3) n = μ 45 n ∧ σ (k + 4) n = μ 50 n ∧ σ (k + 5) n = μ 51 n) ∧
  (∃ L M : Nat, 1 ≤ L ∧ L ≤ 30 ∧ M ≤ L ∧ σ k 0 = nI L ∧ σ k 1 = nI M) ∧ (∀ n, n < 6 → ∃ c : Nat, c < 3 ∧ σ (k + 3) n = nI c)
def RF (σ μ : St) : Prop := RR σ 7 μ ∧ σ 7 4 = μ 42 18
theorem cpA_ne {τ : St} {p q n q' : Nat} (h : q' ≠ p) : cpA τ p q n q' = τ q' := by unfold cpA; exact ups_other h
theorem cpA_at {τ : St} {p q n : Nat} : cpA τ p q n p n = τ q n := by unfold cpA; exact ups_s _ _ _ _
theorem cpA_j {τ : St} {p q n i : Nat} (h : i ≠ n) : cpA τ p q n p i = τ p i := by unfold cpA; exact ups_j h
theorem tcp_it {k j : Nat} (hd : j + 5 < k ∨ k + 5 < j) (τ : St) : ∀ N, (∀ q, q < k + 1 ∨ k + 5 < q → itr (tcpst k j) N τ q = τ q) ∧ ∀ n, n < N → itr (tcpst k j) N τ (k + 1) n = τ (j + 1) n ∧ itr (tcpst k j) N τ (k + 2) n = τ (j + 2) n ∧ itr (tcpst k j) N τ (k + 3) n = τ (j + 3) n ∧ itr (tcpst k j) N τ (k + 4) n = τ (j + 4) n ∧ itr (tcpst k j) N τ (k + 5) n = τ (j + 5) n
  | 0 => ⟨fun _ _ => rfl, fun n h => absurd h (Nat.not_lt_zero n)⟩
  | N + 1 => by
    obtain ⟨ih1, ih2⟩ := tcp_it hd τ N
    have e : itr (tcpst k j) (N + 1) τ = tcpst k j N (itr (tcpst k j) N τ) := rfl
    rw [e]
    unfold tcpst
    refine ⟨fun q hq => ?_, fun n hn => ?_⟩
    · rw [cpA_ne (by omega), cpA_ne (by omega), cpA_ne (by omega), cpA_ne (by omega), cpA_ne (by omega)]; exact ih1 q hq
    · by_cases en : n = N
      · subst en
        refine ⟨?_, ?_, ?_, ?_, ?_⟩
        · rw [cpA_ne (show k + 1 ≠ k + 5 by omega), cpA_ne (show k + 1 ≠ k + 4 by omega), cpA_ne (show k + 1 ≠ k + 3 by omega), cpA_ne (show k + 1 ≠ k + 2 by omega), cpA_at]; exact congrFun (ih1 (j + 1) (by omega)) n
        · rw [cpA_ne (show k + 2 ≠ k + 5 by omega), cpA_ne (show k + 2 ≠ k + 4 by omega), cpA_ne (show k + 2 ≠ k + 3 by omega), cpA_at, cpA_ne (show j + 2 ≠ k + 1 by omega)]; exact congrFun (ih1 (j + 2) (by omega)) n
        · rw [cpA_ne (show k + 3 ≠ k + 5 by omega), cpA_ne (show k + 3 ≠ k + 4 by omega), cpA_at, cpA_ne (show j + 3 ≠ k + 2 by omega), cpA_ne (show j + 3 ≠ k + 1 by omega)]; exact congrFun (ih1 (j + 3) (by omega)) n
        · rw [cpA_ne (show k + 4 ≠ k + 5 by omega), cpA_at, cpA_ne (show j + 4 ≠ k + 3 by omega), cpA_ne (show j + 4 ≠ k + 2 by omega), cpA_ne (show j + 4 ≠ k + 1 by omega)]; exact congrFun (ih1 (j + 4) (by omega)) n
        · rw [cpA_at, cpA_ne (show j + 5 ≠ k + 4 by omega), cpA_ne (show j + 5 ≠ k + 3 by omega), cpA_ne (show j + 5 ≠ k + 2 by omega), cpA_ne (show j + 5 ≠ k + 1 by omega)]; exact congrFun (ih1 (j + 5) (by omega)) n
      · obtain ⟨a1, a2, a3, a4, a5⟩ := ih2 n (by omega)
        refine ⟨?_, ?_, ?_, ?_, ?_⟩
        · rw [cpA_ne (show k + 1 ≠ k + 5 by omega), cpA_ne (show k + 1 ≠ k + 4 by omega), cpA_ne (show k + 1 ≠ k + 3 by omega), cpA_ne (show k + 1 ≠ k + 2 by omega), cpA_j en]; exact a1
        · rw [cpA_ne (show k + 2 ≠ k + 5 by omega), cpA_ne (show k + 2 ≠ k + 4 by omega), cpA_ne (show k + 2 ≠ k + 3 by omega), cpA_j en, cpA_ne (show k + 2 ≠ k + 1 by omega)]; exact a2
        · rw [cpA_ne (show k + 3 ≠ k + 5 by omega), cpA_ne (show k + 3 ≠ k + 4 by omega), cpA_j en, cpA_ne (show k + 3 ≠ k + 2 by omega), cpA_ne (show k + 3 ≠ k + 1 by omega)]; exact a3
        · rw [cpA_ne (show k + 4 ≠ k + 5 by omega), cpA_j en, cpA_ne (show k + 4 ≠ k + 3 by omega), cpA_ne (show k + 4 ≠ k + 2 by omega), cpA_ne (show k + 4 ≠ k + 1 by omega)]; exact a4
        · rw [cpA_j en, cpA_ne (show k + 5 ≠ k + 4 by omega), cpA_ne (show k + 5 ≠ k + 3 by omega), cpA_ne (show k + 5 ≠ k + 2 by omega), cpA_ne (show k + 5 ≠ k + 1 by omega)]; exact a5
theorem tcp5_k (σ : St) {k j : Nat} (hd : j + 5 < k ∨ k + 5 < j) : tcp5 σ k j k 0 = σ j 0 ∧ tcp5 σ k j k 1 = σ j 1 ∧ tcp5 σ k j k 2 = σ j 2 ∧ tcp5 σ k j k 3 = σ j 3 ∧ tcp5 σ k j k 4 = 0 ∧ tcp5 σ k j k 5 = σ j 5 ∧ ∀ q, q ≠ k → tcp5 σ k j q = σ q := by
  have hk : j ≠ k := by omega
  unfold tcp5 tcp4 tcp3 tcp2 tcp1 tcp0
  refine ⟨?_, ?_, ?_, ?_, ?_, ?_, fun q hq => ?_⟩
  · simp [ups, hk]
  · simp [ups, hk]
  · simp [ups, hk]
  · simp [ups, hk]
  · simp [ups, hk]
  · simp [ups, hk]
  · rw [ups_other hq, ups_other hq, ups_other hq, ups_other hq, ups_other hq, ups_other hq]
theorem tcopy_v (σ : St) {k j : Nat} (hd : j + 5 < k ∨ k + 5 < j) : (tcopy σ k j k 0 = σ j 0 ∧ tcopy σ k j k 1 = σ j 1 ∧ tcopy σ k j k 2 = σ j 2 ∧ tcopy σ k j k 3 = σ j 3 ∧ tcopy σ k j k 4 = 0 ∧ tcopy σ k j k 5 = σ j 5) ∧ ∀ n, n < 6 → tcopy σ k j (k + 1) n = σ (j + 1) n ∧ tcopy σ k j (k + 2) n = σ (j + 2) n ∧ tcopy σ k j (k + 3) n = σ (j + 3) n ∧ tcopy σ k j (k + 4) n = σ (j + 4) n ∧ tcopy σ k j (k + 5) n = σ (j + 5) n := by
  obtain ⟨h1, h2⟩ := tcp_it hd (tcp5 σ k j) 6
  obtain ⟨a0, a1, a2, a3, a4, a5, ao⟩ := tcp5_k σ hd
  unfold tcopy
  refine ⟨?_, fun n hn => ?_⟩
  · rw [h1 k (by omega)]; exact ⟨a0, a1, a2, a3, a4, a5⟩
  · have := h2 n hn
    rw [ao (j + 1) (by omega), ao (j + 2) (by omega), ao (j + 3) (by omega), ao (j + 4) (by omega), ao (j + 5) (by omega)] at this
    exact this
theorem man_it (μ : St) : ∀ N, (∀ q, q ≠ 50 → q ≠ 51 → q ≠ 52 → itr man N μ q = μ q) ∧ ∀ n, n < N → itr man N μ 50 n = μ 46 n ∧ itr man N μ 51 n = μ 47 n ∧ itr man N μ 52 n = 0
  | 0 => ⟨fun _ _ _ _ => rfl, fun n h => absurd h (Nat.not_lt_zero n)⟩
  | N + 1 => by
    obtain ⟨ih1, ih2⟩ := man_it μ N
    have e : itr man (N + 1) μ = man N (itr man N μ) := rfl
    rw [e]
    generalize itr man N μ = ρ at ih1 ih2 ⊢
    unfold man
    refine ⟨fun q h1 h2 h3 => ?_, fun n hn => ?_⟩
    · rw [ups_other h3, cpA_ne h2, cpA_ne h1]; exact ih1 q h1 h2 h3
    · rw [ups_other (show (50 : Nat) ≠ 52 by decide), ups_other (show (51 : Nat) ≠ 52 by decide), cpA_ne (show (50 : Nat) ≠ 51 by decide)]
      by_cases en : n = N
      · subst en
        rw [cpA_at, cpA_at, ups_s, cpA_ne (show (47 : Nat) ≠ 50 by decide), ih1 46 (by decide) (by decide) (by decide), ih1 47 (by decide) (by decide) (by decide)]
        exact ⟨rfl, rfl, rfl⟩
      · rw [cpA_j en, cpA_j en, ups_j en, cpA_ne (show (51 : Nat) ≠ 50 by decide), cpA_ne (show (52 : Nat) ≠ 51 by decide), cpA_ne (show (52 : Nat) ≠ 50 by decide)]
        exact ih2 n (by omega)
theorem mnp_it (μ : St) : ∀ N, (∀ q, q ≠ 53 → itr mnp N μ q = μ q) ∧ ∀ n, n < N → itr mnp N μ 53 n = 0
  | 0 => ⟨fun _ _ => rfl, fun n h => absurd h (Nat.not_lt_zero n)⟩
  | N + 1 => by
    obtain ⟨ih1, ih2⟩ := mnp_it μ N
    have e : itr mnp (N + 1) μ = mnp N (itr mnp N μ) := rfl
    rw [e]
    unfold mnp
    refine ⟨fun q h1 => ?_, fun n hn => ?_⟩
    · rw [ups_other h1]; exact ih1 q h1
    · by_cases en : n = N
      · subst en; rw [ups_s]
      · rw [ups_j en]; exact ih2 n (by omega)
theorem mNow_v (μ : St) : (∀ n, n < 6 → mNow μ 50 n = μ 46 n ∧ mNow μ 51 n = μ 47 n ∧ mNow μ 52 n = 0) ∧ ∀ c, c < 3 → mNow μ 53 c = 0 := by
  obtain ⟨a1, a2⟩ := man_it μ 6
  obtain ⟨b1, b2⟩ := mnp_it (itr man 6 μ) 3
  unfold mNow mn3 mn2 mn1
  refine ⟨fun n hn => ?_, fun c hc => ?_⟩
  · rw [ups_other (by decide), ups_other (by decide), ups_other (by decide), ups_other (show (51 : Nat) ≠ 42 by decide), ups_other (show (51 : Nat) ≠ 42 by decide), ups_other (show (51 : Nat) ≠ 42 by decide), ups_other (show (52 : Nat) ≠ 42 by decide), ups_other (show (52 : Nat) ≠ 42 by decide), ups_other (show (52 : Nat) ≠ 42 by decide), b1 50 (by decide), b1 51 (by decide), b1 52 (by decide)]
    exact a2 n hn
  · rw [ups_other (by decide), ups_other (by decide), ups_other (by decide)]; exact b2 c hc
theorem rr_now {σ μ : St} (h : Main σ μ) : RR σ 1 (mNow μ) := by
  obtain ⟨⟨c1, c2, c3, c4, c5, c6⟩, ca, cs, rL, rF, rS, r4, r5, r6⟩ := h
  obtain ⟨v1, v2⟩ := mNow_v μ
  refine ⟨?_, fun n hn => ?_, rL, r5⟩
  · rw [mNow_42 μ (by decide) (by decide) (by decide), mNow_now, mNow_gua, mNow_42 μ (by decide) (by decide) (by decide), mNow_42 μ (by decide) (by decide) (by decide)]
    exact ⟨c1, c2, c3, c4, c5⟩
  · rw [mNow_ne μ (by decide) (by decide) (by decide) (by decide) (by decide), mNow_ne μ (by decide) (by decide) (by decide) (by decide) (by decide), mNow_ne μ (by decide) (by decide) (by decide) (by decide) (by decide), (v1 n hn).1, (v1 n hn).2.1]
    exact ca n hn
theorem rr_copy {σ μ : St} (h : RR σ 1 μ) : RR (tcopy σ 7 1) 7 μ := by
  obtain ⟨⟨c1, c2, c3, c4, c5⟩, ca, rL, r5⟩ := h
  obtain ⟨⟨v0, v1, v2, v3, v4, v5⟩, va⟩ := tcopy_v σ (k := 7) (j := 1) (by decide)
  refine ⟨?_, fun n hn => ?_, ?_, fun n hn => ?_⟩
  · rw [v0, v1, v2, v3, v5]; exact ⟨c1, c2, c3, c4, c5⟩
  · obtain ⟨a1, a2, a3, a4, a5⟩ := va n hn
    rw [a1, a2, a3, a4, a5]; exact ca n hn
  · rw [v0, v1]; exact rL
  · rw [(va n hn).2.2.1]; exact r5 n hn
theorem rf_copy {σ μ : St} (h : Main σ μ) : RF (tcopy σ 7 1) (mNow μ) := ⟨rr_copy (rr_now h), by rw [(tcopy_v σ (k := 7) (j := 1) (by decide)).1.2.2.2.2.1, mNow_fin]⟩
/-! rides, tunnels, holders -/
theorem rr_rd {σ μ : St} {k : Nat} (h : RR σ k μ) {n : Nat} (hn : n < 6) (m : Int32) : trd σ k (nI n) m = mrd μ (nI n) m := by
  unfold trd
  refine rd_mrd (isTr_nI hn) ?_ ?_ h.1.1 m
  · rw [ix_nI (by omega)]; exact (h.2.1 n hn).1
  · rw [ix_nI (by omega)]; exact (h.2.1 n hn).2.1
theorem mrd_end {μ : St} {t m : Int32} (h : ¬ m < μ 42 0) : mrd μ t m = false := by
  unfold mrd; rw [decide_eq_false h]; simp
theorem itr_id {α : Type} {f : Nat → α → α} {N : Nat} {a : α} (h : ∀ n, n < N → f n a = a) : itr f N a = a := by
  induction N with
  | zero => rfl
  | succ n ih =>
    have e : itr f (n + 1) a = f n (itr f n a) := rfl
    rw [e, ih (fun m hm => h m (by omega)), h n (by omega)]
theorem mh_end {μ : St} (c : Int32) (h : ¬ μ 42 16 < μ 42 0) : mhold μ c = -6 := by
  unfold mhold
  refine itr_id (fun n _ => ?_)
  unfold mhst mmay
  rw [decide_eq_false h]; simp
theorem rr_hold {σ μ : St} {k : Nat} (h : RR σ k μ) (c : Int32) : thold σ k c = mhold μ c := by
  obtain ⟨⟨c1, c2, c3, c4, c5⟩, ca, ⟨L, M, hL, hL2, hM, eL, eM⟩, r5⟩ := id h
  by_cases hlt : M < L
  · have em : μ 42 16 = nI M := by rw [← c2, eM]
    have el : μ 42 0 = nI L := by rw [← c1, eL]
    have hlt2 : nI M < nI L := nI_lt hlt (by omega)
    unfold thold ttn
    rw [eM, c5, tn_bt (by omega)]
    cases hb : bt (μ 42 1) M with
    | true =>
      rw [if_pos rfl]
      unfold mhold
      refine (itr_id (fun n _ => ?_)).symm
      unfold mhst mmay
      rw [em, hasB_bt (by omega), hb]; simp
    | false =>
      rw [if_neg (by decide)]
      have key : ∀ n, n ≤ 6 → ∃ w, itr (hst σ k c) n (-6, 0) = (itr (mhst μ c) n (-6), w) ∧ ((itr (mhst μ c) n (-6) = -6 ∧ w = 0) ∨ ∃ j, j < 6 ∧ itr (mhst μ c) n (-6) = nI j ∧ w = μ 51 j ∧ 0 < w) := by
        intro n
        induction n with
        | zero => intro _; exact ⟨0, rfl, Or.inl ⟨rfl, rfl⟩⟩
        | succ n ih =>
          intro hn
          obtain ⟨w, e1, e2⟩ := ih (by omega)
          have x1 : itr (hst σ k c) (n + 1) (-6, 0) = hst σ k c n (itr (hst σ k c) n (-6, 0)) := rfl
          have x2 : itr (mhst μ c) (n + 1) (-6) = mhst μ c n (itr (mhst μ c) n (-6)) := rfl
          obtain ⟨a1, a2, a3, a4, a5⟩ := ca n (by omega)
          have hmm : mmay μ c n = (mrd μ (nI n) (nI M) && (decide (μ 45 n = c) && (decide (0 < μ 51 n) && !decide (μ 50 n < μ 51 n)))) := by
            unfold mmay; rw [em, el, decide_eq_true hlt2, hasB_bt (by omega), hb]; simp
          rw [x1, x2, e1]
          generalize itr (mhst μ c) n (-6) = a at e2 ⊢
          unfold hst mhst
          rw [hmm, rr_rd h (by omega), eM, a3, a4, a5]
          dsimp only
          rcases e2 with ⟨ea, ew⟩ | ⟨j, hj, ea, ew, hw0⟩
          · subst ea; subst ew
            by_cases hc : ((decide (0 < μ 51 n) && !decide (μ 50 n < μ 51 n)) && (decide (μ 45 n = c) && mrd μ (nI n) (nI M))) = true
            · have hc2 : (mrd μ (nI n) (nI M) && (decide (μ 45 n = c) && (decide (0 < μ 51 n) && !decide (μ 50 n < μ 51 n))) && (decide ((-6 : Int32) < 0) || decide (μ 51 (ix (-6)) < μ 51 n))) = true := by
                simp only [Bool.and_eq_true] at hc ⊢
                exact ⟨⟨hc.2.2, hc.2.1, hc.1.1, hc.1.2⟩, by rfl⟩
              rw [if_pos hc, if_pos hc2]
              simp only [Bool.and_eq_true, decide_eq_true_eq] at hc
              exact ⟨μ 51 n, rfl, Or.inr ⟨n, by omega, rfl, rfl, hc.1.1⟩⟩
            · have hc2 : ¬ (mrd μ (nI n) (nI M) && (decide (μ 45 n = c) && (decide (0 < μ 51 n) && !decide (μ 50 n < μ 51 n))) && (decide ((-6 : Int32) < 0) || decide (μ 51 (ix (-6)) < μ 51 n))) = true := by
                intro hx; apply hc
                simp only [Bool.and_eq_true] at hx ⊢
                exact ⟨⟨hx.1.2.2.1, hx.1.2.2.2⟩, hx.1.2.1, hx.1.1⟩
              rw [if_neg hc, if_neg hc2]
              exact ⟨0, rfl, Or.inl ⟨rfl, rfl⟩⟩
          · subst ea; subst ew
            rw [ix_nI (by omega), decide_eq_false (nI_pos (show j < 2 ^ 31 by omega)), Bool.false_or]
            by_cases hc : ((decide (μ 51 j < μ 51 n) && !decide (μ 50 n < μ 51 n)) && (decide (μ 45 n = c) && mrd μ (nI n) (nI M))) = true
            · have hpos : 0 < μ 51 n := by
                simp only [Bool.and_eq_true, decide_eq_true_eq] at hc
                exact Int32.lt_trans hw0 hc.1.1
              have hc2 : (mrd μ (nI n) (nI M) && (decide (μ 45 n = c) && (decide (0 < μ 51 n) && !decide (μ 50 n < μ 51 n))) && decide (μ 51 j < μ 51 n)) = true := by
                simp only [Bool.and_eq_true] at hc ⊢
                exact ⟨⟨hc.2.2, hc.2.1, decide_eq_true hpos, hc.1.2⟩, hc.1.1⟩
              rw [if_pos hc, if_pos hc2]
              exact ⟨μ 51 n, rfl, Or.inr ⟨n, by omega, rfl, rfl, hpos⟩⟩
            · have hc2 : ¬ (mrd μ (nI n) (nI M) && (decide (μ 45 n = c) && (decide (0 < μ 51 n) && !decide (μ 50 n < μ 51 n))) && decide (μ 51 j < μ 51 n)) = true := by
                intro hx; apply hc
                simp only [Bool.and_eq_true] at hx ⊢
                exact ⟨⟨hx.2, hx.1.2.2.2⟩, hx.1.2.1, hx.1.1⟩
              rw [if_neg hc, if_neg hc2]
              exact ⟨μ 51 j, rfl, Or.inr ⟨j, hj, rfl, rfl, hw0⟩⟩
      obtain ⟨w, e1, -⟩ := key 6 (by omega)
      rw [e1]; rfl
  · have hEnd : ¬ μ 42 16 < μ 42 0 := by rw [← c2, ← c1, eM, eL]; exact nI_nlt (by omega) (by omega)
    rw [mh_end c hEnd]
    unfold thold
    split
    · rfl
    · have : itr (hst σ k c) 6 (-6, 0) = (-6, 0) := itr_id (fun n hn => by
        unfold hst
        rw [rr_rd h hn, c2, mrd_end hEnd]; simp)
      rw [this]
theorem mh_val (μ : St) (c : Int32) : mhold μ c = -6 ∨ ∃ j, j < 6 ∧ mhold μ c = nI j := mh_rng μ c 6 (Nat.le_refl 6)
theorem mh_m6 (μ : St) (c : Int32) : decide (mhold μ c = -6) = decide (mhold μ c < 0) := by
  rcases mh_val μ c with h | ⟨j, hj, h⟩
  · rw [h]; rfl
  · rw [h, decide_eq_false (nI_pos (show j < 2 ^ 31 by omega)), decide_eq_false (fun e => by
      have := congrArg Int32.toInt e
      rw [nI_toInt (by omega)] at this
      have e6 : (-6 : Int32).toInt = -6 := rfl
      omega)]
theorem mh_tr (μ : St) (c : Int32) : isTr (mhold μ c) = !decide (mhold μ c < 0) := by
  rcases mh_val μ c with h | ⟨j, hj, h⟩
  · rw [h]; rfl
  · rw [h, isTr_nI hj, decide_eq_false (nI_pos (show j < 2 ^ 31 by omega))]; rfl
theorem rr_may {σ μ : St} {k : Nat} (h : RR σ k μ) {n : Nat} (hn : n < 6) : tmay σ k (nI n) = mspk μ (nI n) := by
  unfold tmay mspk
  rw [isTr_nI hn, Bool.true_and, h.1.2.1, rr_rd h hn, ix_nI (by omega), (h.2.1 n hn).2.2.1, rr_hold h, mh_m6]
