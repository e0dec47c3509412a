/-! the auction -/
def lvA (e : Nat) : Int32 := if nI e = 0 then -6 else 1 - rem (nI e) 2
def lvB (e : Nat) : Int32 := if nI e = 0 then -6 else nI e
theorem au_19 : ∀ n, n < 20 → (19 : Int32) - nI n = nI (19 - n) := by decide
theorem au_wB : ∀ k, k < 20 → -(wBf (nI k)) = if nI k = 0 then 0 else 1 - nI k := by decide
theorem au_wE : ∀ e, e < 21 → 1 ≤ e → -(wBf (nI e)) = 1 - nI e := by decide
theorem au_par : ∀ e, e < 21 → 1 ≤ e → lvA e = 1 - nI (e % 2) := by
  intro e h1 h2
  unfold lvA
  rw [if_neg (nI_ne0 (by omega) (by omega)), show rem (nI e) 2 = nI (e % 2) from remN (d := 2) (by omega) (by decide) (by decide)]
theorem au_par2 : ∀ a, a < 2 → ∀ b, b < 2 → ((1 - nI a = nI b) ↔ a = 1 - b) := by decide
theorem lv_v (τ : St) (k : Nat) : sLv τ (nI k) 21 0 = lvA k ∧ sLv τ (nI k) 21 1 = lvB k ∧ sLv τ (nI k) 21 2 = wBf (nI k) := by
  unfold sLv sLv2 sLv1 lvA lvB
  refine ⟨?_, ?_, ?_⟩
  · rw [ups_j (by decide), ups_j (by decide), ups_s]
  · rw [ups_j (by decide), ups_s]
  · rw [ups_s]
theorem i20 : (20 : Int32) = nI 20 := by decide
theorem au_step {τ ρ : St} {f s : Int32} {n e : Nat} (hn : n < 20) (he : 1 ≤ e) (h2 : e ≤ 20) (h3 : ρ 54 (20 - n) = nI e) (h4 : τ 21 0 = lvA e) (h5 : τ 21 1 = lvB e) (h6 : τ 21 2 = wBf (nI e)) : ∃ e, (1 ≤ e ∨ n + 1 = 20) ∧ e ≤ 20 ∧ maF f s n ρ 54 (20 - (n + 1)) = nI e ∧ sSt f s n τ 21 0 = lvA e ∧ sSt f s n τ 21 1 = lvB e ∧ sSt f s n τ 21 2 = wBf (nI e) := by
  obtain ⟨k, hk, ek⟩ : ∃ k, k < 20 ∧ 19 - n = k := ⟨19 - n, by omega, rfl⟩
  have e19 : (19 : Int32) - nI n = nI k := by rw [au_19 n (by omega), ek]
  have eE : maE ρ n = nI e := by
    unfold maE; rw [e19, nI_1, ix_nI (by omega), show k + 1 = 20 - n by omega, h3]
  have r2 : ∀ m, m < 100 → rem (nI m) 2 = nI (m % 2) := fun m hm => remN (d := 2) (by omega) (by decide) (by decide)
  have hL : maL n = -(wBf (nI k)) := by unfold maL; rw [e19, au_wB k hk]
  have hG : maG f s ρ n = sVal τ (rem (nI k) 2) (if rem (nI k) 2 = 0 then f else s) := by
    unfold maG sVal
    rw [eE, e19, h4, h5, h6, nI_1, r2 e (by omega), r2 (k + 1) (by omega), r2 k (by omega), au_par e (by omega) he, au_wE e (by omega) he]
    have hB : lvB e = nI e := by unfold lvB; rw [if_neg (nI_ne0 (by omega) (by omega))]
    rw [hB]
    have c : (nI (e % 2) = nI ((k + 1) % 2)) ↔ (1 - nI (e % 2) = nI (k % 2)) := by
      rw [nI_eq (by omega) (by omega), au_par2 (e % 2) (by omega) (k % 2) (by omega)]
      omega
    by_cases hc : nI (e % 2) = nI ((k + 1) % 2)
    · rw [if_pos hc, if_pos (c.mp hc)]
    · rw [if_neg hc, if_neg (fun q => hc (c.mpr q))]
  have hik : ix (19 - nI n) = k := by rw [e19]; exact ix_nI (by omega)
  unfold maF sSt
  rw [hik, hL, hG, eE, e19, show 20 - (n + 1) = k by omega, ups_s]
  by_cases hc : -(wBf (nI k)) < sVal τ (rem (nI k) 2) (if rem (nI k) 2 = 0 then f else s)
  · rw [if_pos hc, if_pos hc]
    exact ⟨e, Or.inl he, h2, rfl, h4, h5, h6⟩
  · rw [if_neg hc, if_neg hc]
    exact ⟨k, by omega, by omega, rfl, (lv_v τ k).1, (lv_v τ k).2.1, (lv_v τ k).2.2⟩
theorem au_it (ρ τ : St) (f s : Int32) (h3 : ρ 54 20 = nI 20) (h4 : τ 21 0 = lvA 20) (h5 : τ 21 1 = lvB 20) (h6 : τ 21 2 = wBf (nI 20)) (n : Nat) : n ≤ 20 → ∃ e, (1 ≤ e ∨ n = 20) ∧ e ≤ 20 ∧ itr (maF f s) n ρ 54 (20 - n) = nI e ∧ itr (sSt f s) n τ 21 0 = lvA e ∧ itr (sSt f s) n τ 21 1 = lvB e ∧ itr (sSt f s) n τ 21 2 = wBf (nI e) := by
  induction n with
  | zero => intro _; exact ⟨20, Or.inl (by omega), by omega, h3, h4, h5, h6⟩
  | succ n ih =>
    intro hn
    obtain ⟨e, h1, h2, h3, h4, h5, h6⟩ := ih (by omega)
    have x1 : itr (maF f s) (n + 1) ρ = maF f s n (itr (maF f s) n ρ) := rfl
    have x2 : itr (sSt f s) (n + 1) τ = sSt f s n (itr (sSt f s) n τ) := rfl
    rw [x1, x2]
    exact au_step (by omega) (by omega) h2 h3 h4 h5 h6
theorem A_auc (σ μ : St) (f s w : Int32) : (X_auc σ f s w).1 = (Y_auc μ f s w).1 := by
  unfold X_auc Y_auc
  by_cases hc : ((wth f 0 20 && wth s 0 20) && wth w 0 1) = true
  · rw [if_pos hc, if_pos hc]
    simp only [Bool.and_eq_true] at hc
    obtain ⟨v, hv, rfl⟩ := (wth_0 (b := 1) (B := 1) rfl (by decide)).mp hc.2
    have q20 : ix (20 : Int32) = 20 := by rw [i20]; exact ix_nI (by decide)
    have q0 : ix (0 : Int32) = 0 := by rw [← nI_0]; exact ix_nI (by decide)
    obtain ⟨e, h1, h2, h3, h4, h5, h6⟩ := au_it (ups μ 54 (ix 20) 20) (sLv σ 20) f s (by rw [q20, ups_s, i20]) (by rw [i20]; exact (lv_v σ 20).1) (by rw [i20]; exact (lv_v σ 20).2.1) (by rw [i20]; exact (lv_v σ 20).2.2) 20 (Nat.le_refl 20)
    dsimp only
    unfold maA sSet
    rw [q0, show (0 : Nat) = 20 - 20 from (Nat.sub_self 20).symm, h3, h4, h5]
    unfold lvA lvB
    by_cases h0 : nI e = 0
    · rw [if_pos h0, if_pos h0, if_pos h0]; split <;> rfl
    · rw [if_neg h0, if_neg h0, if_neg h0]
      rcases (show v = 0 ∨ v = 1 by omega) with rfl | rfl
      · rw [if_pos (show nI 0 = 0 by decide), if_neg (show ¬ nI 0 = 1 by decide), show rem (nI e) 2 = nI (e % 2) from remN (d := 2) (by omega) (by decide) (by decide)]
        rcases (show e % 2 = 0 ∨ e % 2 = 1 by omega) with q | q
        · rw [q]; decide
        · rw [q]; decide
      · rw [if_neg (show ¬ nI 1 = 0 by decide), if_pos (show nI 1 = 1 by decide)]
  · rw [if_neg hc, if_neg hc]
theorem sx_lv (σ : St) (n : Int32) : SameX σ (sLv σ n) := sx_tr (sx_ups _ _ _ (by omega)) (sx_tr (sx_ups _ _ _ (by omega)) (sx_ups _ _ _ (by omega)))
theorem sx_sSt (f s : Int32) (n : Nat) (τ : St) : SameX τ (sSt f s n τ) := by
  unfold sSt
  generalize sVal τ (rem (19 - nI n) 2) (if rem (19 - nI n) 2 = 0 then f else s) = v
  split
  · exact sx_rf τ
  · exact sx_lv τ _
theorem sx_sSet (σ : St) (f s : Int32) : SameX σ (sSet σ f s) := by
  unfold sSet
  generalize (20 : Nat) = N
  exact sx_tr (sx_lv σ 20) (sx_itr (f := sSt f s) (sx_sSt f s) N (sLv σ 20))
theorem SX_auc (σ : St) (f s w : Int32) : SameX σ (X_auc σ f s w).2 := by
  unfold X_auc; split
  · dsimp only; exact sx_sSet σ f s
  · exact sx_rf σ
theorem SY_auc (μ : St) (f s w : Int32) : SameY μ (Y_auc μ f s w).2 := by
  unfold Y_auc; split
  · show SameY μ (maA μ f s)
    unfold maA
    refine sy_tr (sy_ups μ _ _ (by omega)) (sy_itr (fun n τ => ?_) 20 _)
    unfold maF; exact sy_ups τ _ _ (by omega)
  · exact sy_rf μ
/-! words -/
theorem isTr_seat {σ μ : St} {k : Nat} (h : RR σ k μ) {n : Nat} (hn : n < 6) : ∃ c, c < 3 ∧ μ 45 n = nI c := by
  obtain ⟨c, hc, e⟩ := h.2.2.2 n hn
  exact ⟨c, hc, by rw [← (h.2.1 n hn).2.2.1]; exact e⟩
/-- the known set after a minute, by bits -/
def knB (μ : St) (m : Int32) (K : Nat → Bool) (i : Nat) : Bool := K i || (decide (i < 6) && exB (fun x => (mrd μ (nI i) m && (mrd μ (nI x) m && decide (μ 45 i = μ 45 x))) && K x) 6)
theorem b_or_it (g : Nat → Int32) (a : Int32) {i : Nat} : ∀ N, bt (itr (fun n x => x ||| g n) N a) i = (bt a i || exB (fun n => bt (g n) i) N)
  | 0 => by rw [show itr (fun n x => x ||| g n) 0 a = a from rfl]; simp [exB]
  | N + 1 => by
    have e : itr (fun n x => x ||| g n) (N + 1) a = itr (fun n x => x ||| g n) N a ||| g N := rfl
    have e2 : exB (fun n => bt (g n) i) (N + 1) = (exB (fun n => bt (g n) i) N || bt (g N) i) := rfl
    rw [e, e2, b_or, b_or_it g a N, Bool.or_assoc]
theorem exB_congr {P Q : Nat → Bool} : ∀ {N : Nat}, (∀ n, n < N → P n = Q n) → exB P N = exB Q N
  | 0, _ => rfl
  | N + 1, h => by
    have e1 : ∀ P : Nat → Bool, exB P (N + 1) = (exB P N || P N) := fun _ => rfl
    rw [e1, e1, exB_congr (fun n hn => h n (by omega)), h N (by omega)]
theorem exB_iff {P : Nat → Bool} {N : Nat} : exB P N = true ↔ ∃ i, i < N ∧ P i = true := by
  constructor
  · intro h
    refine Classical.byContradiction (fun hn => ?_)
    have : exB P N = false := exB_f.mpr (fun i hi => by
      cases hp : P i with
      | false => rfl
      | true => exact absurd ⟨i, hi, hp⟩ hn)
    rw [this] at h; cases h
  · rintro ⟨i, hi, hp⟩; exact exB_t hi hp
