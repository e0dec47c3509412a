/-! seatings: the digits -/
def allB (P : Nat → Bool) : Nat → Bool
  | 0 => true
  | n + 1 => allB P n && P n
theorem allB_congr {P Q : Nat → Bool} : ∀ {n : Nat}, (∀ i, i < n → P i = Q i) → allB P n = allB Q n
  | 0, _ => rfl
  | n + 1, h => by
    have e : ∀ P : Nat → Bool, allB P (n + 1) = (allB P n && P n) := fun _ => rfl
    rw [e, e, allB_congr (fun i hi => h i (by omega)), h n (by omega)]
theorem allB_iff {P : Nat → Bool} : ∀ {n : Nat}, allB P n = true ↔ ∀ i, i < n → P i = true
  | 0 => ⟨fun _ i h => absurd h (Nat.not_lt_zero i), fun _ => rfl⟩
  | n + 1 => by
    have e : allB P (n + 1) = (allB P n && P n) := rfl
    rw [e, Bool.and_eq_true, allB_iff]
    constructor
    · rintro ⟨h1, h2⟩ i hi
      rcases Nat.lt_or_ge i n with q | q
      · exact h1 i q
      · rw [show i = n by omega]; exact h2
    · intro h; exact ⟨fun i hi => h i (by omega), h n (by omega)⟩
def dg (e k : Nat) : Nat := e / 4 ^ (5 - k) % 4
theorem vld_all (R : Nat → Bool) (e : Nat) : ∀ k, k ≤ 6 → vld R k (e / 4 ^ (6 - k)) = allB (fun j => R j == decide (dg e j < 3)) k
  | 0, _ => rfl
  | k + 1, hk => by
    have e1 : vld R (k + 1) (e / 4 ^ (6 - (k + 1))) = (vld R k (e / 4 ^ (6 - (k + 1)) / 4) && (R k == decide (e / 4 ^ (6 - (k + 1)) % 4 < 3))) := rfl
    have e2 : allB (fun j => R j == decide (dg e j < 3)) (k + 1) = (allB (fun j => R j == decide (dg e j < 3)) k && (R k == decide (dg e k < 3))) := rfl
    have e3 : e / 4 ^ (6 - (k + 1)) / 4 = e / 4 ^ (6 - k) := by
      rw [Nat.div_div_eq_div_mul, ← Nat.pow_succ, show (6 - (k + 1)).succ = 6 - k by omega]
    rw [e1, e2, e3, vld_all R e k (by omega)]
    unfold dg
    rw [show 6 - (k + 1) = 5 - k by omega]
theorem mDg_eq {e k : Nat} (he : e < 4096) (hk : k < 6) : mDg (nI e) (nI k) = nI (dg e k) := by
  have a : ∀ k, k < 6 → (2 : Int32) * (5 - nI k) = nI (2 * (5 - k)) := by decide
  unfold mDg dg
  rw [a k hk, pk_shrN (by omega) _ (2 * (5 - k)) (s_l _ (by omega)), pk_andN (m := 3) (by have := Nat.div_le_self e (2 ^ (2 * (5 - k))); omega) 2 (by decide)]
  rw [Nat.pow_mul]
theorem enc_lt (R : Nat → Bool) : ∀ k c, c < many R k → enc R k c < 4 ^ k
  | 0, c, _ => by rw [show enc R 0 c = 0 from rfl]; decide
  | k + 1, c, h => by
    have e4 : 4 ^ (k + 1) = 4 * 4 ^ k := by rw [Nat.pow_succ, Nat.mul_comm]
    rw [show many R (k + 1) = if R k then 3 * many R k else many R k from rfl] at h
    rw [enc, e4]
    cases hR : R k with
    | true =>
      rw [hR, if_pos rfl] at h
      rw [if_pos rfl]
      have := enc_lt R k (c / 3) (by omega)
      omega
    | false =>
      rw [hR, if_neg (by decide)] at h
      rw [if_neg (by decide)]
      have := enc_lt R k c h
      omega
theorem many_le (R : Nat → Bool) : ∀ k, many R k ≤ 3 ^ k
  | 0 => Nat.le_refl 1
  | k + 1 => by
    have ih := many_le R k
    rw [show many R (k + 1) = if R k then 3 * many R k else many R k from rfl, Nat.pow_succ]
    split <;> omega
theorem sp_it {τ : St} {R : Nat → Bool} (hR : ∀ k, k < 6 → sRid τ (nI k) = R k) {c : Nat} (hc : c < 2 ^ 30) : ∀ n, n ≤ 6 → ∃ (d : Nat) (ρ : St), itr sSp n (nI c, τ) = (nI d, ρ) ∧ d ≤ c ∧ (∀ q, q ≠ 20 → ρ q = τ q) ∧ enc R (6 - n) d = enc R 6 c / 4 ^ n ∧ ∀ k, k < 6 → 6 - n ≤ k → ρ 20 k = nI (dg (enc R 6 c) k)
  | 0, _ => ⟨c, τ, rfl, Nat.le_refl c, fun _ _ => rfl, by rw [Nat.pow_zero, Nat.div_one, Nat.sub_zero], fun k h1 h2 => absurd h1 (by omega)⟩
  | n + 1, hn => by
    obtain ⟨d, ρ, h1, h2, h3, h4, h5⟩ := sp_it hR hc n (by omega)
    have x1 : itr sSp (n + 1) (nI c, τ) = sSp n (itr sSp n (nI c, τ)) := rfl
    have e5 : ∀ n, n < 6 → (5 : Int32) - nI n = nI (5 - n) := by decide
    rw [x1, h1]
    obtain ⟨k, hk, ek⟩ : ∃ k, k < 6 ∧ 5 - n = k := ⟨5 - n, by omega, rfl⟩
    have h19 : ρ 19 = τ 19 := h3 19 (by decide)
    have hrid : sRid ρ (nI k) = R k := by rw [← hR k hk]; unfold sRid; rw [h19]
    have hen : enc R (k + 1) d = enc R 6 c / 4 ^ n := by rw [← h4, show 6 - n = k + 1 by omega]
    have hdig : enc R (k + 1) d % 4 = dg (enc R 6 c) k := by unfold dg; rw [hen, show 5 - k = n by omega]
    have hnext : enc R 6 c / 4 ^ (n + 1) = enc R (k + 1) d / 4 := by rw [hen, Nat.pow_succ, Nat.div_div_eq_div_mul]
    unfold sSp
    dsimp only
    rw [e5 n (by omega), ek, hrid, ix_nI (by omega)]
    cases hRk : R k with
    | true =>
      have ed : enc R (k + 1) d = 4 * enc R k (d / 3) + d % 3 := by rw [enc, if_pos hRk]
      have r3 : rem (nI d) 3 = nI (d % 3) := remN (d := 3) (by omega) (by decide) (by decide)
      have q3 : nI d / 3 = nI (d / 3) := pk_div (d := 3) (by omega) (by decide) (by decide)
      rw [if_pos rfl, r3, q3]
      refine ⟨d / 3, _, rfl, by omega, fun q hq => by rw [ups_other hq]; exact h3 q hq, ?_, fun j hj1 hj2 => ?_⟩
      · rw [show 6 - (n + 1) = k by omega, hnext, ed]; omega
      · by_cases ej : j = k
        · subst ej; rw [ups_s, ← hdig, ed]; congr 1; omega
        · rw [ups_j ej]; exact h5 j hj1 (by omega)
    | false =>
      have ed : enc R (k + 1) d = 4 * enc R k d + 3 := by rw [enc, if_neg (by rw [hRk]; decide)]
      rw [if_neg (by decide)]
      refine ⟨d, _, rfl, h2, fun q hq => by rw [ups_other hq]; exact h3 q hq, ?_, fun j hj1 hj2 => ?_⟩
      · rw [show 6 - (n + 1) = k by omega, hnext, ed]; omega
      · by_cases ej : j = k
        · subst ej; rw [ups_s, ← hdig, ed, show (4 * enc R j d + 3) % 4 = 3 by omega]; rfl
        · rw [ups_j ej]; exact h5 j hj1 (by omega)
theorem spr_v {τ : St} {R : Nat → Bool} (hR : ∀ k, k < 6 → sRid τ (nI k) = R k) {c : Nat} (hc : c < 2 ^ 30) : (∀ q, q ≠ 20 → sSpr τ (nI c) q = τ q) ∧ ∀ k, k < 6 → sSpr τ (nI c) 20 k = nI (dg (enc R 6 c) k) := by
  obtain ⟨d, ρ, h1, h2, h3, h4, h5⟩ := sp_it hR hc 6 (Nat.le_refl 6)
  unfold sSpr
  rw [h1]
  exact ⟨h3, fun k hk => h5 k hk (by omega)⟩
