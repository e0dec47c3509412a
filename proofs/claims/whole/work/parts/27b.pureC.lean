/-! counting and rides -/
theorem itr_congr {α : Type} {f g : Nat → α → α} : ∀ {N : Nat} {a : α}, (∀ n, n < N → ∀ x, f n x = g n x) → itr f N a = itr g N a
  | 0, _, _ => rfl
  | n + 1, a, h => by
    have e1 : itr f (n + 1) a = f n (itr f n a) := rfl
    have e2 : itr g (n + 1) a = g n (itr g n a) := rfl
    rw [e1, e2, itr_congr (fun m hm => h m (by omega)), h n (by omega)]
theorem itr_tail {α : Type} {f : Nat → α → α} {L : Nat} {a : α} (h : ∀ n, L ≤ n → ∀ x, f n x = x) : ∀ d, itr f (L + d) a = itr f L a
  | 0 => rfl
  | d + 1 => by
    have e1 : itr f (L + (d + 1)) a = f (L + d) (itr f (L + d) a) := rfl
    rw [e1, h (L + d) (by omega), itr_tail h d]
theorem cntB_add (P : Nat → Bool) (N : Nat) : cntB P N = itr (fun n c => c + (if P n then 1 else 0)) N 0 := by
  unfold cntB
  refine itr_congr (fun n _ x => ?_)
  cases P n <;> simp
theorem cntB_congr {P Q : Nat → Bool} {N : Nat} (h : ∀ n, n < N → P n = Q n) : cntB P N = cntB Q N := by
  unfold cntB
  refine itr_congr (fun n hn x => ?_)
  rw [h n hn]
theorem b_mask : ∀ L, L < 31 → ∀ i, i < 32 → bt (((1 : Int32) <<< (nI L &&& 31)) - 1) i = decide (i < L) := by decide +kernel
theorem mBits_mask {x : Int32} {L : Nat} (hL : L ≤ 30) : mBits (x &&& (((1 : Int32) <<< (nI L &&& 31)) - 1)) = cntB (bt x) L := by
  unfold mBits
  rw [cntB_add]
  have e : ∀ n, n < 30 → ∀ a : Int32, a + (((x &&& (((1 : Int32) <<< (nI L &&& 31)) - 1)) >>> (nI n &&& 31)) &&& 1) = a + (if (bt x n && decide (n < L)) then 1 else 0) := by
    intro n hn a
    rw [bit_shr1 (by omega), b_and, b_mask L (by omega) n (by omega)]
  rw [itr_congr e]
  obtain ⟨d, hd⟩ : ∃ d, 30 = L + d := ⟨30 - L, by omega⟩
  rw [hd, itr_tail (L := L) (fun n hn a => by rw [decide_eq_false (by omega)]; simp) d]
  exact itr_congr (fun n hn a => by rw [decide_eq_true hn, Bool.and_true])
theorem rd_mrd {fr to : Nat → Int32} {len : Int32} {μ : St} {t : Int32} (ht : isTr t = true) (h1 : fr (ix t) = μ 43 (ix t)) (h2 : to (ix t) = μ 44 (ix t)) (h3 : len = μ 42 0) (m : Int32) : rd fr to len t m = mrd μ t m := by
  unfold rd mrd wth
  rw [ht, h1, h2, h3, Bool.eq_iff_iff]
  simp only [Bool.and_eq_true, Bool.not_eq_true', decide_eq_false_iff_not, decide_eq_true_eq, true_and, Int32.lt_iff_toInt_lt]
  have e0 : (0 : Int32).toInt = 0 := rfl
  constructor
  · rintro ⟨a, b, c, d, e⟩; exact ⟨c, b, d, e⟩
  · rintro ⟨c, b, d, e⟩; exact ⟨by omega, b, c, d, e⟩
/-! tunnel -/
theorem tun_val {x : Int32} {n : Nat} {b : Int32} (hn : n < 32) : (if b = 0 then x &&& (((1 : Int32) <<< (nI n &&& 31)) ^^^ (-1)) else x ||| ((1 : Int32) <<< (nI n &&& 31))) = (x &&& (((1 : Int32) <<< (nI n &&& 31)) ^^^ (-1))) ||| (if b = 0 then 0 else ((1 : Int32) <<< (nI n &&& 31))) := by
  refine b_ext (fun i hi => ?_)
  by_cases hb : b = 0
  · rw [if_pos hb, if_pos hb, b_or, b_0, Bool.or_false]
  · rw [if_neg hb, if_neg hb, b_or, b_or, b_and, b_xor, b_m1 i hi]
    cases bt x i <;> cases bt ((1 : Int32) <<< (nI n &&& 31)) i <;> rfl
theorem E_tun {σ μ : St} (h : Inv2 σ μ) (m b : Int32) : (X_tun σ m b).1 = (Y_tun μ m b).1 ∧ Inv2 (X_tun σ m b).2 (Y_tun μ m b).2 := by
  unfold X_tun Y_tun
  rw [isMi_wth]
  by_cases hw : wth m 0 29 = true
  · rw [if_pos hw, if_pos hw]
    obtain ⟨n, hn, rfl⟩ := (wth_0 (b := 29) (B := 29) rfl (by decide)).mp hw
    obtain ⟨⟨c1, c2, c3, c4, c5, c6⟩, ca, cs, ⟨⟨L, M, r1, r2, r3, eL, eM⟩, rF, rS, r4, r5, r6⟩⟩ := h.1
    have ev : X_tunS σ (nI n) b 1 5 = Y_tun2 μ (nI n) b 42 1 := by
      unfold X_tunS Y_tun2 Y_tun1
      rw [ups_s, ups_s, ups_s, c5, tun_val (by omega)]
    have e0 : X_tunS σ (nI n) b 1 0 = nI L := by unfold X_tunS; rw [ups_j (by decide), eL]
    have e0' : Y_tun2 μ (nI n) b 42 0 = nI L := by unfold Y_tun2 Y_tun1; rw [ups_j (by decide), ups_j (by decide), ← c1, eL]
    refine ⟨?_, inv_main h ⟨?_, ?_, ?_, ?_⟩ (fun q h1 h2 _ => ?_) ?_ ?_ ?_ ?_⟩
    · show ttol (X_tunS σ (nI n) b) 1 = mBits _
      rw [e0', mBits_mask r2]
      unfold ttol ttn
      rw [e0, ev, clN_nI (by omega)]
      exact cntB_congr (fun i hi => tn_bt (by omega))
    · refine ⟨?_, ?_, ?_, ?_, ev, ?_⟩
      · unfold X_tunS Y_tun2 Y_tun1; simp [ups, c1]
      · unfold X_tunS Y_tun2 Y_tun1; simp [ups, c2]
      · unfold X_tunS Y_tun2 Y_tun1; simp [ups, c3]
      · unfold X_tunS Y_tun2 Y_tun1; simp [ups, c4]
      · unfold X_tunS Y_tun2 Y_tun1; simp [ups, c6]
    · intro n hn; have := ca n hn; unfold X_tunS Y_tun2 Y_tun1; simpa [ups] using this
    · intro n hn; have := cs n hn; unfold X_tunS Y_tun2 Y_tun1; simpa [ups] using this
    · unfold X_tunS
      refine ⟨⟨L, M, r1, r2, r3, ?_, ?_⟩, ?_, ?_, ?_, ?_, ?_⟩
      · simp [ups, eL]
      · simp [ups, eM]
      · simpa [ups] using rF
      · simpa [ups] using rS
      · intro n hn; have := r4 n hn; simpa [ups] using this
      · intro n hn; have := r5 n hn; simpa [ups] using this
      · intro n hn; have := r6 n hn; simpa [ups] using this
    · unfold X_tunS; dsimp only; rw [ups_other (by omega)]
    · unfold Y_tun2 Y_tun1; simp [ups]
    · unfold Y_tun2 Y_tun1; dsimp only; rw [ups_other (by decide), ups_other (by decide)]
    · unfold Y_tun2 Y_tun1; dsimp only; rw [ups_other (by decide), ups_other (by decide)]
    · unfold Y_tun2 Y_tun1; dsimp only; rw [ups_other (by decide), ups_other (by decide)]
  · rw [if_neg hw, if_neg hw]; exact ⟨rfl, h⟩
/-! ride -/
theorem ride_c (a b : Int32) : ((isMi a && isMi b) && !decide (b < a)) = (wth a 0 29 && wth b a 29) := by
  rw [isMi_wth, isMi_wth, Bool.eq_iff_iff]
  simp only [wth, Bool.and_eq_true, Bool.not_eq_true', decide_eq_false_iff_not, Int32.lt_iff_toInt_lt]
  have e0 : (0 : Int32).toInt = 0 := rfl
  have e29 : (29 : Int32).toInt = 29 := rfl
  omega
/-- a ride set, on both sides the same two numbers -/
theorem ride_inv {σ μ : St} (h : Inv2 σ μ) {i : Nat} (hi : i < 6) {a b : Int32} (hab : (a = -6 ∧ b = -6) ∨ ∃ c d : Nat, c ≤ d ∧ d ≤ 29 ∧ a = nI c ∧ b = nI d) : Inv2 (ups (ups σ 2 i a) 3 i b) (ups (ups μ 43 i a) 44 i b) := by
  obtain ⟨⟨c1, c2, c3, c4, c5, c6⟩, ca, cs, rL, rF, rS, r4, r5, r6⟩ := h.1
  refine inv_main h ⟨?_, ?_, ?_, ?_⟩ (fun q h1 h2 _ => ?_) ?_ ?_ ?_ ?_
  · simp [ups, c1, c2, c3, c4, c5, c6]
  · intro n hn; have := ca n hn
    by_cases e : n = i
    · subst e; simp [ups]; exact this.2.2
    · simpa [ups, e] using this
  · intro n hn; have := cs n hn; simpa [ups] using this
  · refine ⟨?_, ?_, ?_, ?_, ?_, ?_⟩
    · simpa [ups] using rL
    · simpa [ups] using rF
    · simpa [ups] using rS
    · intro n hn
      by_cases e : n = i
      · subst e; simpa [ups] using hab
      · have := r4 n hn; simpa [ups, e] using this
    · intro n hn; have := r5 n hn; simpa [ups] using this
    · intro n hn; have := r6 n hn; simpa [ups] using this
  · rw [ups_other (by omega), ups_other (by omega)]
  · simp [ups]
  · rw [ups_other (by decide), ups_other (by decide)]
  · rw [ups_other (by decide), ups_other (by decide)]
  · rw [ups_other (by decide), ups_other (by decide)]
theorem E_ride {σ μ : St} (h : Inv2 σ μ) (t a b : Int32) : (X_ride σ t a b).1 = (Y_ride μ t a b).1 ∧ Inv2 (X_ride σ t a b).2 (Y_ride μ t a b).2 := by
  unfold X_ride Y_ride
  rw [isTr_wth]
  by_cases hw : wth t 0 5 = true
  · rw [if_pos hw, if_pos hw]
    obtain ⟨i, hi, rfl⟩ := tr_nI hw
    have hix : ix (nI i) = i := ix_nI (by omega)
    by_cases ha : a = -1
    · subst ha
      rw [if_pos rfl, if_pos (by rfl)]
      have hI := ride_inv h hi (a := -6) (b := -6) (Or.inl ⟨rfl, rfl⟩)
      have e1 : tsetR σ 1 (nI i) (-6) (-6) = ups (ups σ 2 i (-6)) 3 i (-6) := by unfold tsetR; rw [if_pos (isTr_nI hi), hix]
      have e2 : Y_rdS μ (nI i) (-1) b = ups (ups μ 43 i (-6)) 44 i (-6) := by unfold Y_rdS; rw [hix]; rfl
      rw [e1, e2]
      refine ⟨?_, hI⟩
      show (0 : Int32) = Y_rdN _ (nI i)
      unfold Y_rdN
      rw [show (itr (fun n c => c + (if mrd (ups (ups μ 43 i (-6)) 44 i (-6)) (nI i) (nI n) = true then (1 : Int32) else 0)) (clN ((ups (ups μ 43 i (-6)) 44 i (-6)) 42 0)) 0) = itr (fun n c => c) (clN ((ups (ups μ 43 i (-6)) 44 i (-6)) 42 0)) (0 : Int32) from itr_congr (fun n _ x => by
        have : mrd (ups (ups μ 43 i (-6)) 44 i (-6)) (nI i) (nI n) = false := by
          unfold mrd; rw [hix, ups_other (by decide), ups_s]; rfl
        rw [this]; simp)]
      have := itr_tail (f := fun (n : Nat) (c : Int32) => c) (L := 0) (a := 0) (fun _ _ _ => rfl) (clN ((ups (ups μ 43 i (-6)) 44 i (-6)) 42 0))
      rw [Nat.zero_add] at this
      exact this.symm
    · rw [if_neg ha, ride_c]
      by_cases hc : (wth a 0 29 && wth b a 29) = true
      · rw [if_pos hc, if_pos (by rw [hc, Bool.or_true])]
        rw [Bool.and_eq_true] at hc
        obtain ⟨c, hc1, rfl⟩ := (wth_0 (b := 29) (B := 29) rfl (by decide)).mp hc.1
        have hb2 : wth b 0 29 = true := by
          have := hc.2
          simp only [wth, Bool.and_eq_true, Bool.not_eq_true', decide_eq_false_iff_not, Int32.lt_iff_toInt_lt, nI_toInt (show c < 2 ^ 31 by omega)] at this ⊢
          have e0 : (0 : Int32).toInt = 0 := rfl
          have e29 : (29 : Int32).toInt = 29 := rfl
          omega
        obtain ⟨d, hd1, rfl⟩ := (wth_0 (b := 29) (B := 29) rfl (by decide)).mp hb2
        have hcd : c ≤ d := by
          have := hc.2
          simp only [wth, Bool.and_eq_true, Bool.not_eq_true', decide_eq_false_iff_not, Int32.lt_iff_toInt_lt, nI_toInt (show c < 2 ^ 31 by omega), nI_toInt (show d < 2 ^ 31 by omega)] at this
          omega
        have hI := ride_inv h hi (a := nI c) (b := nI d) (Or.inr ⟨c, d, hcd, hd1, rfl, rfl⟩)
        have e1 : tsetR σ 1 (nI i) (nI c) (nI d) = ups (ups σ 2 i (nI c)) 3 i (nI d) := by unfold tsetR; rw [if_pos (isTr_nI hi), hix]
        have e2 : Y_rdS μ (nI i) (nI c) (nI d) = ups (ups μ 43 i (nI c)) 44 i (nI d) := by unfold Y_rdS; rw [hix, if_neg (nI_pos (by omega)), if_neg (nI_pos (by omega))]
        rw [e1, e2]
        refine ⟨?_, hI⟩
        show tminOf _ 1 (nI i) = Y_rdN _ (nI i)
        unfold tminOf Y_rdN
        rw [cntB_add, ← hI.1.1.1]
        refine itr_congr (fun n _ x => ?_)
        have : trd (ups (ups σ 2 i (nI c)) 3 i (nI d)) 1 (nI i) (nI n) = mrd (ups (ups μ 43 i (nI c)) 44 i (nI d)) (nI i) (nI n) := by
          unfold trd
          refine rd_mrd (isTr_nI hi) ?_ ?_ hI.1.1.1 _
          · rw [hix]; exact (hI.1.2.1 i hi).1
          · rw [hix]; exact (hI.1.2.1 i hi).2.1
        rw [this]
      · rw [if_neg hc, if_neg (by rw [decide_eq_false ha, Bool.false_or]; exact hc)]; exact ⟨rfl, h⟩
  · rw [if_neg hw, if_neg hw]; exact ⟨rfl, h⟩
