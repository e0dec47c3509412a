/-! frames of the train's words -/
theorem ups_other {σ : St} {p i : Nat} {x : Int32} {q : Nat} (h : q ≠ p) : ups σ p i x q = σ q := ups_ne σ i x h
theorem itr_fr {f : Nat → St → St} {q : Nat} (h : ∀ n τ, f n τ q = τ q) : ∀ (n : Nat) (τ : St), itr f n τ q = τ q
  | 0, _ => rfl
  | n + 1, τ => (h n _).trans (itr_fr h n τ)
theorem tpay_ne {σ : St} {k : Nat} (t v : Int32) {q : Nat} (h1 : q ≠ k) (h2 : q ≠ k + 4) : tpay σ k t v q = σ q := by
  unfold tpay tpay1; split
  · rw [ups_other h1, ups_other h2]
  · rfl
theorem tpas_ne (σ : St) (k : Nat) {q : Nat} (h1 : q ≠ k) (h2 : q ≠ k + 4) : tpas σ k q = σ q := by
  unfold tpas; split
  · rw [ups_other h1]
    refine itr_fr (fun n τ => ?_) 3 σ
    unfold tpst; split
    · exact tpay_ne _ _ h1 h2
    · rfl
  · rfl
theorem tcou_ne (σ : St) (k : Nat) (t : Int32) {q : Nat} (h1 : q ≠ k) (h2 : q ≠ k + 4) : tcou σ k t q = σ q := by
  unfold tcou tcou1; split
  · split
    · rw [ups_other h1, tpay_ne _ _ h1 h2]
    · rfl
  · rfl
theorem tsetB_ne (σ : St) (k : Nat) (t b : Int32) {q : Nat} (h : q ≠ k + 5) : tsetB σ k t b q = σ q := by
  unfold tsetB; split
  · rw [ups_other h]
  · rfl
theorem tdraw_ne (σ : St) (k : Nat) (x : Int32) {q : Nat} (h1 : q ≠ k) (h2 : q ≠ k + 4) (h3 : q ≠ k + 5) : tdraw σ k x q = σ q := by
  unfold tdraw; split
  · exact tpas_ne σ k h1 h2
  · split
    · exact tsetB_ne σ k _ _ h3
    · exact tcou_ne σ k _ h1 h2
theorem tcopy_ne (σ : St) (k j : Nat) {q : Nat} (h0 : q ≠ k) (h1 : q ≠ k + 1) (h2 : q ≠ k + 2) (h3 : q ≠ k + 3) (h4 : q ≠ k + 4) (h5 : q ≠ k + 5) : tcopy σ k j q = σ q := by
  unfold tcopy
  rw [itr_fr (fun n τ => ?_) 6]
  · unfold tcp5 tcp4 tcp3 tcp2 tcp1 tcp0
    rw [ups_other h0, ups_other h0, ups_other h0, ups_other h0, ups_other h0, ups_other h0]
  · unfold tcpst cpA
    rw [ups_other h5, ups_other h4, ups_other h3, ups_other h2, ups_other h1]
theorem tcopy71_1 (σ : St) : tcopy σ 7 1 1 = σ 1 := tcopy_ne σ 7 1 (by decide) (by decide) (by decide) (by decide) (by decide) (by decide)
/-! the class's own words -/
def X_line (σ : St) (a : Int32) : Int32 × St := if wth a 1 30 then (σ 1 0, ups (ups σ 1 0 a) 1 1 0) else (-2, σ)
def X_tunS (σ : St) (m b : Int32) : St := ups σ 1 5 (if b = 0 then σ 1 5 &&& (((1 : Int32) <<< (m &&& 31)) ^^^ (-1)) else σ 1 5 ||| ((1 : Int32) <<< (m &&& 31)))
def X_tun (σ : St) (m b : Int32) : Int32 × St := if isMi m then (ttol (X_tunS σ m b) 1, X_tunS σ m b) else (-2, σ)
def X_ride (σ : St) (t a b : Int32) : Int32 × St := if isTr t then (if a = -1 then (0, tsetR σ 1 t (-6) (-6)) else if (isMi a && isMi b) && !decide (b < a) then (tminOf (tsetR σ 1 t a b) 1 t, tsetR σ 1 t a b) else (-2, σ)) else (-1, σ)
def X_seat (σ : St) (t c : Int32) : Int32 × St := if isTr t && isCo c then (σ 4 (ix t), ups σ 4 (ix t) c) else (-1, σ)
def X_purse (σ : St) (t v : Int32) : Int32 × St := if isTr t then (if wth v 0 999 then (σ 5 (ix t), ups σ 5 (ix t) v) else (-2, σ)) else (-1, σ)
def X_fine (σ : St) (v : Int32) : Int32 × St := if wth v 0 99 then (σ 1 3, ups σ 1 3 v) else (-2, σ)
def X_sayS (σ : St) (s : Int32) : St := if wIn (σ 13 1) 60 then pWr σ s else σ
def X_say (σ : St) (s : Int32) : Int32 × St := if wth s 33 126 then (if wIn (σ 13 1) 60 then X_sayS σ s 13 1 else -4, X_sayS σ s) else (-2, σ)
def X_wipe (σ : St) : Int32 × St := (σ 13 1, ups σ 13 1 0)
def X_fault (σ : St) : Int32 × St := (pFault σ, σ)
def X_canS (σ : St) : St := trAll (tcopy σ 7 1)
def X_can (σ : St) : Bool × St := if pFault σ = -6 then (decide (X_canS σ 15 1 = -6), X_canS σ) else (false, σ)
def X_judge (σ : St) (w : Int32) : Int32 × St := if wth w 0 1 then (if pFault σ = -6 then (if (X_can σ).1 then -6 else if w = 0 then (X_can σ).2 15 0 else (X_can σ).2 15 1, (X_can σ).2) else (-5, σ)) else (-2, σ)
def X_doneS (σ : St) : St := ups (tcopy (X_can σ).2 1 7) 13 1 0
def X_done (σ : St) : Int32 × St := if (X_can σ).1 then (X_doneS σ 15 0, X_doneS σ) else (-5, (X_can σ).2)
def X_beh (σ : St) (w : Int32) : Int32 × St := if wth w 0 8 then (if (X_can σ).1 then (if isTr w then (X_can σ).2 11 (ix w) else if w = 6 then (X_can σ).2 7 2 else if w = 7 then (X_can σ).2 7 1 else (X_can σ).2 7 4) else -5, (X_can σ).2) else (-2, σ)
def X_holds (σ : St) (c : Int32) : Int32 × St := if isCo c then (thold σ 1 c, σ) else (-1, σ)
def X_hears (σ : St) (t : Int32) : Int32 × St := if isTr t then (if tmay σ 1 t then tcomp σ 1 t (σ 1 1) else -6, σ) else (-1, σ)
def X_foreS (σ : St) (d : Int32) : St := itr (fun _ τ => tpas τ 7) (clN d) (tcopy σ 7 1)
def X_fore (σ : St) (c d : Int32) : Int32 × St := if isCo c then (if wth d 0 30 then (thold (X_foreS σ d) 7 c, X_foreS σ d) else (-2, σ)) else (-1, σ)
theorem all_1 (σ : St) (n : Nat) : itr (fun _ τ => tpas τ 7) n (tcopy σ 7 1) 1 = σ 1 := (itr_fr (fun _ τ => tpas_ne τ 7 (by decide) (by decide)) n _).trans (tcopy71_1 σ)
def X_all (σ : St) : St := itr (fun _ τ => tpas τ 7) (cnt (σ 1 1) (σ 1 0)) (tcopy σ 7 1)
def X_rests (σ : St) (t : Int32) : Int32 × St := if isTr t then (X_all σ 11 (ix t), X_all σ) else (-1, σ)
def X_talkF (σ : St) (t q : Int32) (n : Nat) (a : Int32 × St) : Int32 × St := (if tmay a.2 7 t && tri a.2 7 q (a.2 10 (ix t)) (σ 1 1 + nI n) then a.1 + 1 else a.1, tpas a.2 7)
theorem itr2_fr {f : Nat → Int32 × St → Int32 × St} {q : Nat} (h : ∀ n a, (f n a).2 q = a.2 q) : ∀ (n : Nat) (a : Int32 × St), (itr f n a).2 q = a.2 q
  | 0, _ => rfl
  | n + 1, a => (h n _).trans (itr2_fr h n a)
theorem talk_1 (σ : St) (t q : Int32) (n : Nat) : (itr (X_talkF σ t q) n (0, tcopy σ 7 1)).2 1 = σ 1 := (itr2_fr (fun _ a => tpas_ne a.2 7 (by decide) (by decide)) n _).trans (tcopy71_1 σ)
def X_talkA (σ : St) (t q : Int32) : Int32 × St := itr (X_talkF σ t q) (cnt (σ 1 1) (σ 1 0)) (0, tcopy σ 7 1)
def X_talks (σ : St) (t q : Int32) : Int32 × St := if (isTr t && isTr q) && !decide (t = q) then X_talkA σ t q else (-1, σ)
def ksGo (t : Int32) : Nat → Int32 → St → Bool × St
  | 0, _, τ => (true, τ)
  | n + 1, m, τ => if (trd τ 7 t m && !ttn τ 7 m) && !tisH τ 7 t then (false, τ) else ksGo t n (m + 1) (tpas τ 7)
theorem ksGo_hit {t m : Int32} {n : Nat} {τ : St} (h : ((trd τ 7 t m && !ttn τ 7 m) && !tisH τ 7 t) = true) : ksGo t (n + 1) m τ = (false, τ) := by rw [ksGo, if_pos h]
theorem ksGo_stepF {g : Gt} {M : Mt} {t m0 : Int32} {n j : Nat} {τ : St} (F : FnZ g M (some (.int (bI (ksGo t (n + 1) (m0 + nI j) τ).1))) (ksGo t (n + 1) (m0 + nI j) τ).2) (h : ((trd τ 7 t (m0 + nI j) && !ttn τ 7 (m0 + nI j)) && !tisH τ 7 t) = false) : FnZ g M (some (.int (bI (ksGo t n (m0 + nI (j + 1)) (tpas τ 7)).1))) (ksGo t n (m0 + nI (j + 1)) (tpas τ 7)).2 := by
  rw [ksGo, if_neg (by rw [h]; decide), add_nI] at F; exact F
def X_ks (σ : St) (t b : Int32) : Bool × St := ksGo t (cnt (σ 1 1) (σ 1 0)) (σ 1 1) (tsetB (tcopy σ 7 1) 7 t b)
def paidT (τ : St) (t : Int32) : Int32 := if isTr t then τ 5 (ix t) - τ 11 (ix t) else 0
def paidC (τ : St) (c : Int32) : Int32 := itr (fun n a => if τ 4 n = c then a + paidT τ (nI n) else a) 6 0
def topF (τ : St) (n : Nat) (a : Int32 × Int32) : Int32 × Int32 := if a.2 < paidT τ (nI n) then (nI n, paidT τ (nI n)) else a
def topP (τ : St) : Int32 := (itr (topF τ) 6 (-6, 0)).1
def byGo (t : Int32) : Nat → Int32 → St → Option Int32 × St
  | 0, _, τ => (none, τ)
  | n + 1, b, τ => if (X_ks τ t b).1 then (some b, (X_ks τ t b).2) else byGo t n (b + 1) (X_ks τ t b).2
theorem byGo_hit {t b : Int32} {n : Nat} {τ : St} (h : (X_ks τ t b).1 = true) : byGo t (n + 1) b τ = (some b, (X_ks τ t b).2) := by rw [byGo, if_pos h]
def X_byR (t w : Int32) (r : Option Int32 × St) : Int32 := match r.1 with
  | none => -6
  | some b => if w = 0 then b else paidT r.2 t
theorem byGo_stepF {g : Gt} {M : Mt} {t w : Int32} {n j : Nat} {τ : St} (F : FnZ g M (some (.int (X_byR t w (byGo t (n + 1) (nI j) τ)))) (byGo t (n + 1) (nI j) τ).2) (h : (X_ks τ t (nI j)).1 = false) : FnZ g M (some (.int (X_byR t w (byGo t n (nI (j + 1)) (X_ks τ t (nI j)).2)))) (byGo t n (nI (j + 1)) (X_ks τ t (nI j)).2).2 := by
  rw [byGo, if_neg (by rw [h]; decide), nI_1] at F; exact F
def X_buy (σ : St) (t w : Int32) : Int32 × St := if isTr t then (if wth w 0 1 then (if tfrom σ 1 t then (X_byR t w (byGo t 99 (nI 1) σ), (byGo t 99 (nI 1) σ).2) else (-6, σ)) else (-2, σ)) else (-1, σ)
def X_seats (σ : St) (a b w : Int32) : Int32 × St := if (wth a 0 32767 && wth b 0 32767) && wth w 0 1 then (if w = 0 then sCnt σ a b 19 0 else sCnt σ a b 19 1, sCnt σ a b) else (-2, σ)
def X_wk (σ : St) (t m : Int32) (n : Nat) : Int32 := itr (fun j kn => tkno σ 1 (m + nI j) kn) n ((1 : Int32) <<< (t &&& 31))
def X_word (σ : St) (t m : Int32) : Int32 × St := if isTr t then (if isMi m then (X_wk σ t m (cnt m (σ 1 0)), σ) else (-2, σ)) else (-1, σ)
def X_hp (σ : St) (t m q : Int32) (j : Nat) : Bool := decide (¬ X_wk σ t m (j + 1) &&& ((1 : Int32) <<< (q &&& 31)) = 0)
def X_hf (σ : St) (t m q : Int32) : Int32 := if fstB (X_hp σ t m q) (cnt m (σ 1 0)) < cnt m (σ 1 0) then m + nI (fstB (X_hp σ t m q) (cnt m (σ 1 0))) else -6
def X_heard (σ : St) (t m q : Int32) : Int32 × St := if isTr t && isTr q then (if isMi m then (if t = q then (m, σ) else (X_hf σ t m q, σ)) else (-2, σ)) else (-1, σ)
def X_richF (τ : St) (n : Nat) (a : Int32) : Int32 := if paidC τ a < paidC τ (nI (1 + n)) then nI (1 + n) else a
def X_richT (τ : St) : Int32 := itr (X_richF τ) 2 0
def X_rich (σ : St) (w : Int32) : Int32 × St := if wth w 0 2 then (if w = 2 then topP (X_all σ) else if w = 0 then X_richT (X_all σ) else paidC (X_all σ) (X_richT (X_all σ)), X_all σ) else (-2, σ)
def X_seenS (σ : St) (m t : Int32) : St := if wIn (σ 16 2) 8 then gAdd σ m t else σ
def X_seen (σ : St) (m t : Int32) : Int32 × St := if isTr t then (if isMi m then (if wIn (σ 16 2) 8 then X_seenS σ m t 16 2 else -4, X_seenS σ m t) else (-2, σ)) else (-1, σ)
def X_forg (σ : St) : Int32 × St := (σ 16 2, ups σ 16 2 0)
def X_hum (σ : St) : Int32 × St := (gSus σ, σ)
def leftM (s r : Int32) : Int32 := if bitC (s &&& r) < bitC (s &&& (r ^^^ (-1))) then bitC (s &&& (r ^^^ (-1))) else bitC (s &&& r)
def X_wI (σ : St) (m c : Nat) (a : Int32 × Int32) : Int32 × Int32 := if leftM (gSus σ) (trdo σ 1 (nI c) (nI m)) < a.2 then (10 * nI m + nI c, leftM (gSus σ) (trdo σ 1 (nI c) (nI m))) else a
def X_wO (σ : St) (m : Nat) (a : Int32 × Int32) : Int32 × Int32 := itr (X_wI σ m) 3 a
def X_wA (σ : St) : Int32 × Int32 := itr (X_wO σ) (clN (σ 1 0)) (0, 7)
def X_watch (σ : St) (w : Int32) : Int32 × St := if wth w 0 1 then (if gSus σ = 0 then -6 else if w = 0 then (X_wA σ).1 else (X_wA σ).2, σ) else (-2, σ)
def X_auc (σ : St) (a b w : Int32) : Int32 × St := if (wth a 0 20 && wth b 0 20) && wth w 0 1 then (if w = 0 then sSet σ a b 21 0 else sSet σ a b 21 1, sSet σ a b) else (-2, σ)
def X_chF (σ : St) (c : Int32) (n : Nat) (a : Int32 × St) : Int32 × St := (if thold a.2 7 c = -6 then a.1 else a.1 + (bitC (trdo a.2 7 c (σ 1 1 + nI n)) - 1), tpas a.2 7)
theorem chan_1 (σ : St) (c : Int32) (n : Nat) : (itr (X_chF σ c) n (0, tcopy σ 7 1)).2 1 = σ 1 := (itr2_fr (fun _ a => tpas_ne a.2 7 (by decide) (by decide)) n _).trans (tcopy71_1 σ)
def X_chA (σ : St) (c : Int32) : Int32 × St := itr (X_chF σ c) (cnt (σ 1 1) (σ 1 0)) (0, tcopy σ 7 1)
def X_tu (u : Int32) : Int32 := if rem u 2 = 0 then u / 2 else u
def X_tl (u : Int32) : Int32 := if rem u 2 = 0 then (10 : Int32) / 2 else 10
def X_ten (u p : Int32) : Int32 := if p = 0 then (if rem (X_tu u) 5 = 0 then X_tu u / 5 else X_tu u) else (if rem (X_tu u) 5 = 0 then X_tl u / 5 else X_tl u)
def X_cou (σ : St) (c t p : Int32) : Int64 × St := if isCo c then (if wth t 0 10 && wth p 0 1 then ((X_ten (σ 1 3 * t * (X_chA σ c).1) p).toInt64, (X_chA σ c).2) else (-1000000000000000002, σ)) else (-1000000000000000001, σ)
def X_yF (_ : Nat) (a : Int32 × St) : Int32 × St := (rem (75 * a.1 + 74) 65537, tdraw a.2 7 (rem (75 * a.1 + 74) 65537))
def X_yA (σ : St) (s m : Int32) : Int32 × St := itr X_yF (clN m) (s, tcopy σ 7 1)
def X_year (σ : St) (s m w : Int32) : Int32 × St := if (wth s 0 9999 && wth m 1 99) && wth w 0 2 then (if w = 0 then (X_yA σ s m).2 7 2 - (X_yA σ s m).2 1 2 else if w = 1 then (X_yA σ s m).2 7 4 else (X_yA σ s m).2 7 1, (X_yA σ s m).2) else (-2, σ)
def X_img (σ : St) (n : Int32) : Int32 × St := if wth n 0 1 then (1, if n = 0 then iKeep σ 22 23 29 else iKeep σ 32 33 39) else (-2, σ)
def X_rest (σ : St) (n : Int32) : Int32 × St := if wth n 0 1 then (if n = 0 then (if !decide (σ 22 0 = 0) then 1 else -3, if σ 22 0 = 0 then σ else iBack σ 22 23 29) else (if !decide (σ 32 0 = 0) then 1 else -3, if σ 32 0 = 0 then σ else iBack σ 32 33 39)) else (-2, σ)
def X_tof (σ : St) (t w : Int32) : Int32 := if isTr t then (if w = 0 then σ 2 (ix t) else if w = 1 then σ 3 (ix t) else if w = 2 then σ 4 (ix t) else if w = 3 then σ 5 (ix t) else if w = 4 then σ 6 (ix t) else -2) else -2
def X_told (σ : St) (w : Int32) : Int32 × St := (if w = 0 then σ 13 1 else if w = 1 then σ 1 0 else if w = 2 then σ 1 1 else if w = 3 then σ 1 2 else if w = 4 then σ 1 3 else if w = 5 then σ 16 2 else if w = 6 then σ 1 5 else X_tof σ (w / 10 - 1) (rem w 10), σ)
theorem zw_tabN {g : Gt} {M : Mt} {pc pc1 : Nat} {ls : List (Option Value)} {st : List Value} {σ : St} (n : Nat) {dflt hi : Int} {offs : Array Int} {len : Nat} {x : Int32} (X : CX g M) (d : Dc M pc pc1 (.tableswitch dflt 0 hi offs) len) (hn : n < 2 ^ 31) (hh : hi = (n : Int) - 1)
    (kin : ∀ i : Nat, i < n → x = nI i → ∃ (off : Int) (tgt : Nat), offs[i]? = some off ∧ (pc : Int) + off = (tgt : Int) ∧ ZW g tgt ls st σ) (kout : (∀ i : Nat, i < n → ¬ x = nI i) → ∃ tgt : Nat, (pc : Int) + dflt = (tgt : Int) ∧ ZW g tgt ls st σ) : ZW g pc ls (.int x :: st) σ := by
  by_cases h : 0 ≤ x.toInt ∧ x.toInt < n
  · have hx : x = nI x.toInt.toNat := by
      rw [← Int32.toInt_inj, nI_toInt (by omega)]; omega
    obtain ⟨off, tgt, h1, h2, h3⟩ := kin x.toInt.toNat (by omega) hx
    exact zw_tabIn X d (by omega) (by omega) (by rw [Int.sub_zero]; exact h1) h2 h3
  · obtain ⟨tgt, h1, h2⟩ := kout (fun i hi hx => h (by rw [hx, nI_toInt (by omega)]; omega))
    exact zw_tabOut X d (by omega) h1 h2

set_option maxRecDepth 20000 in
set_option maxHeartbeats 4000000 in
theorem t_X7_line {σ : St} {a : Int32} : Ct MX7_line [.ref 0, .int a] σ (some (.int (X_line σ a).1)) ((X_line σ a).2) := by
  refine ct_of (ls0 := [some (.ref 0), some (.int a), none]) ok_MX7_line rfl (Nat.le_of_ble_eq_true rfl) rfl ?_
  intro g X F
  refine zw_iload_1 X dX7_line_0 ?_
  refine zw_iconst (v := 1) X dX7_line_1 ik_1 ?_
  refine zw_bipush (v := 30) X dX7_line_2 bk_30 ?_
  refine zw_cS_iiii X dX7_line_4 lk_X7_64 ok_MX7_isWithin st_MX7_isWithin rm_X7_line_X7_isWithin (Nat.le_of_ble_eq_true rfl) t_X7_isWithin ?_
  refine zw_ifneB (tgt := 13) X dX7_line_7 (by decide) (fun c_7 => ?_) (fun c_7 => ?_)
  · refine zw_aload_0 X dX7_line_13 ?_
    refine zw_getR X dX7_line_14 fl_X7_10 ck_X7 sh_0 rfl ?_
    refine zw_getI X dX7_line_17 fl_X7_68 ck_X5 sh_1 rfl ?_
    refine zw_istore_2 X dX7_line_20 ?_
    refine zw_aload_0 X dX7_line_21 ?_
    refine zw_getR X dX7_line_22 fl_X7_10 ck_X7 sh_0 rfl ?_
    refine zw_iload_1 X dX7_line_25 ?_
    refine zw_put X dX7_line_26 fl_X7_68 ck_X5 ft_5_0 sh_1 rfl ?_
    refine zw_aload_0 X dX7_line_29 ?_
    refine zw_getR X dX7_line_30 fl_X7_10 ck_X7 sh_0 rfl ?_
    refine zw_iconst (v := 0) X dX7_line_33 ik_0 ?_
    refine zw_put X dX7_line_34 fl_X7_72 ck_X5 ft_5_1 sh_1 rfl ?_
    refine zw_iload_2 X dX7_line_37 ?_
    exact zw_iret X F dX7_line_38 rfl (by first | (simp only [X_line, c_7, decide_true, decide_false, Bool.and_true, Bool.true_and, Bool.and_false, Bool.false_and, Bool.or_true, Bool.true_or, Bool.or_false, Bool.false_or, Bool.not_true, Bool.not_false, if_true, if_false, ite_true, ite_false, Bool.false_eq_true, not_true_eq_false, not_false_eq_true, bI_t, bI_f, decide_eq_true_eq, reduceCtorEq]; done) | (simp [X_line, c_7]; done) | simp_all) (by first | (simp only [X_line, c_7, decide_true, decide_false, Bool.and_true, Bool.true_and, Bool.and_false, Bool.false_and, Bool.or_true, Bool.true_or, Bool.or_false, Bool.false_or, Bool.not_true, Bool.not_false, if_true, if_false, ite_true, ite_false, Bool.false_eq_true, not_true_eq_false, not_false_eq_true, bI_t, bI_f, decide_eq_true_eq, reduceCtorEq]; done) | (simp [X_line, c_7]; done) | simp_all)
  · refine zw_bipush (v := -2) X dX7_line_10 bk_m2 ?_
    exact zw_iret X F dX7_line_12 rfl (by first | (simp only [X_line, c_7, decide_true, decide_false, Bool.and_true, Bool.true_and, Bool.and_false, Bool.false_and, Bool.or_true, Bool.true_or, Bool.or_false, Bool.false_or, Bool.not_true, Bool.not_false, if_true, if_false, ite_true, ite_false, Bool.false_eq_true, not_true_eq_false, not_false_eq_true, bI_t, bI_f, decide_eq_true_eq, reduceCtorEq]; done) | (simp [X_line, c_7]; done) | simp_all) (by first | (simp only [X_line, c_7, decide_true, decide_false, Bool.and_true, Bool.true_and, Bool.and_false, Bool.false_and, Bool.or_true, Bool.true_or, Bool.or_false, Bool.false_or, Bool.not_true, Bool.not_false, if_true, if_false, ite_true, ite_false, Bool.false_eq_true, not_true_eq_false, not_false_eq_true, bI_t, bI_f, decide_eq_true_eq, reduceCtorEq]; done) | (simp [X_line, c_7]; done) | simp_all)
set_option maxRecDepth 20000 in
set_option maxHeartbeats 4000000 in
theorem t_X7_tunnel {σ : St} {m b : Int32} : Ct MX7_tunnel [.ref 0, .int m, .int b] σ (some (.int (X_tun σ m b).1)) ((X_tun σ m b).2) := by
  refine ct_of (ls0 := [some (.ref 0), some (.int m), some (.int b), none]) ok_MX7_tunnel rfl (Nat.le_of_ble_eq_true rfl) rfl ?_
  intro g X F
  refine zw_iload_1 X dX7_tunnel_0 ?_
  refine zw_cS_ii X dX7_tunnel_1 lk_X7_75 ok_MX7_isMinute st_MX7_isMinute rm_X7_tunnel_X7_isMinute (Nat.le_of_ble_eq_true rfl) t_X7_isMinute ?_
  refine zw_ifneB (tgt := 10) X dX7_tunnel_4 (by decide) (fun c_4 => ?_) (fun c_4 => ?_)
  · refine zw_iconst (v := 1) X dX7_tunnel_10 ik_1 ?_
    refine zw_iload_1 X dX7_tunnel_11 ?_
    refine zw_ishl X dX7_tunnel_12 ?_
    refine zw_istore_3 X dX7_tunnel_13 ?_
    refine zw_aload_0 X dX7_tunnel_14 ?_
    refine zw_getR X dX7_tunnel_15 fl_X7_10 ck_X7 sh_0 rfl ?_
    refine zw_iload_2 X dX7_tunnel_18 ?_
    refine zw_ifeq (tgt := 34) X dX7_tunnel_19 (by decide) (fun c_19 => ?_) (fun c_19 => ?_)
    · refine zw_aload_0 X dX7_tunnel_34 ?_
      refine zw_getR X dX7_tunnel_35 fl_X7_10 ck_X7 sh_0 rfl ?_
      refine zw_getI X dX7_tunnel_38 fl_X7_79 ck_X5 sh_1 rfl ?_
      refine zw_iload_3 X dX7_tunnel_41 ?_
      refine zw_iconst (v := -1) X dX7_tunnel_42 ik_m1 ?_
      refine zw_ixor X dX7_tunnel_43 ?_
      refine zw_iand X dX7_tunnel_44 ?_
      refine zw_put X dX7_tunnel_45 fl_X7_79 ck_X5 ft_5_5 sh_1 rfl ?_
      refine zw_aload_0 X dX7_tunnel_48 ?_
      refine zw_getR X dX7_tunnel_49 fl_X7_10 ck_X7 sh_0 rfl ?_
      refine zw_cV_ni X dX7_tunnel_52 lk_X7_82 ok_MX5_tunnelsOfLine vi_MX5_tunnelsOfLine rm_X7_tunnel_X5_tunnelsOfLine sh_1 rfl (Nat.le_of_ble_eq_true rfl) (t_X5_tunnelsOfLine isT_1) ?_
      exact zw_iret X F dX7_tunnel_55 rfl (by first | (simp only [X_tunS, X_tun, c_4, eq_true c_19, decide_true, decide_false, Bool.and_true, Bool.true_and, Bool.and_false, Bool.false_and, Bool.or_true, Bool.true_or, Bool.or_false, Bool.false_or, Bool.not_true, Bool.not_false, if_true, if_false, ite_true, ite_false, Bool.false_eq_true, not_true_eq_false, not_false_eq_true, bI_t, bI_f, decide_eq_true_eq, reduceCtorEq]; done) | (simp [X_tunS, X_tun, c_4, eq_true c_19]; done) | simp_all) (by first | (simp only [X_tunS, X_tun, c_4, eq_true c_19, decide_true, decide_false, Bool.and_true, Bool.true_and, Bool.and_false, Bool.false_and, Bool.or_true, Bool.true_or, Bool.or_false, Bool.false_or, Bool.not_true, Bool.not_false, if_true, if_false, ite_true, ite_false, Bool.false_eq_true, not_true_eq_false, not_false_eq_true, bI_t, bI_f, decide_eq_true_eq, reduceCtorEq]; done) | (simp [X_tunS, X_tun, c_4, eq_true c_19]; done) | simp_all)
    · refine zw_aload_0 X dX7_tunnel_22 ?_
      refine zw_getR X dX7_tunnel_23 fl_X7_10 ck_X7 sh_0 rfl ?_
      refine zw_getI X dX7_tunnel_26 fl_X7_79 ck_X5 sh_1 rfl ?_
      refine zw_iload_3 X dX7_tunnel_29 ?_
      refine zw_ior X dX7_tunnel_30 ?_
      refine zw_goto (tgt := 45) X dX7_tunnel_31 (by decide) ?_
      refine zw_put X dX7_tunnel_45 fl_X7_79 ck_X5 ft_5_5 sh_1 rfl ?_
      refine zw_aload_0 X dX7_tunnel_48 ?_
      refine zw_getR X dX7_tunnel_49 fl_X7_10 ck_X7 sh_0 rfl ?_
      refine zw_cV_ni X dX7_tunnel_52 lk_X7_82 ok_MX5_tunnelsOfLine vi_MX5_tunnelsOfLine rm_X7_tunnel_X5_tunnelsOfLine sh_1 rfl (Nat.le_of_ble_eq_true rfl) (t_X5_tunnelsOfLine isT_1) ?_
      exact zw_iret X F dX7_tunnel_55 rfl (by first | (simp only [X_tunS, X_tun, c_4, c_19, decide_true, decide_false, Bool.and_true, Bool.true_and, Bool.and_false, Bool.false_and, Bool.or_true, Bool.true_or, Bool.or_false, Bool.false_or, Bool.not_true, Bool.not_false, if_true, if_false, ite_true, ite_false, Bool.false_eq_true, not_true_eq_false, not_false_eq_true, bI_t, bI_f, decide_eq_true_eq, reduceCtorEq]; done) | (simp [X_tunS, X_tun, c_4, c_19]; done) | simp_all) (by first | (simp only [X_tunS, X_tun, c_4, c_19, decide_true, decide_false, Bool.and_true, Bool.true_and, Bool.and_false, Bool.false_and, Bool.or_true, Bool.true_or, Bool.or_false, Bool.false_or, Bool.not_true, Bool.not_false, if_true, if_false, ite_true, ite_false, Bool.false_eq_true, not_true_eq_false, not_false_eq_true, bI_t, bI_f, decide_eq_true_eq, reduceCtorEq]; done) | (simp [X_tunS, X_tun, c_4, c_19]; done) | simp_all)
  · refine zw_bipush (v := -2) X dX7_tunnel_7 bk_m2 ?_
    exact zw_iret X F dX7_tunnel_9 rfl (by first | (simp only [X_tunS, X_tun, c_4, decide_true, decide_false, Bool.and_true, Bool.true_and, Bool.and_false, Bool.false_and, Bool.or_true, Bool.true_or, Bool.or_false, Bool.false_or, Bool.not_true, Bool.not_false, if_true, if_false, ite_true, ite_false, Bool.false_eq_true, not_true_eq_false, not_false_eq_true, bI_t, bI_f, decide_eq_true_eq, reduceCtorEq]; done) | (simp [X_tunS, X_tun, c_4]; done) | simp_all) (by first | (simp only [X_tunS, X_tun, c_4, decide_true, decide_false, Bool.and_true, Bool.true_and, Bool.and_false, Bool.false_and, Bool.or_true, Bool.true_or, Bool.or_false, Bool.false_or, Bool.not_true, Bool.not_false, if_true, if_false, ite_true, ite_false, Bool.false_eq_true, not_true_eq_false, not_false_eq_true, bI_t, bI_f, decide_eq_true_eq, reduceCtorEq]; done) | (simp [X_tunS, X_tun, c_4]; done) | simp_all)
set_option maxRecDepth 20000 in
set_option maxHeartbeats 4000000 in
theorem t_X7_ride {σ : St} {t a b : Int32} : Ct MX7_ride [.ref 0, .int t, .int a, .int b] σ (some (.int (X_ride σ t a b).1)) ((X_ride σ t a b).2) := by
  refine ct_of (ls0 := [some (.ref 0), some (.int t), some (.int a), some (.int b)]) ok_MX7_ride rfl (Nat.le_of_ble_eq_true rfl) rfl ?_
  intro g X F
  refine zw_iload_1 X dX7_ride_0 ?_
  refine zw_cS_ii X dX7_ride_1 lk_X7_86 ok_MX7_isTraveller st_MX7_isTraveller rm_X7_ride_X7_isTraveller (Nat.le_of_ble_eq_true rfl) t_X7_isTraveller ?_
  refine zw_ifneB (tgt := 9) X dX7_ride_4 (by decide) (fun c_4 => ?_) (fun c_4 => ?_)
  · refine zw_iload_2 X dX7_ride_9 ?_
    refine zw_iconst (v := -1) X dX7_ride_10 ik_m1 ?_
    refine zw_icmpne (tgt := 28) X dX7_ride_11 (by decide) (fun c_11 => ?_) (fun c_11 => ?_)
    · refine zw_iload_2 X dX7_ride_28 ?_
      refine zw_cS_ii X dX7_ride_29 lk_X7_75 ok_MX7_isMinute st_MX7_isMinute rm_X7_ride_X7_isMinute (Nat.le_of_ble_eq_true rfl) t_X7_isMinute ?_
      refine zw_ifeqB (tgt := 47) X dX7_ride_32 (by decide) (fun c_32 => ?_) (fun c_32 => ?_)
      · refine zw_bipush (v := -2) X dX7_ride_47 bk_m2 ?_
        exact zw_iret X F dX7_ride_49 rfl (by first | (simp only [X_ride, c_4, c_11, c_32, decide_true, decide_false, Bool.and_true, Bool.true_and, Bool.and_false, Bool.false_and, Bool.or_true, Bool.true_or, Bool.or_false, Bool.false_or, Bool.not_true, Bool.not_false, if_true, if_false, ite_true, ite_false, Bool.false_eq_true, not_true_eq_false, not_false_eq_true, bI_t, bI_f, decide_eq_true_eq, reduceCtorEq]; done) | (simp [X_ride, c_4, c_11, c_32]; done) | simp_all) (by first | (simp only [X_ride, c_4, c_11, c_32, decide_true, decide_false, Bool.and_true, Bool.true_and, Bool.and_false, Bool.false_and, Bool.or_true, Bool.true_or, Bool.or_false, Bool.false_or, Bool.not_true, Bool.not_false, if_true, if_false, ite_true, ite_false, Bool.false_eq_true, not_true_eq_false, not_false_eq_true, bI_t, bI_f, decide_eq_true_eq, reduceCtorEq]; done) | (simp [X_ride, c_4, c_11, c_32]; done) | simp_all)
      · refine zw_iload_3 X dX7_ride_35 ?_
        refine zw_cS_ii X dX7_ride_36 lk_X7_75 ok_MX7_isMinute st_MX7_isMinute rm_X7_ride_X7_isMinute (Nat.le_of_ble_eq_true rfl) t_X7_isMinute ?_
        refine zw_ifeqB (tgt := 47) X dX7_ride_39 (by decide) (fun c_39 => ?_) (fun c_39 => ?_)
        · refine zw_bipush (v := -2) X dX7_ride_47 bk_m2 ?_
          exact zw_iret X F dX7_ride_49 rfl (by first | (simp only [X_ride, c_4, c_11, c_32, c_39, decide_true, decide_false, Bool.and_true, Bool.true_and, Bool.and_false, Bool.false_and, Bool.or_true, Bool.true_or, Bool.or_false, Bool.false_or, Bool.not_true, Bool.not_false, if_true, if_false, ite_true, ite_false, Bool.false_eq_true, not_true_eq_false, not_false_eq_true, bI_t, bI_f, decide_eq_true_eq, reduceCtorEq]; done) | (simp [X_ride, c_4, c_11, c_32, c_39]; done) | simp_all) (by first | (simp only [X_ride, c_4, c_11, c_32, c_39, decide_true, decide_false, Bool.and_true, Bool.true_and, Bool.and_false, Bool.false_and, Bool.or_true, Bool.true_or, Bool.or_false, Bool.false_or, Bool.not_true, Bool.not_false, if_true, if_false, ite_true, ite_false, Bool.false_eq_true, not_true_eq_false, not_false_eq_true, bI_t, bI_f, decide_eq_true_eq, reduceCtorEq]; done) | (simp [X_ride, c_4, c_11, c_32, c_39]; done) | simp_all)
        · refine zw_iload_2 X dX7_ride_42 ?_
          refine zw_iload_3 X dX7_ride_43 ?_
          refine zw_icmple (tgt := 50) X dX7_ride_44 (by decide) (fun c_44 => ?_) (fun c_44 => ?_)
          · refine zw_aload_0 X dX7_ride_50 ?_
            refine zw_getR X dX7_ride_51 fl_X7_10 ck_X7 sh_0 rfl ?_
            refine zw_iload_1 X dX7_ride_54 ?_
            refine zw_iload_2 X dX7_ride_55 ?_
            refine zw_iload_3 X dX7_ride_56 ?_
            refine zw_cV_iiiv X dX7_ride_57 lk_X7_89 ok_MX5_setRide vi_MX5_setRide rm_X7_ride_X5_setRide sh_1 rfl (Nat.le_of_ble_eq_true rfl) (t_X5_setRide isT_1) ?_
            refine zw_aload_0 X dX7_ride_60 ?_
            refine zw_getR X dX7_ride_61 fl_X7_10 ck_X7 sh_0 rfl ?_
            refine zw_iload_1 X dX7_ride_64 ?_
            refine zw_cV_ii X dX7_ride_65 lk_X7_93 ok_MX5_minutesOf vi_MX5_minutesOf rm_X7_ride_X5_minutesOf sh_1 rfl (Nat.le_of_ble_eq_true rfl) (t_X5_minutesOf isT_1) ?_
            exact zw_iret X F dX7_ride_68 rfl (by first | (simp only [X_ride, c_4, c_11, c_32, c_39, c_44, decide_true, decide_false, Bool.and_true, Bool.true_and, Bool.and_false, Bool.false_and, Bool.or_true, Bool.true_or, Bool.or_false, Bool.false_or, Bool.not_true, Bool.not_false, if_true, if_false, ite_true, ite_false, Bool.false_eq_true, not_true_eq_false, not_false_eq_true, bI_t, bI_f, decide_eq_true_eq, reduceCtorEq]; done) | (simp [X_ride, c_4, c_11, c_32, c_39, c_44]; done) | simp_all) (by first | (simp only [X_ride, c_4, c_11, c_32, c_39, c_44, decide_true, decide_false, Bool.and_true, Bool.true_and, Bool.and_false, Bool.false_and, Bool.or_true, Bool.true_or, Bool.or_false, Bool.false_or, Bool.not_true, Bool.not_false, if_true, if_false, ite_true, ite_false, Bool.false_eq_true, not_true_eq_false, not_false_eq_true, bI_t, bI_f, decide_eq_true_eq, reduceCtorEq]; done) | (simp [X_ride, c_4, c_11, c_32, c_39, c_44]; done) | simp_all)
          · refine zw_bipush (v := -2) X dX7_ride_47 bk_m2 ?_
            exact zw_iret X F dX7_ride_49 rfl (by first | (simp only [X_ride, c_4, c_11, c_32, c_39, c_44, decide_true, decide_false, Bool.and_true, Bool.true_and, Bool.and_false, Bool.false_and, Bool.or_true, Bool.true_or, Bool.or_false, Bool.false_or, Bool.not_true, Bool.not_false, if_true, if_false, ite_true, ite_false, Bool.false_eq_true, not_true_eq_false, not_false_eq_true, bI_t, bI_f, decide_eq_true_eq, reduceCtorEq]; done) | (simp [X_ride, c_4, c_11, c_32, c_39, c_44]; done) | simp_all) (by first | (simp only [X_ride, c_4, c_11, c_32, c_39, c_44, decide_true, decide_false, Bool.and_true, Bool.true_and, Bool.and_false, Bool.false_and, Bool.or_true, Bool.true_or, Bool.or_false, Bool.false_or, Bool.not_true, Bool.not_false, if_true, if_false, ite_true, ite_false, Bool.false_eq_true, not_true_eq_false, not_false_eq_true, bI_t, bI_f, decide_eq_true_eq, reduceCtorEq]; done) | (simp [X_ride, c_4, c_11, c_32, c_39, c_44]; done) | simp_all)
    · refine zw_aload_0 X dX7_ride_14 ?_
      refine zw_getR X dX7_ride_15 fl_X7_10 ck_X7 sh_0 rfl ?_
      refine zw_iload_1 X dX7_ride_18 ?_
      refine zw_bipush (v := -6) X dX7_ride_19 bk_m6 ?_
      refine zw_bipush (v := -6) X dX7_ride_21 bk_m6 ?_
      refine zw_cV_iiiv X dX7_ride_23 lk_X7_89 ok_MX5_setRide vi_MX5_setRide rm_X7_ride_X5_setRide sh_1 rfl (Nat.le_of_ble_eq_true rfl) (t_X5_setRide isT_1) ?_
      refine zw_iconst (v := 0) X dX7_ride_26 ik_0 ?_
      exact zw_iret X F dX7_ride_27 rfl (by first | (simp only [X_ride, c_4, eq_true c_11, decide_true, decide_false, Bool.and_true, Bool.true_and, Bool.and_false, Bool.false_and, Bool.or_true, Bool.true_or, Bool.or_false, Bool.false_or, Bool.not_true, Bool.not_false, if_true, if_false, ite_true, ite_false, Bool.false_eq_true, not_true_eq_false, not_false_eq_true, bI_t, bI_f, decide_eq_true_eq, reduceCtorEq]; done) | (simp [X_ride, c_4, eq_true c_11]; done) | simp_all) (by first | (simp only [X_ride, c_4, eq_true c_11, decide_true, decide_false, Bool.and_true, Bool.true_and, Bool.and_false, Bool.false_and, Bool.or_true, Bool.true_or, Bool.or_false, Bool.false_or, Bool.not_true, Bool.not_false, if_true, if_false, ite_true, ite_false, Bool.false_eq_true, not_true_eq_false, not_false_eq_true, bI_t, bI_f, decide_eq_true_eq, reduceCtorEq]; done) | (simp [X_ride, c_4, eq_true c_11]; done) | simp_all)
  · refine zw_iconst (v := -1) X dX7_ride_7 ik_m1 ?_
    exact zw_iret X F dX7_ride_8 rfl (by first | (simp only [X_ride, c_4, decide_true, decide_false, Bool.and_true, Bool.true_and, Bool.and_false, Bool.false_and, Bool.or_true, Bool.true_or, Bool.or_false, Bool.false_or, Bool.not_true, Bool.not_false, if_true, if_false, ite_true, ite_false, Bool.false_eq_true, not_true_eq_false, not_false_eq_true, bI_t, bI_f, decide_eq_true_eq, reduceCtorEq]; done) | (simp [X_ride, c_4]; done) | simp_all) (by first | (simp only [X_ride, c_4, decide_true, decide_false, Bool.and_true, Bool.true_and, Bool.and_false, Bool.false_and, Bool.or_true, Bool.true_or, Bool.or_false, Bool.false_or, Bool.not_true, Bool.not_false, if_true, if_false, ite_true, ite_false, Bool.false_eq_true, not_true_eq_false, not_false_eq_true, bI_t, bI_f, decide_eq_true_eq, reduceCtorEq]; done) | (simp [X_ride, c_4]; done) | simp_all)
set_option maxRecDepth 20000 in
set_option maxHeartbeats 4000000 in
theorem t_X7_seat {σ : St} {t c : Int32} : Ct MX7_seat [.ref 0, .int t, .int c] σ (some (.int (X_seat σ t c).1)) ((X_seat σ t c).2) := by
  refine ct_of (ls0 := [some (.ref 0), some (.int t), some (.int c), none]) ok_MX7_seat rfl (Nat.le_of_ble_eq_true rfl) rfl ?_
  intro g X F
  refine zw_iload_1 X dX7_seat_0 ?_
  refine zw_cS_ii X dX7_seat_1 lk_X7_86 ok_MX7_isTraveller st_MX7_isTraveller rm_X7_seat_X7_isTraveller (Nat.le_of_ble_eq_true rfl) t_X7_isTraveller ?_
  refine zw_ifeqB (tgt := 14) X dX7_seat_4 (by decide) (fun c_4 => ?_) (fun c_4 => ?_)
  · refine zw_iconst (v := -1) X dX7_seat_14 ik_m1 ?_
    exact zw_iret X F dX7_seat_15 rfl (by first | (simp only [X_seat, c_4, decide_true, decide_false, Bool.and_true, Bool.true_and, Bool.and_false, Bool.false_and, Bool.or_true, Bool.true_or, Bool.or_false, Bool.false_or, Bool.not_true, Bool.not_false, if_true, if_false, ite_true, ite_false, Bool.false_eq_true, not_true_eq_false, not_false_eq_true, bI_t, bI_f, decide_eq_true_eq, reduceCtorEq]; done) | (simp [X_seat, c_4]; done) | simp_all) (by first | (simp only [X_seat, c_4, decide_true, decide_false, Bool.and_true, Bool.true_and, Bool.and_false, Bool.false_and, Bool.or_true, Bool.true_or, Bool.or_false, Bool.false_or, Bool.not_true, Bool.not_false, if_true, if_false, ite_true, ite_false, Bool.false_eq_true, not_true_eq_false, not_false_eq_true, bI_t, bI_f, decide_eq_true_eq, reduceCtorEq]; done) | (simp [X_seat, c_4]; done) | simp_all)
  · refine zw_iload_2 X dX7_seat_7 ?_
    refine zw_cS_ii X dX7_seat_8 lk_X7_97 ok_MX7_isCompartment st_MX7_isCompartment rm_X7_seat_X7_isCompartment (Nat.le_of_ble_eq_true rfl) t_X7_isCompartment ?_
    refine zw_ifneB (tgt := 16) X dX7_seat_11 (by decide) (fun c_11 => ?_) (fun c_11 => ?_)
    · refine zw_aload_0 X dX7_seat_16 ?_
      refine zw_getR X dX7_seat_17 fl_X7_10 ck_X7 sh_0 rfl ?_
      refine zw_getR X dX7_seat_20 fl_X7_100 ck_X5 sh_1 rfl ?_
      refine zw_iload_1 X dX7_seat_23 ?_
      refine zw_iald X dX7_seat_24 sh_4 (isTr_in c_4) ?_
      refine zw_istore_3 X dX7_seat_25 ?_
      refine zw_aload_0 X dX7_seat_26 ?_
      refine zw_getR X dX7_seat_27 fl_X7_10 ck_X7 sh_0 rfl ?_
      refine zw_getR X dX7_seat_30 fl_X7_100 ck_X5 sh_1 rfl ?_
      refine zw_iload_1 X dX7_seat_33 ?_
      refine zw_iload_2 X dX7_seat_34 ?_
      refine zw_iast X dX7_seat_35 sh_4 (isTr_in c_4) ?_
      refine zw_iload_3 X dX7_seat_36 ?_
      exact zw_iret X F dX7_seat_37 rfl (by first | (simp only [X_seat, c_4, c_11, decide_true, decide_false, Bool.and_true, Bool.true_and, Bool.and_false, Bool.false_and, Bool.or_true, Bool.true_or, Bool.or_false, Bool.false_or, Bool.not_true, Bool.not_false, if_true, if_false, ite_true, ite_false, Bool.false_eq_true, not_true_eq_false, not_false_eq_true, bI_t, bI_f, decide_eq_true_eq, reduceCtorEq]; done) | (simp [X_seat, c_4, c_11]; done) | simp_all) (by first | (simp only [X_seat, c_4, c_11, decide_true, decide_false, Bool.and_true, Bool.true_and, Bool.and_false, Bool.false_and, Bool.or_true, Bool.true_or, Bool.or_false, Bool.false_or, Bool.not_true, Bool.not_false, if_true, if_false, ite_true, ite_false, Bool.false_eq_true, not_true_eq_false, not_false_eq_true, bI_t, bI_f, decide_eq_true_eq, reduceCtorEq]; done) | (simp [X_seat, c_4, c_11]; done) | simp_all)
    · refine zw_iconst (v := -1) X dX7_seat_14 ik_m1 ?_
      exact zw_iret X F dX7_seat_15 rfl (by first | (simp only [X_seat, c_4, c_11, decide_true, decide_false, Bool.and_true, Bool.true_and, Bool.and_false, Bool.false_and, Bool.or_true, Bool.true_or, Bool.or_false, Bool.false_or, Bool.not_true, Bool.not_false, if_true, if_false, ite_true, ite_false, Bool.false_eq_true, not_true_eq_false, not_false_eq_true, bI_t, bI_f, decide_eq_true_eq, reduceCtorEq]; done) | (simp [X_seat, c_4, c_11]; done) | simp_all) (by first | (simp only [X_seat, c_4, c_11, decide_true, decide_false, Bool.and_true, Bool.true_and, Bool.and_false, Bool.false_and, Bool.or_true, Bool.true_or, Bool.or_false, Bool.false_or, Bool.not_true, Bool.not_false, if_true, if_false, ite_true, ite_false, Bool.false_eq_true, not_true_eq_false, not_false_eq_true, bI_t, bI_f, decide_eq_true_eq, reduceCtorEq]; done) | (simp [X_seat, c_4, c_11]; done) | simp_all)
set_option maxRecDepth 20000 in
set_option maxHeartbeats 4000000 in
theorem t_X7_purse {σ : St} {t v : Int32} : Ct MX7_purse [.ref 0, .int t, .int v] σ (some (.int (X_purse σ t v).1)) ((X_purse σ t v).2) := by
  refine ct_of (ls0 := [some (.ref 0), some (.int t), some (.int v), none]) ok_MX7_purse rfl (Nat.le_of_ble_eq_true rfl) rfl ?_
  intro g X F
  refine zw_iload_1 X dX7_purse_0 ?_
  refine zw_cS_ii X dX7_purse_1 lk_X7_86 ok_MX7_isTraveller st_MX7_isTraveller rm_X7_purse_X7_isTraveller (Nat.le_of_ble_eq_true rfl) t_X7_isTraveller ?_
  refine zw_ifneB (tgt := 9) X dX7_purse_4 (by decide) (fun c_4 => ?_) (fun c_4 => ?_)
  · refine zw_iload_2 X dX7_purse_9 ?_
    refine zw_iconst (v := 0) X dX7_purse_10 ik_0 ?_
    refine zw_sipush (v := 999) X dX7_purse_11 sk_999 ?_
    refine zw_cS_iiii X dX7_purse_14 lk_X7_64 ok_MX7_isWithin st_MX7_isWithin rm_X7_purse_X7_isWithin (Nat.le_of_ble_eq_true rfl) t_X7_isWithin ?_
    refine zw_ifneB (tgt := 23) X dX7_purse_17 (by decide) (fun c_17 => ?_) (fun c_17 => ?_)
    · refine zw_aload_0 X dX7_purse_23 ?_
      refine zw_getR X dX7_purse_24 fl_X7_10 ck_X7 sh_0 rfl ?_
      refine zw_getR X dX7_purse_27 fl_X7_104 ck_X5 sh_1 rfl ?_
      refine zw_iload_1 X dX7_purse_30 ?_
      refine zw_iald X dX7_purse_31 sh_5 (isTr_in c_4) ?_
      refine zw_istore_3 X dX7_purse_32 ?_
      refine zw_aload_0 X dX7_purse_33 ?_
      refine zw_getR X dX7_purse_34 fl_X7_10 ck_X7 sh_0 rfl ?_
      refine zw_getR X dX7_purse_37 fl_X7_104 ck_X5 sh_1 rfl ?_
      refine zw_iload_1 X dX7_purse_40 ?_
      refine zw_iload_2 X dX7_purse_41 ?_
      refine zw_iast X dX7_purse_42 sh_5 (isTr_in c_4) ?_
      refine zw_iload_3 X dX7_purse_43 ?_
      exact zw_iret X F dX7_purse_44 rfl (by first | (simp only [X_purse, c_4, c_17, decide_true, decide_false, Bool.and_true, Bool.true_and, Bool.and_false, Bool.false_and, Bool.or_true, Bool.true_or, Bool.or_false, Bool.false_or, Bool.not_true, Bool.not_false, if_true, if_false, ite_true, ite_false, Bool.false_eq_true, not_true_eq_false, not_false_eq_true, bI_t, bI_f, decide_eq_true_eq, reduceCtorEq]; done) | (simp [X_purse, c_4, c_17]; done) | simp_all) (by first | (simp only [X_purse, c_4, c_17, decide_true, decide_false, Bool.and_true, Bool.true_and, Bool.and_false, Bool.false_and, Bool.or_true, Bool.true_or, Bool.or_false, Bool.false_or, Bool.not_true, Bool.not_false, if_true, if_false, ite_true, ite_false, Bool.false_eq_true, not_true_eq_false, not_false_eq_true, bI_t, bI_f, decide_eq_true_eq, reduceCtorEq]; done) | (simp [X_purse, c_4, c_17]; done) | simp_all)
    · refine zw_bipush (v := -2) X dX7_purse_20 bk_m2 ?_
      exact zw_iret X F dX7_purse_22 rfl (by first | (simp only [X_purse, c_4, c_17, decide_true, decide_false, Bool.and_true, Bool.true_and, Bool.and_false, Bool.false_and, Bool.or_true, Bool.true_or, Bool.or_false, Bool.false_or, Bool.not_true, Bool.not_false, if_true, if_false, ite_true, ite_false, Bool.false_eq_true, not_true_eq_false, not_false_eq_true, bI_t, bI_f, decide_eq_true_eq, reduceCtorEq]; done) | (simp [X_purse, c_4, c_17]; done) | simp_all) (by first | (simp only [X_purse, c_4, c_17, decide_true, decide_false, Bool.and_true, Bool.true_and, Bool.and_false, Bool.false_and, Bool.or_true, Bool.true_or, Bool.or_false, Bool.false_or, Bool.not_true, Bool.not_false, if_true, if_false, ite_true, ite_false, Bool.false_eq_true, not_true_eq_false, not_false_eq_true, bI_t, bI_f, decide_eq_true_eq, reduceCtorEq]; done) | (simp [X_purse, c_4, c_17]; done) | simp_all)
  · refine zw_iconst (v := -1) X dX7_purse_7 ik_m1 ?_
    exact zw_iret X F dX7_purse_8 rfl (by first | (simp only [X_purse, c_4, decide_true, decide_false, Bool.and_true, Bool.true_and, Bool.and_false, Bool.false_and, Bool.or_true, Bool.true_or, Bool.or_false, Bool.false_or, Bool.not_true, Bool.not_false, if_true, if_false, ite_true, ite_false, Bool.false_eq_true, not_true_eq_false, not_false_eq_true, bI_t, bI_f, decide_eq_true_eq, reduceCtorEq]; done) | (simp [X_purse, c_4]; done) | simp_all) (by first | (simp only [X_purse, c_4, decide_true, decide_false, Bool.and_true, Bool.true_and, Bool.and_false, Bool.false_and, Bool.or_true, Bool.true_or, Bool.or_false, Bool.false_or, Bool.not_true, Bool.not_false, if_true, if_false, ite_true, ite_false, Bool.false_eq_true, not_true_eq_false, not_false_eq_true, bI_t, bI_f, decide_eq_true_eq, reduceCtorEq]; done) | (simp [X_purse, c_4]; done) | simp_all)
set_option maxRecDepth 20000 in
set_option maxHeartbeats 4000000 in
theorem t_X7_fine {σ : St} {v : Int32} : Ct MX7_fine [.ref 0, .int v] σ (some (.int (X_fine σ v).1)) ((X_fine σ v).2) := by
  refine ct_of (ls0 := [some (.ref 0), some (.int v), none]) ok_MX7_fine rfl (Nat.le_of_ble_eq_true rfl) rfl ?_
  intro g X F
  refine zw_iload_1 X dX7_fine_0 ?_
  refine zw_iconst (v := 0) X dX7_fine_1 ik_0 ?_
  refine zw_bipush (v := 99) X dX7_fine_2 bk_99 ?_
  refine zw_cS_iiii X dX7_fine_4 lk_X7_64 ok_MX7_isWithin st_MX7_isWithin rm_X7_fine_X7_isWithin (Nat.le_of_ble_eq_true rfl) t_X7_isWithin ?_
  refine zw_ifneB (tgt := 13) X dX7_fine_7 (by decide) (fun c_7 => ?_) (fun c_7 => ?_)
  · refine zw_aload_0 X dX7_fine_13 ?_
    refine zw_getR X dX7_fine_14 fl_X7_10 ck_X7 sh_0 rfl ?_
    refine zw_getI X dX7_fine_17 fl_X7_107 ck_X5 sh_1 rfl ?_
    refine zw_istore_2 X dX7_fine_20 ?_
    refine zw_aload_0 X dX7_fine_21 ?_
    refine zw_getR X dX7_fine_22 fl_X7_10 ck_X7 sh_0 rfl ?_
    refine zw_iload_1 X dX7_fine_25 ?_
    refine zw_put X dX7_fine_26 fl_X7_107 ck_X5 ft_5_3 sh_1 rfl ?_
    refine zw_iload_2 X dX7_fine_29 ?_
    exact zw_iret X F dX7_fine_30 rfl (by first | (simp only [X_fine, c_7, decide_true, decide_false, Bool.and_true, Bool.true_and, Bool.and_false, Bool.false_and, Bool.or_true, Bool.true_or, Bool.or_false, Bool.false_or, Bool.not_true, Bool.not_false, if_true, if_false, ite_true, ite_false, Bool.false_eq_true, not_true_eq_false, not_false_eq_true, bI_t, bI_f, decide_eq_true_eq, reduceCtorEq]; done) | (simp [X_fine, c_7]; done) | simp_all) (by first | (simp only [X_fine, c_7, decide_true, decide_false, Bool.and_true, Bool.true_and, Bool.and_false, Bool.false_and, Bool.or_true, Bool.true_or, Bool.or_false, Bool.false_or, Bool.not_true, Bool.not_false, if_true, if_false, ite_true, ite_false, Bool.false_eq_true, not_true_eq_false, not_false_eq_true, bI_t, bI_f, decide_eq_true_eq, reduceCtorEq]; done) | (simp [X_fine, c_7]; done) | simp_all)
  · refine zw_bipush (v := -2) X dX7_fine_10 bk_m2 ?_
    exact zw_iret X F dX7_fine_12 rfl (by first | (simp only [X_fine, c_7, decide_true, decide_false, Bool.and_true, Bool.true_and, Bool.and_false, Bool.false_and, Bool.or_true, Bool.true_or, Bool.or_false, Bool.false_or, Bool.not_true, Bool.not_false, if_true, if_false, ite_true, ite_false, Bool.false_eq_true, not_true_eq_false, not_false_eq_true, bI_t, bI_f, decide_eq_true_eq, reduceCtorEq]; done) | (simp [X_fine, c_7]; done) | simp_all) (by first | (simp only [X_fine, c_7, decide_true, decide_false, Bool.and_true, Bool.true_and, Bool.and_false, Bool.false_and, Bool.or_true, Bool.true_or, Bool.or_false, Bool.false_or, Bool.not_true, Bool.not_false, if_true, if_false, ite_true, ite_false, Bool.false_eq_true, not_true_eq_false, not_false_eq_true, bI_t, bI_f, decide_eq_true_eq, reduceCtorEq]; done) | (simp [X_fine, c_7]; done) | simp_all)
set_option maxRecDepth 20000 in
set_option maxHeartbeats 4000000 in
theorem t_X7_say {σ : St} {s : Int32} : Ct MX7_say [.ref 0, .int s] σ (some (.int (X_say σ s).1)) ((X_say σ s).2) := by
  refine ct_of (ls0 := [some (.ref 0), some (.int s)]) ok_MX7_say rfl (Nat.le_of_ble_eq_true rfl) rfl ?_
  intro g X F
  refine zw_iload_1 X dX7_say_0 ?_
  refine zw_bipush (v := 33) X dX7_say_1 bk_33 ?_
  refine zw_bipush (v := 126) X dX7_say_3 bk_126 ?_
  refine zw_cS_iiii X dX7_say_5 lk_X7_64 ok_MX7_isWithin st_MX7_isWithin rm_X7_say_X7_isWithin (Nat.le_of_ble_eq_true rfl) t_X7_isWithin ?_
  refine zw_ifneB (tgt := 14) X dX7_say_8 (by decide) (fun c_8 => ?_) (fun c_8 => ?_)
  · refine zw_aload_0 X dX7_say_14 ?_
    refine zw_getR X dX7_say_15 fl_X7_22 ck_X7 sh_0 rfl ?_
    refine zw_iload_1 X dX7_say_18 ?_
    refine zw_cV_ii X dX7_say_19 lk_X7_110 ok_MX1_write vi_MX1_write rm_X7_say_X1_write sh_13 rfl (Nat.le_of_ble_eq_true rfl) t_X1_write ?_
    refine zw_ifeqB (tgt := 35) X dX7_say_22 (by decide) (fun c_22 => ?_) (fun c_22 => ?_)
    · refine zw_bipush (v := -4) X dX7_say_35 bk_m4 ?_
      exact zw_iret X F dX7_say_37 rfl (by first | (simp only [X_sayS, X_say, c_8, c_22, decide_true, decide_false, Bool.and_true, Bool.true_and, Bool.and_false, Bool.false_and, Bool.or_true, Bool.true_or, Bool.or_false, Bool.false_or, Bool.not_true, Bool.not_false, if_true, if_false, ite_true, ite_false, Bool.false_eq_true, not_true_eq_false, not_false_eq_true, bI_t, bI_f, decide_eq_true_eq, reduceCtorEq]; done) | (simp [X_sayS, X_say, c_8, c_22]; done) | simp_all) (by first | (simp only [X_sayS, X_say, c_8, c_22, decide_true, decide_false, Bool.and_true, Bool.true_and, Bool.and_false, Bool.false_and, Bool.or_true, Bool.true_or, Bool.or_false, Bool.false_or, Bool.not_true, Bool.not_false, if_true, if_false, ite_true, ite_false, Bool.false_eq_true, not_true_eq_false, not_false_eq_true, bI_t, bI_f, decide_eq_true_eq, reduceCtorEq]; done) | (simp [X_sayS, X_say, c_8, c_22]; done) | simp_all)
    · refine zw_aload_0 X dX7_say_25 ?_
      refine zw_getR X dX7_say_26 fl_X7_22 ck_X7 sh_0 rfl ?_
      refine zw_getI X dX7_say_29 fl_X7_113 ck_X1 sh_13 rfl ?_
      refine zw_goto (tgt := 37) X dX7_say_32 (by decide) ?_
      exact zw_iret X F dX7_say_37 rfl (by first | (simp only [X_sayS, X_say, c_8, c_22, decide_true, decide_false, Bool.and_true, Bool.true_and, Bool.and_false, Bool.false_and, Bool.or_true, Bool.true_or, Bool.or_false, Bool.false_or, Bool.not_true, Bool.not_false, if_true, if_false, ite_true, ite_false, Bool.false_eq_true, not_true_eq_false, not_false_eq_true, bI_t, bI_f, decide_eq_true_eq, reduceCtorEq]; done) | (simp [X_sayS, X_say, c_8, c_22]; done) | simp_all) (by first | (simp only [X_sayS, X_say, c_8, c_22, decide_true, decide_false, Bool.and_true, Bool.true_and, Bool.and_false, Bool.false_and, Bool.or_true, Bool.true_or, Bool.or_false, Bool.false_or, Bool.not_true, Bool.not_false, if_true, if_false, ite_true, ite_false, Bool.false_eq_true, not_true_eq_false, not_false_eq_true, bI_t, bI_f, decide_eq_true_eq, reduceCtorEq]; done) | (simp [X_sayS, X_say, c_8, c_22]; done) | simp_all)
  · refine zw_bipush (v := -2) X dX7_say_11 bk_m2 ?_
    exact zw_iret X F dX7_say_13 rfl (by first | (simp only [X_sayS, X_say, c_8, decide_true, decide_false, Bool.and_true, Bool.true_and, Bool.and_false, Bool.false_and, Bool.or_true, Bool.true_or, Bool.or_false, Bool.false_or, Bool.not_true, Bool.not_false, if_true, if_false, ite_true, ite_false, Bool.false_eq_true, not_true_eq_false, not_false_eq_true, bI_t, bI_f, decide_eq_true_eq, reduceCtorEq]; done) | (simp [X_sayS, X_say, c_8]; done) | simp_all) (by first | (simp only [X_sayS, X_say, c_8, decide_true, decide_false, Bool.and_true, Bool.true_and, Bool.and_false, Bool.false_and, Bool.or_true, Bool.true_or, Bool.or_false, Bool.false_or, Bool.not_true, Bool.not_false, if_true, if_false, ite_true, ite_false, Bool.false_eq_true, not_true_eq_false, not_false_eq_true, bI_t, bI_f, decide_eq_true_eq, reduceCtorEq]; done) | (simp [X_sayS, X_say, c_8]; done) | simp_all)
set_option maxRecDepth 20000 in
set_option maxHeartbeats 4000000 in
theorem t_X7_wipe {σ : St}  : Ct MX7_wipe [.ref 0] σ (some (.int (X_wipe σ).1)) ((X_wipe σ).2) := by
  refine ct_of (ls0 := [some (.ref 0)]) ok_MX7_wipe rfl (Nat.le_of_ble_eq_true rfl) rfl ?_
  intro g X F
  refine zw_aload_0 X dX7_wipe_0 ?_
  refine zw_getR X dX7_wipe_1 fl_X7_22 ck_X7 sh_0 rfl ?_
  refine zw_cV_ni X dX7_wipe_4 lk_X7_116 ok_MX1_clear vi_MX1_clear rm_X7_wipe_X1_clear sh_13 rfl (Nat.le_of_ble_eq_true rfl) t_X1_clear ?_
  exact zw_iret X F dX7_wipe_7 rfl (by first | (simp only [X_wipe, decide_true, decide_false, Bool.and_true, Bool.true_and, Bool.and_false, Bool.false_and, Bool.or_true, Bool.true_or, Bool.or_false, Bool.false_or, Bool.not_true, Bool.not_false, if_true, if_false, ite_true, ite_false, Bool.false_eq_true, not_true_eq_false, not_false_eq_true, bI_t, bI_f, decide_eq_true_eq, reduceCtorEq]; done) | (simp [X_wipe]; done) | simp_all) (by first | (simp only [X_wipe, decide_true, decide_false, Bool.and_true, Bool.true_and, Bool.and_false, Bool.false_and, Bool.or_true, Bool.true_or, Bool.or_false, Bool.false_or, Bool.not_true, Bool.not_false, if_true, if_false, ite_true, ite_false, Bool.false_eq_true, not_true_eq_false, not_false_eq_true, bI_t, bI_f, decide_eq_true_eq, reduceCtorEq]; done) | (simp [X_wipe]; done) | simp_all)
set_option maxRecDepth 20000 in
set_option maxHeartbeats 4000000 in
theorem t_X7_fault {σ : St}  : Ct MX7_fault [.ref 0] σ (some (.int (X_fault σ).1)) ((X_fault σ).2) := by
  refine ct_of (ls0 := [some (.ref 0)]) ok_MX7_fault rfl (Nat.le_of_ble_eq_true rfl) rfl ?_
  intro g X F
  refine zw_aload_0 X dX7_fault_0 ?_
  refine zw_getR X dX7_fault_1 fl_X7_22 ck_X7 sh_0 rfl ?_
  refine zw_cV_ni X dX7_fault_4 lk_X7_119 ok_MX1_faultPlace vi_MX1_faultPlace rm_X7_fault_X1_faultPlace sh_13 rfl (Nat.le_of_ble_eq_true rfl) t_X1_faultPlace ?_
  exact zw_iret X F dX7_fault_7 rfl (by first | (simp only [X_fault, decide_true, decide_false, Bool.and_true, Bool.true_and, Bool.and_false, Bool.false_and, Bool.or_true, Bool.true_or, Bool.or_false, Bool.false_or, Bool.not_true, Bool.not_false, if_true, if_false, ite_true, ite_false, Bool.false_eq_true, not_true_eq_false, not_false_eq_true, bI_t, bI_f, decide_eq_true_eq, reduceCtorEq]; done) | (simp [X_fault]; done) | simp_all) (by first | (simp only [X_fault, decide_true, decide_false, Bool.and_true, Bool.true_and, Bool.and_false, Bool.false_and, Bool.or_true, Bool.true_or, Bool.or_false, Bool.false_or, Bool.not_true, Bool.not_false, if_true, if_false, ite_true, ite_false, Bool.false_eq_true, not_true_eq_false, not_false_eq_true, bI_t, bI_f, decide_eq_true_eq, reduceCtorEq]; done) | (simp [X_fault]; done) | simp_all)
set_option maxRecDepth 20000 in
set_option maxHeartbeats 4000000 in
theorem t_X7_padCanBe {σ : St} : Ct MX7_padCanBe [.ref 0] σ (some (.int (bI ((X_can σ).1)))) ((X_can σ).2) := by
  refine ct_of (ls0 := [some (.ref 0)]) ok_MX7_padCanBe rfl (Nat.le_of_ble_eq_true rfl) rfl ?_
  intro g X F
  refine zw_aload_0 X dX7_padCanBe_0 ?_
  refine zw_getR X dX7_padCanBe_1 fl_X7_22 ck_X7 sh_0 rfl ?_
  refine zw_cV_ni X dX7_padCanBe_4 lk_X7_119 ok_MX1_faultPlace vi_MX1_faultPlace rm_X7_padCanBe_X1_faultPlace sh_13 rfl (Nat.le_of_ble_eq_true rfl) t_X1_faultPlace ?_
  refine zw_bipush (v := -6) X dX7_padCanBe_7 bk_m6 ?_
  refine zw_icmpeq (tgt := 14) X dX7_padCanBe_9 (by decide) (fun c_9 => ?_) (fun c_9 => ?_)
  · refine zw_aload_0 X dX7_padCanBe_14 ?_
    refine zw_getR X dX7_padCanBe_15 fl_X7_16 ck_X7 sh_0 rfl ?_
    refine zw_aload_0 X dX7_padCanBe_18 ?_
    refine zw_getR X dX7_padCanBe_19 fl_X7_10 ck_X7 sh_0 rfl ?_
    refine zw_cV_rv X dX7_padCanBe_22 lk_X7_132 ok_MX5_copyFrom vi_MX5_copyFrom rm_X7_padCanBe_X5_copyFrom sh_7 rfl (Nat.le_of_ble_eq_true rfl) (t_X5_copyFrom isT_7 isT_1) ?_
    refine zw_aload_0 X dX7_padCanBe_25 ?_
    refine zw_getR X dX7_padCanBe_26 fl_X7_29 ck_X7 sh_0 rfl ?_
    refine zw_aload_0 X dX7_padCanBe_29 ?_
    refine zw_getR X dX7_padCanBe_30 fl_X7_22 ck_X7 sh_0 rfl ?_
    refine zw_aload_0 X dX7_padCanBe_33 ?_
    refine zw_getR X dX7_padCanBe_34 fl_X7_16 ck_X7 sh_0 rfl ?_
    refine zw_cV_rrv X dX7_padCanBe_37 lk_X7_245 ok_MX6_tryRides vi_MX6_tryRides rm_X7_padCanBe_X6_tryRides sh_15 rfl (Nat.le_of_ble_eq_true rfl) t_X6_tryRides ?_
    refine zw_aload_0 X dX7_padCanBe_40 ?_
    refine zw_getR X dX7_padCanBe_41 fl_X7_29 ck_X7 sh_0 rfl ?_
    refine zw_getI X dX7_padCanBe_44 fl_X7_129 ck_X6 sh_15 rfl ?_
    refine zw_bipush (v := -6) X dX7_padCanBe_47 bk_m6 ?_
    refine zw_icmpne (tgt := 56) X dX7_padCanBe_49 (by decide) (fun c_49 => ?_) (fun c_49 => ?_)
    · refine zw_iconst (v := 0) X dX7_padCanBe_56 ik_0 ?_
      exact zw_zret X F dX7_padCanBe_57 rfl (by first | (simp only [X_can, X_canS, bI_0', bI_1', bI_0, bI_1, bI_inj, eq_true c_9, c_49, decide_true, decide_false, Bool.and_true, Bool.true_and, Bool.and_false, Bool.false_and, Bool.or_true, Bool.true_or, Bool.or_false, Bool.false_or, Bool.not_true, Bool.not_false, if_true, if_false, ite_true, ite_false, Bool.false_eq_true, not_true_eq_false, not_false_eq_true, bI_t, bI_f, decide_eq_true_eq, reduceCtorEq]; done) | (simp [X_can, X_canS, bI_0', bI_1', bI_0, bI_1, bI_inj, eq_true c_9, c_49]; done) | simp_all) (by first | (simp only [X_can, X_canS, eq_true c_9, c_49, decide_true, decide_false, Bool.and_true, Bool.true_and, Bool.and_false, Bool.false_and, Bool.or_true, Bool.true_or, Bool.or_false, Bool.false_or, Bool.not_true, Bool.not_false, if_true, if_false, ite_true, ite_false, Bool.false_eq_true, not_true_eq_false, not_false_eq_true, bI_t, bI_f, decide_eq_true_eq, reduceCtorEq]; done) | (simp [X_can, X_canS, eq_true c_9, c_49]; done) | simp_all)
    · refine zw_iconst (v := 1) X dX7_padCanBe_52 ik_1 ?_
      refine zw_goto (tgt := 57) X dX7_padCanBe_53 (by decide) ?_
      exact zw_zret X F dX7_padCanBe_57 rfl (by first | (simp only [X_can, X_canS, bI_0', bI_1', bI_0, bI_1, bI_inj, eq_true c_9, eq_true c_49, decide_true, decide_false, Bool.and_true, Bool.true_and, Bool.and_false, Bool.false_and, Bool.or_true, Bool.true_or, Bool.or_false, Bool.false_or, Bool.not_true, Bool.not_false, if_true, if_false, ite_true, ite_false, Bool.false_eq_true, not_true_eq_false, not_false_eq_true, bI_t, bI_f, decide_eq_true_eq, reduceCtorEq]; done) | (simp [X_can, X_canS, bI_0', bI_1', bI_0, bI_1, bI_inj, eq_true c_9, eq_true c_49]; done) | simp_all) (by first | (simp only [X_can, X_canS, eq_true c_9, eq_true c_49, decide_true, decide_false, Bool.and_true, Bool.true_and, Bool.and_false, Bool.false_and, Bool.or_true, Bool.true_or, Bool.or_false, Bool.false_or, Bool.not_true, Bool.not_false, if_true, if_false, ite_true, ite_false, Bool.false_eq_true, not_true_eq_false, not_false_eq_true, bI_t, bI_f, decide_eq_true_eq, reduceCtorEq]; done) | (simp [X_can, X_canS, eq_true c_9, eq_true c_49]; done) | simp_all)
  · refine zw_iconst (v := 0) X dX7_padCanBe_12 ik_0 ?_
    exact zw_zret X F dX7_padCanBe_13 rfl (by first | (simp only [X_can, X_canS, bI_0', bI_1', bI_0, bI_1, bI_inj, c_9, decide_true, decide_false, Bool.and_true, Bool.true_and, Bool.and_false, Bool.false_and, Bool.or_true, Bool.true_or, Bool.or_false, Bool.false_or, Bool.not_true, Bool.not_false, if_true, if_false, ite_true, ite_false, Bool.false_eq_true, not_true_eq_false, not_false_eq_true, bI_t, bI_f, decide_eq_true_eq, reduceCtorEq]; done) | (simp [X_can, X_canS, bI_0', bI_1', bI_0, bI_1, bI_inj, c_9]; done) | simp_all) (by first | (simp only [X_can, X_canS, c_9, decide_true, decide_false, Bool.and_true, Bool.true_and, Bool.and_false, Bool.false_and, Bool.or_true, Bool.true_or, Bool.or_false, Bool.false_or, Bool.not_true, Bool.not_false, if_true, if_false, ite_true, ite_false, Bool.false_eq_true, not_true_eq_false, not_false_eq_true, bI_t, bI_f, decide_eq_true_eq, reduceCtorEq]; done) | (simp [X_can, X_canS, c_9]; done) | simp_all)
set_option maxRecDepth 20000 in
set_option maxHeartbeats 4000000 in
theorem t_X7_judge {σ : St} {w : Int32} : Ct MX7_judge [.ref 0, .int w] σ (some (.int (X_judge σ w).1)) ((X_judge σ w).2) := by
  refine ct_of (ls0 := [some (.ref 0), some (.int w)]) ok_MX7_judge rfl (Nat.le_of_ble_eq_true rfl) rfl ?_
  intro g X F
  refine zw_iload_1 X dX7_judge_0 ?_
  refine zw_iconst (v := 0) X dX7_judge_1 ik_0 ?_
  refine zw_iconst (v := 1) X dX7_judge_2 ik_1 ?_
  refine zw_cS_iiii X dX7_judge_3 lk_X7_64 ok_MX7_isWithin st_MX7_isWithin rm_X7_judge_X7_isWithin (Nat.le_of_ble_eq_true rfl) t_X7_isWithin ?_
  refine zw_ifneB (tgt := 12) X dX7_judge_6 (by decide) (fun c_6 => ?_) (fun c_6 => ?_)
  · refine zw_aload_0 X dX7_judge_12 ?_
    refine zw_getR X dX7_judge_13 fl_X7_22 ck_X7 sh_0 rfl ?_
    refine zw_cV_ni X dX7_judge_16 lk_X7_119 ok_MX1_faultPlace vi_MX1_faultPlace rm_X7_judge_X1_faultPlace sh_13 rfl (Nat.le_of_ble_eq_true rfl) t_X1_faultPlace ?_
    refine zw_bipush (v := -6) X dX7_judge_19 bk_m6 ?_
    refine zw_icmpeq (tgt := 27) X dX7_judge_21 (by decide) (fun c_21 => ?_) (fun c_21 => ?_)
    · refine zw_aload_0 X dX7_judge_27 ?_
      refine zw_cV_ni X dX7_judge_28 lk_X7_122 ok_MX7_padCanBe vi_MX7_padCanBe rm_X7_judge_X7_padCanBe sh_0 rfl (Nat.le_of_ble_eq_true rfl) t_X7_padCanBe ?_
      refine zw_ifeqB (tgt := 37) X dX7_judge_31 (by decide) (fun c_31 => ?_) (fun c_31 => ?_)
      · refine zw_iload_1 X dX7_judge_37 ?_
        refine zw_ifne (tgt := 51) X dX7_judge_38 (by decide) (fun c_38 => ?_) (fun c_38 => ?_)
        · refine zw_aload_0 X dX7_judge_51 ?_
          refine zw_getR X dX7_judge_52 fl_X7_29 ck_X7 sh_0 rfl ?_
          refine zw_getI X dX7_judge_55 fl_X7_129 ck_X6 sh_15 rfl ?_
          exact zw_iret X F dX7_judge_58 rfl (by first | (simp only [X_judge, c_6, eq_true c_21, c_31, c_38, decide_true, decide_false, Bool.and_true, Bool.true_and, Bool.and_false, Bool.false_and, Bool.or_true, Bool.true_or, Bool.or_false, Bool.false_or, Bool.not_true, Bool.not_false, if_true, if_false, ite_true, ite_false, Bool.false_eq_true, not_true_eq_false, not_false_eq_true, bI_t, bI_f, decide_eq_true_eq, reduceCtorEq]; done) | (simp [X_judge, c_6, eq_true c_21, c_31, c_38]; done) | simp_all) (by first | (simp only [X_judge, c_6, eq_true c_21, c_31, c_38, decide_true, decide_false, Bool.and_true, Bool.true_and, Bool.and_false, Bool.false_and, Bool.or_true, Bool.true_or, Bool.or_false, Bool.false_or, Bool.not_true, Bool.not_false, if_true, if_false, ite_true, ite_false, Bool.false_eq_true, not_true_eq_false, not_false_eq_true, bI_t, bI_f, decide_eq_true_eq, reduceCtorEq]; done) | (simp [X_judge, c_6, eq_true c_21, c_31, c_38]; done) | simp_all)
        · refine zw_aload_0 X dX7_judge_41 ?_
          refine zw_getR X dX7_judge_42 fl_X7_29 ck_X7 sh_0 rfl ?_
          refine zw_getI X dX7_judge_45 fl_X7_126 ck_X6 sh_15 rfl ?_
          refine zw_goto (tgt := 58) X dX7_judge_48 (by decide) ?_
          exact zw_iret X F dX7_judge_58 rfl (by first | (simp only [X_judge, c_6, eq_true c_21, c_31, eq_true c_38, decide_true, decide_false, Bool.and_true, Bool.true_and, Bool.and_false, Bool.false_and, Bool.or_true, Bool.true_or, Bool.or_false, Bool.false_or, Bool.not_true, Bool.not_false, if_true, if_false, ite_true, ite_false, Bool.false_eq_true, not_true_eq_false, not_false_eq_true, bI_t, bI_f, decide_eq_true_eq, reduceCtorEq]; done) | (simp [X_judge, c_6, eq_true c_21, c_31, eq_true c_38]; done) | simp_all) (by first | (simp only [X_judge, c_6, eq_true c_21, c_31, eq_true c_38, decide_true, decide_false, Bool.and_true, Bool.true_and, Bool.and_false, Bool.false_and, Bool.or_true, Bool.true_or, Bool.or_false, Bool.false_or, Bool.not_true, Bool.not_false, if_true, if_false, ite_true, ite_false, Bool.false_eq_true, not_true_eq_false, not_false_eq_true, bI_t, bI_f, decide_eq_true_eq, reduceCtorEq]; done) | (simp [X_judge, c_6, eq_true c_21, c_31, eq_true c_38]; done) | simp_all)
      · refine zw_bipush (v := -6) X dX7_judge_34 bk_m6 ?_
        exact zw_iret X F dX7_judge_36 rfl (by first | (simp only [X_judge, c_6, eq_true c_21, c_31, decide_true, decide_false, Bool.and_true, Bool.true_and, Bool.and_false, Bool.false_and, Bool.or_true, Bool.true_or, Bool.or_false, Bool.false_or, Bool.not_true, Bool.not_false, if_true, if_false, ite_true, ite_false, Bool.false_eq_true, not_true_eq_false, not_false_eq_true, bI_t, bI_f, decide_eq_true_eq, reduceCtorEq]; done) | (simp [X_judge, c_6, eq_true c_21, c_31]; done) | simp_all) (by first | (simp only [X_judge, c_6, eq_true c_21, c_31, decide_true, decide_false, Bool.and_true, Bool.true_and, Bool.and_false, Bool.false_and, Bool.or_true, Bool.true_or, Bool.or_false, Bool.false_or, Bool.not_true, Bool.not_false, if_true, if_false, ite_true, ite_false, Bool.false_eq_true, not_true_eq_false, not_false_eq_true, bI_t, bI_f, decide_eq_true_eq, reduceCtorEq]; done) | (simp [X_judge, c_6, eq_true c_21, c_31]; done) | simp_all)
    · refine zw_bipush (v := -5) X dX7_judge_24 bk_m5 ?_
      exact zw_iret X F dX7_judge_26 rfl (by first | (simp only [X_judge, c_6, c_21, decide_true, decide_false, Bool.and_true, Bool.true_and, Bool.and_false, Bool.false_and, Bool.or_true, Bool.true_or, Bool.or_false, Bool.false_or, Bool.not_true, Bool.not_false, if_true, if_false, ite_true, ite_false, Bool.false_eq_true, not_true_eq_false, not_false_eq_true, bI_t, bI_f, decide_eq_true_eq, reduceCtorEq]; done) | (simp [X_judge, c_6, c_21]; done) | simp_all) (by first | (simp only [X_judge, c_6, c_21, decide_true, decide_false, Bool.and_true, Bool.true_and, Bool.and_false, Bool.false_and, Bool.or_true, Bool.true_or, Bool.or_false, Bool.false_or, Bool.not_true, Bool.not_false, if_true, if_false, ite_true, ite_false, Bool.false_eq_true, not_true_eq_false, not_false_eq_true, bI_t, bI_f, decide_eq_true_eq, reduceCtorEq]; done) | (simp [X_judge, c_6, c_21]; done) | simp_all)
  · refine zw_bipush (v := -2) X dX7_judge_9 bk_m2 ?_
    exact zw_iret X F dX7_judge_11 rfl (by first | (simp only [X_judge, c_6, decide_true, decide_false, Bool.and_true, Bool.true_and, Bool.and_false, Bool.false_and, Bool.or_true, Bool.true_or, Bool.or_false, Bool.false_or, Bool.not_true, Bool.not_false, if_true, if_false, ite_true, ite_false, Bool.false_eq_true, not_true_eq_false, not_false_eq_true, bI_t, bI_f, decide_eq_true_eq, reduceCtorEq]; done) | (simp [X_judge, c_6]; done) | simp_all) (by first | (simp only [X_judge, c_6, decide_true, decide_false, Bool.and_true, Bool.true_and, Bool.and_false, Bool.false_and, Bool.or_true, Bool.true_or, Bool.or_false, Bool.false_or, Bool.not_true, Bool.not_false, if_true, if_false, ite_true, ite_false, Bool.false_eq_true, not_true_eq_false, not_false_eq_true, bI_t, bI_f, decide_eq_true_eq, reduceCtorEq]; done) | (simp [X_judge, c_6]; done) | simp_all)
set_option maxRecDepth 20000 in
set_option maxHeartbeats 4000000 in
theorem t_X7_done {σ : St}  : Ct MX7_done [.ref 0] σ (some (.int (X_done σ).1)) ((X_done σ).2) := by
  refine ct_of (ls0 := [some (.ref 0)]) ok_MX7_done rfl (Nat.le_of_ble_eq_true rfl) rfl ?_
  intro g X F
  refine zw_aload_0 X dX7_done_0 ?_
  refine zw_cV_ni X dX7_done_1 lk_X7_122 ok_MX7_padCanBe vi_MX7_padCanBe rm_X7_done_X7_padCanBe sh_0 rfl (Nat.le_of_ble_eq_true rfl) t_X7_padCanBe ?_
  refine zw_ifneB (tgt := 10) X dX7_done_4 (by decide) (fun c_4 => ?_) (fun c_4 => ?_)
  · refine zw_aload_0 X dX7_done_10 ?_
    refine zw_getR X dX7_done_11 fl_X7_10 ck_X7 sh_0 rfl ?_
    refine zw_aload_0 X dX7_done_14 ?_
    refine zw_getR X dX7_done_15 fl_X7_16 ck_X7 sh_0 rfl ?_
    refine zw_cV_rv X dX7_done_18 lk_X7_132 ok_MX5_copyFrom vi_MX5_copyFrom rm_X7_done_X5_copyFrom sh_1 rfl (Nat.le_of_ble_eq_true rfl) (t_X5_copyFrom isT_1 isT_7) ?_
    refine zw_aload_0 X dX7_done_21 ?_
    refine zw_getR X dX7_done_22 fl_X7_22 ck_X7 sh_0 rfl ?_
    refine zw_cV_ni X dX7_done_25 lk_X7_116 ok_MX1_clear vi_MX1_clear rm_X7_done_X1_clear sh_13 rfl (Nat.le_of_ble_eq_true rfl) t_X1_clear ?_
    refine zw_pop_i X dX7_done_28 ?_
    refine zw_aload_0 X dX7_done_29 ?_
    refine zw_getR X dX7_done_30 fl_X7_29 ck_X7 sh_0 rfl ?_
    refine zw_getI X dX7_done_33 fl_X7_126 ck_X6 sh_15 rfl ?_
    exact zw_iret X F dX7_done_36 rfl (by first | (simp only [X_doneS, X_done, c_4, decide_true, decide_false, Bool.and_true, Bool.true_and, Bool.and_false, Bool.false_and, Bool.or_true, Bool.true_or, Bool.or_false, Bool.false_or, Bool.not_true, Bool.not_false, if_true, if_false, ite_true, ite_false, Bool.false_eq_true, not_true_eq_false, not_false_eq_true, bI_t, bI_f, decide_eq_true_eq, reduceCtorEq]; done) | (simp [X_doneS, X_done, c_4]; done) | simp_all) (by first | (simp only [X_doneS, X_done, c_4, decide_true, decide_false, Bool.and_true, Bool.true_and, Bool.and_false, Bool.false_and, Bool.or_true, Bool.true_or, Bool.or_false, Bool.false_or, Bool.not_true, Bool.not_false, if_true, if_false, ite_true, ite_false, Bool.false_eq_true, not_true_eq_false, not_false_eq_true, bI_t, bI_f, decide_eq_true_eq, reduceCtorEq]; done) | (simp [X_doneS, X_done, c_4]; done) | simp_all)
  · refine zw_bipush (v := -5) X dX7_done_7 bk_m5 ?_
    exact zw_iret X F dX7_done_9 rfl (by first | (simp only [X_doneS, X_done, c_4, decide_true, decide_false, Bool.and_true, Bool.true_and, Bool.and_false, Bool.false_and, Bool.or_true, Bool.true_or, Bool.or_false, Bool.false_or, Bool.not_true, Bool.not_false, if_true, if_false, ite_true, ite_false, Bool.false_eq_true, not_true_eq_false, not_false_eq_true, bI_t, bI_f, decide_eq_true_eq, reduceCtorEq]; done) | (simp [X_doneS, X_done, c_4]; done) | simp_all) (by first | (simp only [X_doneS, X_done, c_4, decide_true, decide_false, Bool.and_true, Bool.true_and, Bool.and_false, Bool.false_and, Bool.or_true, Bool.true_or, Bool.or_false, Bool.false_or, Bool.not_true, Bool.not_false, if_true, if_false, ite_true, ite_false, Bool.false_eq_true, not_true_eq_false, not_false_eq_true, bI_t, bI_f, decide_eq_true_eq, reduceCtorEq]; done) | (simp [X_doneS, X_done, c_4]; done) | simp_all)
set_option maxRecDepth 20000 in
set_option maxHeartbeats 4000000 in
theorem t_X7_behind {σ : St} {w : Int32} : Ct MX7_behind [.ref 0, .int w] σ (some (.int (X_beh σ w).1)) ((X_beh σ w).2) := by
  refine ct_of (ls0 := [some (.ref 0), some (.int w)]) ok_MX7_behind rfl (Nat.le_of_ble_eq_true rfl) rfl ?_
  intro g X F
  refine zw_iload_1 X dX7_behind_0 ?_
  refine zw_iconst (v := 0) X dX7_behind_1 ik_0 ?_
  refine zw_bipush (v := 8) X dX7_behind_2 bk_8 ?_
  refine zw_cS_iiii X dX7_behind_4 lk_X7_64 ok_MX7_isWithin st_MX7_isWithin rm_X7_behind_X7_isWithin (Nat.le_of_ble_eq_true rfl) t_X7_isWithin ?_
  refine zw_ifneB (tgt := 13) X dX7_behind_7 (by decide) (fun c_7 => ?_) (fun c_7 => ?_)
  · refine zw_aload_0 X dX7_behind_13 ?_
    refine zw_cV_ni X dX7_behind_14 lk_X7_122 ok_MX7_padCanBe vi_MX7_padCanBe rm_X7_behind_X7_padCanBe sh_0 rfl (Nat.le_of_ble_eq_true rfl) t_X7_padCanBe ?_
    refine zw_ifneB (tgt := 23) X dX7_behind_17 (by decide) (fun c_17 => ?_) (fun c_17 => ?_)
    · refine zw_iload_1 X dX7_behind_23 ?_
      refine zw_cS_ii X dX7_behind_24 lk_X7_86 ok_MX7_isTraveller st_MX7_isTraveller rm_X7_behind_X7_isTraveller (Nat.le_of_ble_eq_true rfl) t_X7_isTraveller ?_
      refine zw_ifeqB (tgt := 40) X dX7_behind_27 (by decide) (fun c_27 => ?_) (fun c_27 => ?_)
      · refine zw_iload_1 X dX7_behind_40 ?_
        refine zw_bipush (v := 6) X dX7_behind_41 bk_6 ?_
        refine zw_icmpne (tgt := 54) X dX7_behind_43 (by decide) (fun c_43 => ?_) (fun c_43 => ?_)
        · refine zw_iload_1 X dX7_behind_54 ?_
          refine zw_bipush (v := 7) X dX7_behind_55 bk_7 ?_
          refine zw_icmpne (tgt := 70) X dX7_behind_57 (by decide) (fun c_57 => ?_) (fun c_57 => ?_)
          · refine zw_aload_0 X dX7_behind_70 ?_
            refine zw_getR X dX7_behind_71 fl_X7_16 ck_X7 sh_0 rfl ?_
            refine zw_getI X dX7_behind_74 fl_X7_139 ck_X5 sh_7 rfl ?_
            exact zw_iret X F dX7_behind_77 rfl (by first | (simp only [X_beh, c_7, c_17, c_27, c_43, c_57, decide_true, decide_false, Bool.and_true, Bool.true_and, Bool.and_false, Bool.false_and, Bool.or_true, Bool.true_or, Bool.or_false, Bool.false_or, Bool.not_true, Bool.not_false, if_true, if_false, ite_true, ite_false, Bool.false_eq_true, not_true_eq_false, not_false_eq_true, bI_t, bI_f, decide_eq_true_eq, reduceCtorEq]; done) | (simp [X_beh, c_7, c_17, c_27, c_43, c_57]; done) | simp_all) (by first | (simp only [X_beh, c_7, c_17, c_27, c_43, c_57, decide_true, decide_false, Bool.and_true, Bool.true_and, Bool.and_false, Bool.false_and, Bool.or_true, Bool.true_or, Bool.or_false, Bool.false_or, Bool.not_true, Bool.not_false, if_true, if_false, ite_true, ite_false, Bool.false_eq_true, not_true_eq_false, not_false_eq_true, bI_t, bI_f, decide_eq_true_eq, reduceCtorEq]; done) | (simp [X_beh, c_7, c_17, c_27, c_43, c_57]; done) | simp_all)
          · refine zw_aload_0 X dX7_behind_60 ?_
            refine zw_getR X dX7_behind_61 fl_X7_16 ck_X7 sh_0 rfl ?_
            refine zw_getI X dX7_behind_64 fl_X7_72 ck_X5 sh_7 rfl ?_
            refine zw_goto (tgt := 77) X dX7_behind_67 (by decide) ?_
            exact zw_iret X F dX7_behind_77 rfl (by first | (simp only [X_beh, c_7, c_17, c_27, c_43, eq_true c_57, decide_true, decide_false, Bool.and_true, Bool.true_and, Bool.and_false, Bool.false_and, Bool.or_true, Bool.true_or, Bool.or_false, Bool.false_or, Bool.not_true, Bool.not_false, if_true, if_false, ite_true, ite_false, Bool.false_eq_true, not_true_eq_false, not_false_eq_true, bI_t, bI_f, decide_eq_true_eq, reduceCtorEq]; done) | (simp [X_beh, c_7, c_17, c_27, c_43, eq_true c_57]; done) | simp_all) (by first | (simp only [X_beh, c_7, c_17, c_27, c_43, eq_true c_57, decide_true, decide_false, Bool.and_true, Bool.true_and, Bool.and_false, Bool.false_and, Bool.or_true, Bool.true_or, Bool.or_false, Bool.false_or, Bool.not_true, Bool.not_false, if_true, if_false, ite_true, ite_false, Bool.false_eq_true, not_true_eq_false, not_false_eq_true, bI_t, bI_f, decide_eq_true_eq, reduceCtorEq]; done) | (simp [X_beh, c_7, c_17, c_27, c_43, eq_true c_57]; done) | simp_all)
        · refine zw_aload_0 X dX7_behind_46 ?_
          refine zw_getR X dX7_behind_47 fl_X7_16 ck_X7 sh_0 rfl ?_
          refine zw_getI X dX7_behind_50 fl_X7_136 ck_X5 sh_7 rfl ?_
          exact zw_iret X F dX7_behind_53 rfl (by first | (simp only [X_beh, c_7, c_17, c_27, eq_true c_43, decide_true, decide_false, Bool.and_true, Bool.true_and, Bool.and_false, Bool.false_and, Bool.or_true, Bool.true_or, Bool.or_false, Bool.false_or, Bool.not_true, Bool.not_false, if_true, if_false, ite_true, ite_false, Bool.false_eq_true, not_true_eq_false, not_false_eq_true, bI_t, bI_f, decide_eq_true_eq, reduceCtorEq]; done) | (simp [X_beh, c_7, c_17, c_27, eq_true c_43]; done) | simp_all) (by first | (simp only [X_beh, c_7, c_17, c_27, eq_true c_43, decide_true, decide_false, Bool.and_true, Bool.true_and, Bool.and_false, Bool.false_and, Bool.or_true, Bool.true_or, Bool.or_false, Bool.false_or, Bool.not_true, Bool.not_false, if_true, if_false, ite_true, ite_false, Bool.false_eq_true, not_true_eq_false, not_false_eq_true, bI_t, bI_f, decide_eq_true_eq, reduceCtorEq]; done) | (simp [X_beh, c_7, c_17, c_27, eq_true c_43]; done) | simp_all)
      · refine zw_aload_0 X dX7_behind_30 ?_
        refine zw_getR X dX7_behind_31 fl_X7_16 ck_X7 sh_0 rfl ?_
        refine zw_getR X dX7_behind_34 fl_X7_104 ck_X5 sh_7 rfl ?_
        refine zw_iload_1 X dX7_behind_37 ?_
        refine zw_iald X dX7_behind_38 sh_11 (isTr_in c_27) ?_
        exact zw_iret X F dX7_behind_39 rfl (by first | (simp only [X_beh, c_7, c_17, c_27, decide_true, decide_false, Bool.and_true, Bool.true_and, Bool.and_false, Bool.false_and, Bool.or_true, Bool.true_or, Bool.or_false, Bool.false_or, Bool.not_true, Bool.not_false, if_true, if_false, ite_true, ite_false, Bool.false_eq_true, not_true_eq_false, not_false_eq_true, bI_t, bI_f, decide_eq_true_eq, reduceCtorEq]; done) | (simp [X_beh, c_7, c_17, c_27]; done) | simp_all) (by first | (simp only [X_beh, c_7, c_17, c_27, decide_true, decide_false, Bool.and_true, Bool.true_and, Bool.and_false, Bool.false_and, Bool.or_true, Bool.true_or, Bool.or_false, Bool.false_or, Bool.not_true, Bool.not_false, if_true, if_false, ite_true, ite_false, Bool.false_eq_true, not_true_eq_false, not_false_eq_true, bI_t, bI_f, decide_eq_true_eq, reduceCtorEq]; done) | (simp [X_beh, c_7, c_17, c_27]; done) | simp_all)
    · refine zw_bipush (v := -5) X dX7_behind_20 bk_m5 ?_
      exact zw_iret X F dX7_behind_22 rfl (by first | (simp only [X_beh, c_7, c_17, decide_true, decide_false, Bool.and_true, Bool.true_and, Bool.and_false, Bool.false_and, Bool.or_true, Bool.true_or, Bool.or_false, Bool.false_or, Bool.not_true, Bool.not_false, if_true, if_false, ite_true, ite_false, Bool.false_eq_true, not_true_eq_false, not_false_eq_true, bI_t, bI_f, decide_eq_true_eq, reduceCtorEq]; done) | (simp [X_beh, c_7, c_17]; done) | simp_all) (by first | (simp only [X_beh, c_7, c_17, decide_true, decide_false, Bool.and_true, Bool.true_and, Bool.and_false, Bool.false_and, Bool.or_true, Bool.true_or, Bool.or_false, Bool.false_or, Bool.not_true, Bool.not_false, if_true, if_false, ite_true, ite_false, Bool.false_eq_true, not_true_eq_false, not_false_eq_true, bI_t, bI_f, decide_eq_true_eq, reduceCtorEq]; done) | (simp [X_beh, c_7, c_17]; done) | simp_all)
  · refine zw_bipush (v := -2) X dX7_behind_10 bk_m2 ?_
    exact zw_iret X F dX7_behind_12 rfl (by first | (simp only [X_beh, c_7, decide_true, decide_false, Bool.and_true, Bool.true_and, Bool.and_false, Bool.false_and, Bool.or_true, Bool.true_or, Bool.or_false, Bool.false_or, Bool.not_true, Bool.not_false, if_true, if_false, ite_true, ite_false, Bool.false_eq_true, not_true_eq_false, not_false_eq_true, bI_t, bI_f, decide_eq_true_eq, reduceCtorEq]; done) | (simp [X_beh, c_7]; done) | simp_all) (by first | (simp only [X_beh, c_7, decide_true, decide_false, Bool.and_true, Bool.true_and, Bool.and_false, Bool.false_and, Bool.or_true, Bool.true_or, Bool.or_false, Bool.false_or, Bool.not_true, Bool.not_false, if_true, if_false, ite_true, ite_false, Bool.false_eq_true, not_true_eq_false, not_false_eq_true, bI_t, bI_f, decide_eq_true_eq, reduceCtorEq]; done) | (simp [X_beh, c_7]; done) | simp_all)
set_option maxRecDepth 20000 in
set_option maxHeartbeats 4000000 in
theorem t_X7_holds {σ : St} {c : Int32} : Ct MX7_holds [.ref 0, .int c] σ (some (.int (X_holds σ c).1)) ((X_holds σ c).2) := by
  refine ct_of (ls0 := [some (.ref 0), some (.int c)]) ok_MX7_holds rfl (Nat.le_of_ble_eq_true rfl) rfl ?_
  intro g X F
  refine zw_iload_1 X dX7_holds_0 ?_
  refine zw_cS_ii X dX7_holds_1 lk_X7_97 ok_MX7_isCompartment st_MX7_isCompartment rm_X7_holds_X7_isCompartment (Nat.le_of_ble_eq_true rfl) t_X7_isCompartment ?_
  refine zw_ifneB (tgt := 9) X dX7_holds_4 (by decide) (fun c_4 => ?_) (fun c_4 => ?_)
  · refine zw_aload_0 X dX7_holds_9 ?_
    refine zw_getR X dX7_holds_10 fl_X7_10 ck_X7 sh_0 rfl ?_
    refine zw_iload_1 X dX7_holds_13 ?_
    refine zw_cV_ii X dX7_holds_14 lk_X7_142 ok_MX5_holderOf vi_MX5_holderOf rm_X7_holds_X5_holderOf sh_1 rfl (Nat.le_of_ble_eq_true rfl) (t_X5_holderOf isT_1) ?_
    exact zw_iret X F dX7_holds_17 rfl (by first | (simp only [X_holds, c_4, decide_true, decide_false, Bool.and_true, Bool.true_and, Bool.and_false, Bool.false_and, Bool.or_true, Bool.true_or, Bool.or_false, Bool.false_or, Bool.not_true, Bool.not_false, if_true, if_false, ite_true, ite_false, Bool.false_eq_true, not_true_eq_false, not_false_eq_true, bI_t, bI_f, decide_eq_true_eq, reduceCtorEq]; done) | (simp [X_holds, c_4]; done) | simp_all) (by first | (simp only [X_holds, c_4, decide_true, decide_false, Bool.and_true, Bool.true_and, Bool.and_false, Bool.false_and, Bool.or_true, Bool.true_or, Bool.or_false, Bool.false_or, Bool.not_true, Bool.not_false, if_true, if_false, ite_true, ite_false, Bool.false_eq_true, not_true_eq_false, not_false_eq_true, bI_t, bI_f, decide_eq_true_eq, reduceCtorEq]; done) | (simp [X_holds, c_4]; done) | simp_all)
  · refine zw_iconst (v := -1) X dX7_holds_7 ik_m1 ?_
    exact zw_iret X F dX7_holds_8 rfl (by first | (simp only [X_holds, c_4, decide_true, decide_false, Bool.and_true, Bool.true_and, Bool.and_false, Bool.false_and, Bool.or_true, Bool.true_or, Bool.or_false, Bool.false_or, Bool.not_true, Bool.not_false, if_true, if_false, ite_true, ite_false, Bool.false_eq_true, not_true_eq_false, not_false_eq_true, bI_t, bI_f, decide_eq_true_eq, reduceCtorEq]; done) | (simp [X_holds, c_4]; done) | simp_all) (by first | (simp only [X_holds, c_4, decide_true, decide_false, Bool.and_true, Bool.true_and, Bool.and_false, Bool.false_and, Bool.or_true, Bool.true_or, Bool.or_false, Bool.false_or, Bool.not_true, Bool.not_false, if_true, if_false, ite_true, ite_false, Bool.false_eq_true, not_true_eq_false, not_false_eq_true, bI_t, bI_f, decide_eq_true_eq, reduceCtorEq]; done) | (simp [X_holds, c_4]; done) | simp_all)
set_option maxRecDepth 20000 in
set_option maxHeartbeats 4000000 in
theorem t_X7_hears {σ : St} {t : Int32} : Ct MX7_hears [.ref 0, .int t] σ (some (.int (X_hears σ t).1)) ((X_hears σ t).2) := by
  refine ct_of (ls0 := [some (.ref 0), some (.int t)]) ok_MX7_hears rfl (Nat.le_of_ble_eq_true rfl) rfl ?_
  intro g X F
  refine zw_iload_1 X dX7_hears_0 ?_
  refine zw_cS_ii X dX7_hears_1 lk_X7_86 ok_MX7_isTraveller st_MX7_isTraveller rm_X7_hears_X7_isTraveller (Nat.le_of_ble_eq_true rfl) t_X7_isTraveller ?_
  refine zw_ifneB (tgt := 9) X dX7_hears_4 (by decide) (fun c_4 => ?_) (fun c_4 => ?_)
  · refine zw_aload_0 X dX7_hears_9 ?_
    refine zw_getR X dX7_hears_10 fl_X7_10 ck_X7 sh_0 rfl ?_
    refine zw_iload_1 X dX7_hears_13 ?_
    refine zw_cV_ii X dX7_hears_14 lk_X7_145 ok_MX5_maySpeak vi_MX5_maySpeak rm_X7_hears_X5_maySpeak sh_1 rfl (Nat.le_of_ble_eq_true rfl) (t_X5_maySpeak isT_1) ?_
    refine zw_ifneB (tgt := 23) X dX7_hears_17 (by decide) (fun c_17 => ?_) (fun c_17 => ?_)
    · refine zw_aload_0 X dX7_hears_23 ?_
      refine zw_getR X dX7_hears_24 fl_X7_10 ck_X7 sh_0 rfl ?_
      refine zw_iload_1 X dX7_hears_27 ?_
      refine zw_aload_0 X dX7_hears_28 ?_
      refine zw_getR X dX7_hears_29 fl_X7_10 ck_X7 sh_0 rfl ?_
      refine zw_getI X dX7_hears_32 fl_X7_72 ck_X5 sh_1 rfl ?_
      refine zw_cV_iii X dX7_hears_35 lk_X7_148 ok_MX5_companionsOf vi_MX5_companionsOf rm_X7_hears_X5_companionsOf sh_1 rfl (Nat.le_of_ble_eq_true rfl) (t_X5_companionsOf isT_1) ?_
      exact zw_iret X F dX7_hears_38 rfl (by first | (simp only [X_hears, c_4, c_17, decide_true, decide_false, Bool.and_true, Bool.true_and, Bool.and_false, Bool.false_and, Bool.or_true, Bool.true_or, Bool.or_false, Bool.false_or, Bool.not_true, Bool.not_false, if_true, if_false, ite_true, ite_false, Bool.false_eq_true, not_true_eq_false, not_false_eq_true, bI_t, bI_f, decide_eq_true_eq, reduceCtorEq]; done) | (simp [X_hears, c_4, c_17]; done) | simp_all) (by first | (simp only [X_hears, c_4, c_17, decide_true, decide_false, Bool.and_true, Bool.true_and, Bool.and_false, Bool.false_and, Bool.or_true, Bool.true_or, Bool.or_false, Bool.false_or, Bool.not_true, Bool.not_false, if_true, if_false, ite_true, ite_false, Bool.false_eq_true, not_true_eq_false, not_false_eq_true, bI_t, bI_f, decide_eq_true_eq, reduceCtorEq]; done) | (simp [X_hears, c_4, c_17]; done) | simp_all)
    · refine zw_bipush (v := -6) X dX7_hears_20 bk_m6 ?_
      exact zw_iret X F dX7_hears_22 rfl (by first | (simp only [X_hears, c_4, c_17, decide_true, decide_false, Bool.and_true, Bool.true_and, Bool.and_false, Bool.false_and, Bool.or_true, Bool.true_or, Bool.or_false, Bool.false_or, Bool.not_true, Bool.not_false, if_true, if_false, ite_true, ite_false, Bool.false_eq_true, not_true_eq_false, not_false_eq_true, bI_t, bI_f, decide_eq_true_eq, reduceCtorEq]; done) | (simp [X_hears, c_4, c_17]; done) | simp_all) (by first | (simp only [X_hears, c_4, c_17, decide_true, decide_false, Bool.and_true, Bool.true_and, Bool.and_false, Bool.false_and, Bool.or_true, Bool.true_or, Bool.or_false, Bool.false_or, Bool.not_true, Bool.not_false, if_true, if_false, ite_true, ite_false, Bool.false_eq_true, not_true_eq_false, not_false_eq_true, bI_t, bI_f, decide_eq_true_eq, reduceCtorEq]; done) | (simp [X_hears, c_4, c_17]; done) | simp_all)
  · refine zw_iconst (v := -1) X dX7_hears_7 ik_m1 ?_
    exact zw_iret X F dX7_hears_8 rfl (by first | (simp only [X_hears, c_4, decide_true, decide_false, Bool.and_true, Bool.true_and, Bool.and_false, Bool.false_and, Bool.or_true, Bool.true_or, Bool.or_false, Bool.false_or, Bool.not_true, Bool.not_false, if_true, if_false, ite_true, ite_false, Bool.false_eq_true, not_true_eq_false, not_false_eq_true, bI_t, bI_f, decide_eq_true_eq, reduceCtorEq]; done) | (simp [X_hears, c_4]; done) | simp_all) (by first | (simp only [X_hears, c_4, decide_true, decide_false, Bool.and_true, Bool.true_and, Bool.and_false, Bool.false_and, Bool.or_true, Bool.true_or, Bool.or_false, Bool.false_or, Bool.not_true, Bool.not_false, if_true, if_false, ite_true, ite_false, Bool.false_eq_true, not_true_eq_false, not_false_eq_true, bI_t, bI_f, decide_eq_true_eq, reduceCtorEq]; done) | (simp [X_hears, c_4]; done) | simp_all)
set_option maxRecDepth 20000 in
set_option maxHeartbeats 4000000 in
theorem t_X7_forecast {σ : St} {c d : Int32} : Ct MX7_forecast [.ref 0, .int c, .int d] σ (some (.int (X_fore σ c d).1)) ((X_fore σ c d).2) := by
  refine ct_of (ls0 := [some (.ref 0), some (.int c), some (.int d), none]) ok_MX7_forecast rfl (Nat.le_of_ble_eq_true rfl) rfl ?_
  intro g X F
  refine zw_iload_1 X dX7_forecast_0 ?_
  refine zw_cS_ii X dX7_forecast_1 lk_X7_97 ok_MX7_isCompartment st_MX7_isCompartment rm_X7_forecast_X7_isCompartment (Nat.le_of_ble_eq_true rfl) t_X7_isCompartment ?_
  refine zw_ifneB (tgt := 9) X dX7_forecast_4 (by decide) (fun c_4 => ?_) (fun c_4 => ?_)
  · refine zw_iload_2 X dX7_forecast_9 ?_
    refine zw_iconst (v := 0) X dX7_forecast_10 ik_0 ?_
    refine zw_bipush (v := 30) X dX7_forecast_11 bk_30 ?_
    refine zw_cS_iiii X dX7_forecast_13 lk_X7_64 ok_MX7_isWithin st_MX7_isWithin rm_X7_forecast_X7_isWithin (Nat.le_of_ble_eq_true rfl) t_X7_isWithin ?_
    refine zw_ifneB (tgt := 22) X dX7_forecast_16 (by decide) (fun c_16 => ?_) (fun c_16 => ?_)
    · refine zw_aload_0 X dX7_forecast_22 ?_
      refine zw_getR X dX7_forecast_23 fl_X7_16 ck_X7 sh_0 rfl ?_
      refine zw_aload_0 X dX7_forecast_26 ?_
      refine zw_getR X dX7_forecast_27 fl_X7_10 ck_X7 sh_0 rfl ?_
      refine zw_cV_rv X dX7_forecast_30 lk_X7_132 ok_MX5_copyFrom vi_MX5_copyFrom rm_X7_forecast_X5_copyFrom sh_7 rfl (Nat.le_of_ble_eq_true rfl) (t_X5_copyFrom isT_7 isT_1) ?_
      refine zw_iconst (v := 0) X dX7_forecast_33 ik_0 ?_
      refine zw_istore_3 X dX7_forecast_34 ?_
      refine zloop (α := St) (S := fun n a => ∀ (s35 : St) (v35_3 : Int32), s35 = a → v35_3 = nI n → ZW g 35 [some (.ref 0), some (.int c), some (.int d), some (.int v35_3)] [] s35) (N := (clN d)) (f := (fun _ τ => tpas τ 7)) (a0 := (tcopy σ 7 1)) (fun n35 a35 hn35 ha35 ih35 s35 v35_3 hs35 hv35_3 => ?_) (fun a35 ha35 s35 v35_3 hs35 hv35_3 => ?_) _ _ rfl rfl
      · subst hs35 hv35_3
        refine zw_iload_3 X dX7_forecast_35 ?_
        refine zw_iload_2 X dX7_forecast_36 ?_
        refine zw_icmpge_f (tgt := 54) X dX7_forecast_37 (by decide) ((clN_lt (Nat.le_of_lt hn35)).mpr hn35) ?_
        refine zw_aload_0 X dX7_forecast_40 ?_
        refine zw_getR X dX7_forecast_41 fl_X7_16 ck_X7 sh_0 rfl ?_
        refine zw_cV_ni X dX7_forecast_44 lk_X7_152 ok_MX5_passMinute vi_MX5_passMinute rm_X7_forecast_X5_passMinute sh_7 rfl (Nat.le_of_ble_eq_true rfl) (t_X5_passMinute isT_7) ?_
        refine zw_pop_i X dX7_forecast_47 ?_
        refine zw_iinc_3_p1 X dX7_forecast_48 ?_
        refine zw_goto (tgt := 35) X dX7_forecast_51 (by decide) ?_
        exact ih35 _ _ (by first | (simp only [c_4, c_16, decide_true, decide_false, Bool.and_true, Bool.true_and, Bool.and_false, Bool.false_and, Bool.or_true, Bool.true_or, Bool.or_false, Bool.false_or, Bool.not_true, Bool.not_false, if_true, if_false, ite_true, ite_false, Bool.false_eq_true, not_true_eq_false, not_false_eq_true, bI_t, bI_f, decide_eq_true_eq, reduceCtorEq]; done) | (simp [c_4, c_16]; done) | simp_all) (nI_1 n35)
      · subst hs35 hv35_3
        refine zw_iload_3 X dX7_forecast_35 ?_
        refine zw_iload_2 X dX7_forecast_36 ?_
        refine zw_icmpge_t (tgt := 54) X dX7_forecast_37 (by decide) (fun h => Nat.lt_irrefl _ ((clN_lt (Nat.le_refl _)).mp h)) ?_
        refine zw_aload_0 X dX7_forecast_54 ?_
        refine zw_getR X dX7_forecast_55 fl_X7_16 ck_X7 sh_0 rfl ?_
        refine zw_iload_1 X dX7_forecast_58 ?_
        refine zw_cV_ii X dX7_forecast_59 lk_X7_142 ok_MX5_holderOf vi_MX5_holderOf rm_X7_forecast_X5_holderOf sh_7 rfl (Nat.le_of_ble_eq_true rfl) (t_X5_holderOf isT_7) ?_
        exact zw_iret X F dX7_forecast_62 rfl (by simp only [X_fore, X_foreS, c_4, c_16, ← ha35, if_true]) (by simp only [X_fore, X_foreS, c_4, c_16, ← ha35, if_true])
    · refine zw_bipush (v := -2) X dX7_forecast_19 bk_m2 ?_
      exact zw_iret X F dX7_forecast_21 rfl (by first | (simp only [X_foreS, X_fore, c_4, c_16, decide_true, decide_false, Bool.and_true, Bool.true_and, Bool.and_false, Bool.false_and, Bool.or_true, Bool.true_or, Bool.or_false, Bool.false_or, Bool.not_true, Bool.not_false, if_true, if_false, ite_true, ite_false, Bool.false_eq_true, not_true_eq_false, not_false_eq_true, bI_t, bI_f, decide_eq_true_eq, reduceCtorEq]; done) | (simp [X_foreS, X_fore, c_4, c_16]; done) | simp_all) (by first | (simp only [X_fore, c_4, c_16, decide_true, decide_false, Bool.and_true, Bool.true_and, Bool.and_false, Bool.false_and, Bool.or_true, Bool.true_or, Bool.or_false, Bool.false_or, Bool.not_true, Bool.not_false, if_true, if_false, ite_true, ite_false, Bool.false_eq_true, not_true_eq_false, not_false_eq_true, bI_t, bI_f, decide_eq_true_eq, reduceCtorEq]; done) | (simp [X_fore, c_4, c_16]; done) | simp_all)
  · refine zw_iconst (v := -1) X dX7_forecast_7 ik_m1 ?_
    exact zw_iret X F dX7_forecast_8 rfl (by first | (simp only [X_foreS, X_fore, c_4, decide_true, decide_false, Bool.and_true, Bool.true_and, Bool.and_false, Bool.false_and, Bool.or_true, Bool.true_or, Bool.or_false, Bool.false_or, Bool.not_true, Bool.not_false, if_true, if_false, ite_true, ite_false, Bool.false_eq_true, not_true_eq_false, not_false_eq_true, bI_t, bI_f, decide_eq_true_eq, reduceCtorEq]; done) | (simp [X_foreS, X_fore, c_4]; done) | simp_all) (by first | (simp only [X_fore, c_4, decide_true, decide_false, Bool.and_true, Bool.true_and, Bool.and_false, Bool.false_and, Bool.or_true, Bool.true_or, Bool.or_false, Bool.false_or, Bool.not_true, Bool.not_false, if_true, if_false, ite_true, ite_false, Bool.false_eq_true, not_true_eq_false, not_false_eq_true, bI_t, bI_f, decide_eq_true_eq, reduceCtorEq]; done) | (simp [X_fore, c_4]; done) | simp_all)
set_option maxRecDepth 20000 in
set_option maxHeartbeats 4000000 in
theorem t_X7_letAllMinutesPass {σ : St} : Ct MX7_letAllMinutesPass [.ref 0] σ (none) (X_all σ) := by
  refine ct_of (ls0 := [some (.ref 0), none]) ok_MX7_letAllMinutesPass rfl (Nat.le_of_ble_eq_true rfl) rfl ?_
  intro g X F
  refine zw_aload_0 X dX7_letAllMinutesPass_0 ?_
  refine zw_getR X dX7_letAllMinutesPass_1 fl_X7_16 ck_X7 sh_0 rfl ?_
  refine zw_aload_0 X dX7_letAllMinutesPass_4 ?_
  refine zw_getR X dX7_letAllMinutesPass_5 fl_X7_10 ck_X7 sh_0 rfl ?_
  refine zw_cV_rv X dX7_letAllMinutesPass_8 lk_X7_132 ok_MX5_copyFrom vi_MX5_copyFrom rm_X7_letAllMinutesPass_X5_copyFrom sh_7 rfl (Nat.le_of_ble_eq_true rfl) (t_X5_copyFrom isT_7 isT_1) ?_
  refine zw_aload_0 X dX7_letAllMinutesPass_11 ?_
  refine zw_getR X dX7_letAllMinutesPass_12 fl_X7_10 ck_X7 sh_0 rfl ?_
  refine zw_getI X dX7_letAllMinutesPass_15 fl_X7_72 ck_X5 sh_1 rfl ?_
  refine zw_istore_1 X dX7_letAllMinutesPass_18 ?_
  refine zloop (α := St) (S := fun n a => ∀ (s19 : St) (v19_1 : Int32), s19 = a → v19_1 = σ 1 1 + nI n → ZW g 19 [some (.ref 0), some (.int v19_1)] [] s19) (N := (cnt (σ 1 1) (σ 1 0))) (f := (fun _ τ => tpas τ 7)) (a0 := (tcopy σ 7 1)) (fun n19 a19 hn19 ha19 ih19 s19 v19_1 hs19 hv19_1 => ?_) (fun a19 ha19 s19 v19_1 hs19 hv19_1 => ?_) _ _ rfl (by rw [tcopy71_1, nI_0, Int32.add_zero])
  · subst hs19 hv19_1
    have e1 : (s19) 1 = σ 1 := by rw [ha19]; exact all_1 _ _
    refine zw_iload_1 X dX7_letAllMinutesPass_19 ?_
    refine zw_aload_0 X dX7_letAllMinutesPass_20 ?_
    refine zw_getR X dX7_letAllMinutesPass_21 fl_X7_10 ck_X7 sh_0 rfl ?_
    refine zw_getI X dX7_letAllMinutesPass_24 fl_X7_68 ck_X5 sh_1 rfl ?_
    refine zw_icmpge_f (tgt := 44) X dX7_letAllMinutesPass_27 (by decide) (by rw [e1]; exact (cnt_lt (Nat.le_of_lt hn19)).mpr hn19) ?_
    refine zw_aload_0 X dX7_letAllMinutesPass_30 ?_
    refine zw_getR X dX7_letAllMinutesPass_31 fl_X7_16 ck_X7 sh_0 rfl ?_
    refine zw_cV_ni X dX7_letAllMinutesPass_34 lk_X7_152 ok_MX5_passMinute vi_MX5_passMinute rm_X7_letAllMinutesPass_X5_passMinute sh_7 rfl (Nat.le_of_ble_eq_true rfl) (t_X5_passMinute isT_7) ?_
    refine zw_pop_i X dX7_letAllMinutesPass_37 ?_
    refine zw_iinc_1_p1 X dX7_letAllMinutesPass_38 ?_
    refine zw_goto (tgt := 19) X dX7_letAllMinutesPass_41 (by decide) ?_
    exact ih19 _ _ (by first | rfl | (simp only [decide_true, decide_false, Bool.and_true, Bool.true_and, Bool.and_false, Bool.false_and, Bool.or_true, Bool.true_or, Bool.or_false, Bool.false_or, Bool.not_true, Bool.not_false, if_true, if_false, ite_true, ite_false, Bool.false_eq_true, not_true_eq_false, not_false_eq_true, bI_t, bI_f, decide_eq_true_eq, reduceCtorEq]; done) | (simp; done) | simp_all) (add_nI _ n19)
  · subst hs19 hv19_1
    have e1 : (s19) 1 = σ 1 := by rw [ha19]; exact all_1 _ _
    refine zw_iload_1 X dX7_letAllMinutesPass_19 ?_
    refine zw_aload_0 X dX7_letAllMinutesPass_20 ?_
    refine zw_getR X dX7_letAllMinutesPass_21 fl_X7_10 ck_X7 sh_0 rfl ?_
    refine zw_getI X dX7_letAllMinutesPass_24 fl_X7_68 ck_X5 sh_1 rfl ?_
    refine zw_icmpge_t (tgt := 44) X dX7_letAllMinutesPass_27 (by decide) (by rw [e1]; exact fun h => Nat.lt_irrefl _ ((cnt_lt (Nat.le_refl _)).mp h)) ?_
    exact zw_vret X F dX7_letAllMinutesPass_44 rfl (ha19)
set_option maxRecDepth 20000 in
set_option maxHeartbeats 4000000 in
theorem t_X7_rests {σ : St} {t : Int32} : Ct MX7_rests [.ref 0, .int t] σ (some (.int (X_rests σ t).1)) ((X_rests σ t).2) := by
  refine ct_of (ls0 := [some (.ref 0), some (.int t)]) ok_MX7_rests rfl (Nat.le_of_ble_eq_true rfl) rfl ?_
  intro g X F
  refine zw_iload_1 X dX7_rests_0 ?_
  refine zw_cS_ii X dX7_rests_1 lk_X7_86 ok_MX7_isTraveller st_MX7_isTraveller rm_X7_rests_X7_isTraveller (Nat.le_of_ble_eq_true rfl) t_X7_isTraveller ?_
  refine zw_ifneB (tgt := 9) X dX7_rests_4 (by decide) (fun c_4 => ?_) (fun c_4 => ?_)
  · refine zw_aload_0 X dX7_rests_9 ?_
    refine zw_cV_nv X dX7_rests_10 lk_X7_155 ok_MX7_letAllMinutesPass vi_MX7_letAllMinutesPass rm_X7_rests_X7_letAllMinutesPass sh_0 rfl (Nat.le_of_ble_eq_true rfl) t_X7_letAllMinutesPass ?_
    refine zw_aload_0 X dX7_rests_13 ?_
    refine zw_getR X dX7_rests_14 fl_X7_16 ck_X7 sh_0 rfl ?_
    refine zw_getR X dX7_rests_17 fl_X7_104 ck_X5 sh_7 rfl ?_
    refine zw_iload_1 X dX7_rests_20 ?_
    refine zw_iald X dX7_rests_21 sh_11 (isTr_in c_4) ?_
    exact zw_iret X F dX7_rests_22 rfl (by first | (simp only [X_rests, c_4, decide_true, decide_false, Bool.and_true, Bool.true_and, Bool.and_false, Bool.false_and, Bool.or_true, Bool.true_or, Bool.or_false, Bool.false_or, Bool.not_true, Bool.not_false, if_true, if_false, ite_true, ite_false, Bool.false_eq_true, not_true_eq_false, not_false_eq_true, bI_t, bI_f, decide_eq_true_eq, reduceCtorEq]; done) | (simp [X_rests, c_4]; done) | simp_all) (by first | (simp only [X_rests, c_4, decide_true, decide_false, Bool.and_true, Bool.true_and, Bool.and_false, Bool.false_and, Bool.or_true, Bool.true_or, Bool.or_false, Bool.false_or, Bool.not_true, Bool.not_false, if_true, if_false, ite_true, ite_false, Bool.false_eq_true, not_true_eq_false, not_false_eq_true, bI_t, bI_f, decide_eq_true_eq, reduceCtorEq]; done) | (simp [X_rests, c_4]; done) | simp_all)
  · refine zw_iconst (v := -1) X dX7_rests_7 ik_m1 ?_
    exact zw_iret X F dX7_rests_8 rfl (by first | (simp only [X_rests, c_4, decide_true, decide_false, Bool.and_true, Bool.true_and, Bool.and_false, Bool.false_and, Bool.or_true, Bool.true_or, Bool.or_false, Bool.false_or, Bool.not_true, Bool.not_false, if_true, if_false, ite_true, ite_false, Bool.false_eq_true, not_true_eq_false, not_false_eq_true, bI_t, bI_f, decide_eq_true_eq, reduceCtorEq]; done) | (simp [X_rests, c_4]; done) | simp_all) (by first | (simp only [X_rests, c_4, decide_true, decide_false, Bool.and_true, Bool.true_and, Bool.and_false, Bool.false_and, Bool.or_true, Bool.true_or, Bool.or_false, Bool.false_or, Bool.not_true, Bool.not_false, if_true, if_false, ite_true, ite_false, Bool.false_eq_true, not_true_eq_false, not_false_eq_true, bI_t, bI_f, decide_eq_true_eq, reduceCtorEq]; done) | (simp [X_rests, c_4]; done) | simp_all)
set_option maxRecDepth 20000 in
set_option maxHeartbeats 4000000 in
theorem t_X7_talks {σ : St} {t q : Int32} : Ct MX7_talks [.ref 0, .int t, .int q] σ (some (.int (X_talks σ t q).1)) ((X_talks σ t q).2) := by
  refine ct_of (ls0 := [some (.ref 0), some (.int t), some (.int q), none, none]) ok_MX7_talks rfl (Nat.le_of_ble_eq_true rfl) rfl ?_
  intro g X F
  refine zw_iload_1 X dX7_talks_0 ?_
  refine zw_cS_ii X dX7_talks_1 lk_X7_86 ok_MX7_isTraveller st_MX7_isTraveller rm_X7_talks_X7_isTraveller (Nat.le_of_ble_eq_true rfl) t_X7_isTraveller ?_
  refine zw_ifeqB (tgt := 19) X dX7_talks_4 (by decide) (fun c_4 => ?_) (fun c_4 => ?_)
  · refine zw_iconst (v := -1) X dX7_talks_19 ik_m1 ?_
    exact zw_iret X F dX7_talks_20 rfl (by first | (simp only [X_talks, c_4, decide_true, decide_false, Bool.and_true, Bool.true_and, Bool.and_false, Bool.false_and, Bool.or_true, Bool.true_or, Bool.or_false, Bool.false_or, Bool.not_true, Bool.not_false, if_true, if_false, ite_true, ite_false, Bool.false_eq_true, not_true_eq_false, not_false_eq_true, bI_t, bI_f, decide_eq_true_eq, reduceCtorEq]; done) | (simp [X_talks, c_4]; done) | simp_all) (by first | (simp only [X_talks, c_4, decide_true, decide_false, Bool.and_true, Bool.true_and, Bool.and_false, Bool.false_and, Bool.or_true, Bool.true_or, Bool.or_false, Bool.false_or, Bool.not_true, Bool.not_false, if_true, if_false, ite_true, ite_false, Bool.false_eq_true, not_true_eq_false, not_false_eq_true, bI_t, bI_f, decide_eq_true_eq, reduceCtorEq]; done) | (simp [X_talks, c_4]; done) | simp_all)
  · refine zw_iload_2 X dX7_talks_7 ?_
    refine zw_cS_ii X dX7_talks_8 lk_X7_86 ok_MX7_isTraveller st_MX7_isTraveller rm_X7_talks_X7_isTraveller (Nat.le_of_ble_eq_true rfl) t_X7_isTraveller ?_
    refine zw_ifeqB (tgt := 19) X dX7_talks_11 (by decide) (fun c_11 => ?_) (fun c_11 => ?_)
    · refine zw_iconst (v := -1) X dX7_talks_19 ik_m1 ?_
      exact zw_iret X F dX7_talks_20 rfl (by first | (simp only [X_talks, c_4, c_11, decide_true, decide_false, Bool.and_true, Bool.true_and, Bool.and_false, Bool.false_and, Bool.or_true, Bool.true_or, Bool.or_false, Bool.false_or, Bool.not_true, Bool.not_false, if_true, if_false, ite_true, ite_false, Bool.false_eq_true, not_true_eq_false, not_false_eq_true, bI_t, bI_f, decide_eq_true_eq, reduceCtorEq]; done) | (simp [X_talks, c_4, c_11]; done) | simp_all) (by first | (simp only [X_talks, c_4, c_11, decide_true, decide_false, Bool.and_true, Bool.true_and, Bool.and_false, Bool.false_and, Bool.or_true, Bool.true_or, Bool.or_false, Bool.false_or, Bool.not_true, Bool.not_false, if_true, if_false, ite_true, ite_false, Bool.false_eq_true, not_true_eq_false, not_false_eq_true, bI_t, bI_f, decide_eq_true_eq, reduceCtorEq]; done) | (simp [X_talks, c_4, c_11]; done) | simp_all)
    · refine zw_iload_1 X dX7_talks_14 ?_
      refine zw_iload_2 X dX7_talks_15 ?_
      refine zw_icmpne (tgt := 21) X dX7_talks_16 (by decide) (fun c_16 => ?_) (fun c_16 => ?_)
      · refine zw_iconst (v := 0) X dX7_talks_21 ik_0 ?_
        refine zw_istore_3 X dX7_talks_22 ?_
        refine zw_aload_0 X dX7_talks_23 ?_
        refine zw_getR X dX7_talks_24 fl_X7_16 ck_X7 sh_0 rfl ?_
        refine zw_aload_0 X dX7_talks_27 ?_
        refine zw_getR X dX7_talks_28 fl_X7_10 ck_X7 sh_0 rfl ?_
        refine zw_cV_rv X dX7_talks_31 lk_X7_132 ok_MX5_copyFrom vi_MX5_copyFrom rm_X7_talks_X5_copyFrom sh_7 rfl (Nat.le_of_ble_eq_true rfl) (t_X5_copyFrom isT_7 isT_1) ?_
        refine zw_aload_0 X dX7_talks_34 ?_
        refine zw_getR X dX7_talks_35 fl_X7_10 ck_X7 sh_0 rfl ?_
        refine zw_getI X dX7_talks_38 fl_X7_72 ck_X5 sh_1 rfl ?_
        refine zw_istore_4 X dX7_talks_41 ?_
        refine zloop (α := Int32 × St) (S := fun n a => ∀ (v43_3 : Int32) (s43 : St) (v43_4 : Int32), v43_3 = a.1 → s43 = a.2 → v43_4 = σ 1 1 + nI n → ZW g 43 [some (.ref 0), some (.int t), some (.int q), some (.int v43_3), some (.int v43_4)] [] s43) (N := (cnt (σ 1 1) (σ 1 0))) (f := (X_talkF σ t q)) (a0 := ((0, tcopy σ 7 1) : Int32 × St)) (fun n43 a43 hn43 ha43 ih43 v43_3 s43 v43_4 hv43_3 hs43 hv43_4 => ?_) (fun a43 ha43 v43_3 s43 v43_4 hv43_3 hs43 hv43_4 => ?_) _ _ _ rfl rfl (by rw [tcopy71_1, nI_0, Int32.add_zero])
        · subst hv43_3 hs43 hv43_4
          have e1 : (a43.2) 1 = σ 1 := by rw [ha43]; exact talk_1 _ _ _ _
          refine zw_iload_4 X dX7_talks_43 ?_
          refine zw_aload_0 X dX7_talks_45 ?_
          refine zw_getR X dX7_talks_46 fl_X7_10 ck_X7 sh_0 rfl ?_
          refine zw_getI X dX7_talks_49 fl_X7_68 ck_X5 sh_1 rfl ?_
          refine zw_icmpge_f (tgt := 105) X dX7_talks_52 (by decide) (by rw [e1]; exact (cnt_lt (Nat.le_of_lt hn43)).mpr hn43) ?_
          refine zw_aload_0 X dX7_talks_55 ?_
          refine zw_getR X dX7_talks_56 fl_X7_16 ck_X7 sh_0 rfl ?_
          refine zw_iload_1 X dX7_talks_59 ?_
          refine zw_cV_ii X dX7_talks_60 lk_X7_145 ok_MX5_maySpeak vi_MX5_maySpeak rm_X7_talks_X5_maySpeak sh_7 rfl (Nat.le_of_ble_eq_true rfl) (t_X5_maySpeak isT_7) ?_
          refine zw_ifeqB (tgt := 91) X dX7_talks_63 (by decide) (fun c_63 => ?_) (fun c_63 => ?_)
          · refine zw_aload_0 X dX7_talks_91 ?_
            refine zw_getR X dX7_talks_92 fl_X7_16 ck_X7 sh_0 rfl ?_
            refine zw_cV_ni X dX7_talks_95 lk_X7_152 ok_MX5_passMinute vi_MX5_passMinute rm_X7_talks_X5_passMinute sh_7 rfl (Nat.le_of_ble_eq_true rfl) (t_X5_passMinute isT_7) ?_
            refine zw_pop_i X dX7_talks_98 ?_
            refine zw_iinc_4_p1 X dX7_talks_99 ?_
            refine zw_goto (tgt := 43) X dX7_talks_102 (by decide) ?_
            exact ih43 _ _ _ (by first | (simp only [X_talkF, c_4, c_11, c_16, c_63, decide_true, decide_false, Bool.and_true, Bool.true_and, Bool.and_false, Bool.false_and, Bool.or_true, Bool.true_or, Bool.or_false, Bool.false_or, Bool.not_true, Bool.not_false, if_true, if_false, ite_true, ite_false, Bool.false_eq_true, not_true_eq_false, not_false_eq_true, bI_t, bI_f, decide_eq_true_eq, reduceCtorEq]; done) | (simp [X_talkF, c_4, c_11, c_16, c_63]; done) | simp_all) (by first | (simp only [X_talkF, c_4, c_11, c_16, c_63, decide_true, decide_false, Bool.and_true, Bool.true_and, Bool.and_false, Bool.false_and, Bool.or_true, Bool.true_or, Bool.or_false, Bool.false_or, Bool.not_true, Bool.not_false, if_true, if_false, ite_true, ite_false, Bool.false_eq_true, not_true_eq_false, not_false_eq_true, bI_t, bI_f, decide_eq_true_eq, reduceCtorEq]; done) | (simp [X_talkF, c_4, c_11, c_16, c_63]; done) | simp_all) (add_nI _ n43)
          · refine zw_aload_0 X dX7_talks_66 ?_
            refine zw_getR X dX7_talks_67 fl_X7_16 ck_X7 sh_0 rfl ?_
            refine zw_iload_2 X dX7_talks_70 ?_
            refine zw_aload_0 X dX7_talks_71 ?_
            refine zw_getR X dX7_talks_72 fl_X7_16 ck_X7 sh_0 rfl ?_
            refine zw_getR X dX7_talks_75 fl_X7_100 ck_X5 sh_7 rfl ?_
            refine zw_iload_1 X dX7_talks_78 ?_
            refine zw_iald X dX7_talks_79 sh_10 (isTr_in c_4) ?_
            refine zw_iload_4 X dX7_talks_80 ?_
            refine zw_cV_iiii X dX7_talks_82 lk_X7_158 ok_MX5_ridesIn vi_MX5_ridesIn rm_X7_talks_X5_ridesIn sh_7 rfl (Nat.le_of_ble_eq_true rfl) (t_X5_ridesIn isT_7) ?_
            refine zw_ifeqB (tgt := 91) X dX7_talks_85 (by decide) (fun c_85 => ?_) (fun c_85 => ?_)
            · refine zw_aload_0 X dX7_talks_91 ?_
              refine zw_getR X dX7_talks_92 fl_X7_16 ck_X7 sh_0 rfl ?_
              refine zw_cV_ni X dX7_talks_95 lk_X7_152 ok_MX5_passMinute vi_MX5_passMinute rm_X7_talks_X5_passMinute sh_7 rfl (Nat.le_of_ble_eq_true rfl) (t_X5_passMinute isT_7) ?_
              refine zw_pop_i X dX7_talks_98 ?_
              refine zw_iinc_4_p1 X dX7_talks_99 ?_
              refine zw_goto (tgt := 43) X dX7_talks_102 (by decide) ?_
              exact ih43 _ _ _ (by first | (simp only [X_talkF, c_4, c_11, c_16, c_63, c_85, decide_true, decide_false, Bool.and_true, Bool.true_and, Bool.and_false, Bool.false_and, Bool.or_true, Bool.true_or, Bool.or_false, Bool.false_or, Bool.not_true, Bool.not_false, if_true, if_false, ite_true, ite_false, Bool.false_eq_true, not_true_eq_false, not_false_eq_true, bI_t, bI_f, decide_eq_true_eq, reduceCtorEq]; done) | (simp [X_talkF, c_4, c_11, c_16, c_63, c_85]; done) | simp_all) (by first | (simp only [X_talkF, c_4, c_11, c_16, c_63, c_85, decide_true, decide_false, Bool.and_true, Bool.true_and, Bool.and_false, Bool.false_and, Bool.or_true, Bool.true_or, Bool.or_false, Bool.false_or, Bool.not_true, Bool.not_false, if_true, if_false, ite_true, ite_false, Bool.false_eq_true, not_true_eq_false, not_false_eq_true, bI_t, bI_f, decide_eq_true_eq, reduceCtorEq]; done) | (simp [X_talkF, c_4, c_11, c_16, c_63, c_85]; done) | simp_all) (add_nI _ n43)
            · refine zw_iinc_3_p1 X dX7_talks_88 ?_
              refine zw_aload_0 X dX7_talks_91 ?_
              refine zw_getR X dX7_talks_92 fl_X7_16 ck_X7 sh_0 rfl ?_
              refine zw_cV_ni X dX7_talks_95 lk_X7_152 ok_MX5_passMinute vi_MX5_passMinute rm_X7_talks_X5_passMinute sh_7 rfl (Nat.le_of_ble_eq_true rfl) (t_X5_passMinute isT_7) ?_
              refine zw_pop_i X dX7_talks_98 ?_
              refine zw_iinc_4_p1 X dX7_talks_99 ?_
              refine zw_goto (tgt := 43) X dX7_talks_102 (by decide) ?_
              exact ih43 _ _ _ (by first | (simp only [X_talkF, c_4, c_11, c_16, c_63, c_85, decide_true, decide_false, Bool.and_true, Bool.true_and, Bool.and_false, Bool.false_and, Bool.or_true, Bool.true_or, Bool.or_false, Bool.false_or, Bool.not_true, Bool.not_false, if_true, if_false, ite_true, ite_false, Bool.false_eq_true, not_true_eq_false, not_false_eq_true, bI_t, bI_f, decide_eq_true_eq, reduceCtorEq]; done) | (simp [X_talkF, c_4, c_11, c_16, c_63, c_85]; done) | simp_all) (by first | (simp only [X_talkF, c_4, c_11, c_16, c_63, c_85, decide_true, decide_false, Bool.and_true, Bool.true_and, Bool.and_false, Bool.false_and, Bool.or_true, Bool.true_or, Bool.or_false, Bool.false_or, Bool.not_true, Bool.not_false, if_true, if_false, ite_true, ite_false, Bool.false_eq_true, not_true_eq_false, not_false_eq_true, bI_t, bI_f, decide_eq_true_eq, reduceCtorEq]; done) | (simp [X_talkF, c_4, c_11, c_16, c_63, c_85]; done) | simp_all) (add_nI _ n43)
        · subst hv43_3 hs43 hv43_4
          have e1 : (a43.2) 1 = σ 1 := by rw [ha43]; exact talk_1 _ _ _ _
          refine zw_iload_4 X dX7_talks_43 ?_
          refine zw_aload_0 X dX7_talks_45 ?_
          refine zw_getR X dX7_talks_46 fl_X7_10 ck_X7 sh_0 rfl ?_
          refine zw_getI X dX7_talks_49 fl_X7_68 ck_X5 sh_1 rfl ?_
          refine zw_icmpge_t (tgt := 105) X dX7_talks_52 (by decide) (by rw [e1]; exact fun h => Nat.lt_irrefl _ ((cnt_lt (Nat.le_refl _)).mp h)) ?_
          refine zw_iload_3 X dX7_talks_105 ?_
          exact zw_iret X F dX7_talks_106 rfl (by simp only [X_talks, c_4, c_11, c_16, decide_false, Bool.not_false, Bool.and_true, if_true, X_talkA, ← ha43]) (by simp only [X_talks, c_4, c_11, c_16, decide_false, Bool.not_false, Bool.and_true, if_true, X_talkA, ← ha43])
      · refine zw_iconst (v := -1) X dX7_talks_19 ik_m1 ?_
        exact zw_iret X F dX7_talks_20 rfl (by first | (simp only [X_talks, c_4, c_11, eq_true c_16, decide_true, decide_false, Bool.and_true, Bool.true_and, Bool.and_false, Bool.false_and, Bool.or_true, Bool.true_or, Bool.or_false, Bool.false_or, Bool.not_true, Bool.not_false, if_true, if_false, ite_true, ite_false, Bool.false_eq_true, not_true_eq_false, not_false_eq_true, bI_t, bI_f, decide_eq_true_eq, reduceCtorEq]; done) | (simp [X_talks, c_4, c_11, eq_true c_16]; done) | simp_all) (by first | (simp only [X_talks, c_4, c_11, eq_true c_16, decide_true, decide_false, Bool.and_true, Bool.true_and, Bool.and_false, Bool.false_and, Bool.or_true, Bool.true_or, Bool.or_false, Bool.false_or, Bool.not_true, Bool.not_false, if_true, if_false, ite_true, ite_false, Bool.false_eq_true, not_true_eq_false, not_false_eq_true, bI_t, bI_f, decide_eq_true_eq, reduceCtorEq]; done) | (simp [X_talks, c_4, c_11, eq_true c_16]; done) | simp_all)
set_option maxRecDepth 20000 in
set_option maxHeartbeats 4000000 in
theorem l_X7_keepsSilence {g : Gt} (X : CX g MX7_keepsSilence) {σ : St} {t b : Int32} : ∀ (n j : Nat) (τ : St), j + n = cnt (σ 1 1) (σ 1 0) → τ 1 = σ 1 → FnZ g MX7_keepsSilence (some (.int (bI (ksGo t n (σ 1 1 + nI j) τ).1))) (ksGo t n (σ 1 1 + nI j) τ).2 → ZW g 28 [some (.ref 0), some (.int t), some (.int b), some (.int (σ 1 1 + nI j)), none] [] τ := by
  intro n
  induction n with
  | zero =>
    intro j τ hjn e1 F
    have hj : j = cnt (σ 1 1) (σ 1 0) := by omega
    refine zw_iload_3 X dX7_keepsSilence_28 ?_
    refine zw_aload_0 X dX7_keepsSilence_29 ?_
    refine zw_getR X dX7_keepsSilence_30 fl_X7_10 ck_X7 sh_0 rfl ?_
    refine zw_getI X dX7_keepsSilence_33 fl_X7_68 ck_X5 sh_1 rfl ?_
    refine zw_icmpge_t (tgt := 101) X dX7_keepsSilence_36 (by decide) (by rw [e1, hj]; exact fun h => Nat.lt_irrefl _ ((cnt_lt (Nat.le_refl _)).mp h)) ?_
    refine zw_iconst (v := 1) X dX7_keepsSilence_101 ik_1 ?_
    exact zw_zret X F dX7_keepsSilence_102 rfl rfl rfl
  | succ n ih =>
    intro j τ hjn e1 F
    have hj : j < cnt (σ 1 1) (σ 1 0) := by omega
    refine zw_iload_3 X dX7_keepsSilence_28 ?_
    refine zw_aload_0 X dX7_keepsSilence_29 ?_
    refine zw_getR X dX7_keepsSilence_30 fl_X7_10 ck_X7 sh_0 rfl ?_
    refine zw_getI X dX7_keepsSilence_33 fl_X7_68 ck_X5 sh_1 rfl ?_
    refine zw_icmpge_f (tgt := 101) X dX7_keepsSilence_36 (by decide) (by rw [e1]; exact (cnt_lt (Nat.le_of_lt hj)).mpr hj) ?_
    refine zw_aload_0 X dX7_keepsSilence_39 ?_
    refine zw_getR X dX7_keepsSilence_40 fl_X7_16 ck_X7 sh_0 rfl ?_
    refine zw_iload_1 X dX7_keepsSilence_43 ?_
    refine zw_iload_3 X dX7_keepsSilence_44 ?_
    refine zw_cV_iii X dX7_keepsSilence_45 lk_X7_252 ok_MX5_ridesAt vi_MX5_ridesAt rm_X7_keepsSilence_X5_ridesAt sh_7 rfl (Nat.le_of_ble_eq_true rfl) (t_X5_ridesAt isT_7) ?_
    refine zw_ifeqB (tgt := 66) X dX7_keepsSilence_48 (by decide) (fun c_48 => ?_) (fun c_48 => ?_)
    · refine zw_iconst (v := 0) X dX7_keepsSilence_66 ik_0 ?_
      refine zw_istore_4 X dX7_keepsSilence_67 ?_
      refine zw_iload_4 X dX7_keepsSilence_69 ?_
      refine zw_ifeq_t (tgt := 87) X dX7_keepsSilence_71 (by decide) (by decide) ?_
      refine zw_aload_0 X dX7_keepsSilence_87 ?_
      refine zw_getR X dX7_keepsSilence_88 fl_X7_16 ck_X7 sh_0 rfl ?_
      refine zw_cV_ni X dX7_keepsSilence_91 lk_X7_152 ok_MX5_passMinute vi_MX5_passMinute rm_X7_keepsSilence_X5_passMinute sh_7 rfl (Nat.le_of_ble_eq_true rfl) (t_X5_passMinute isT_7) ?_
      refine zw_pop_i X dX7_keepsSilence_94 ?_
      refine zw_iinc_3_p1 X dX7_keepsSilence_95 ?_
      refine zw_goto (tgt := 28) X dX7_keepsSilence_98 (by decide) ?_
      refine zw_fg_4 ?_
      rw [add_nI]
      exact ih (j + 1) _ (by omega) (by rw [tpas_ne _ _ (show (1 : Nat) ≠ 7 by decide) (show (1 : Nat) ≠ 7 + 4 by decide)]; exact e1) (ksGo_stepF F (by first | (simp only [c_48, decide_true, decide_false, Bool.and_true, Bool.true_and, Bool.and_false, Bool.false_and, Bool.or_true, Bool.true_or, Bool.or_false, Bool.false_or, Bool.not_true, Bool.not_false, if_true, if_false, ite_true, ite_false, Bool.false_eq_true, not_true_eq_false, not_false_eq_true, bI_t, bI_f, decide_eq_true_eq, reduceCtorEq]; done) | (simp [c_48]; done) | simp_all))
    · refine zw_aload_0 X dX7_keepsSilence_51 ?_
      refine zw_getR X dX7_keepsSilence_52 fl_X7_16 ck_X7 sh_0 rfl ?_
      refine zw_iload_3 X dX7_keepsSilence_55 ?_
      refine zw_cV_ii X dX7_keepsSilence_56 lk_X7_255 ok_MX5_isTunnel vi_MX5_isTunnel rm_X7_keepsSilence_X5_isTunnel sh_7 rfl (Nat.le_of_ble_eq_true rfl) (t_X5_isTunnel isT_7) ?_
      refine zw_ifneB (tgt := 66) X dX7_keepsSilence_59 (by decide) (fun c_59 => ?_) (fun c_59 => ?_)
      · refine zw_iconst (v := 0) X dX7_keepsSilence_66 ik_0 ?_
        refine zw_istore_4 X dX7_keepsSilence_67 ?_
        refine zw_iload_4 X dX7_keepsSilence_69 ?_
        refine zw_ifeq_t (tgt := 87) X dX7_keepsSilence_71 (by decide) (by decide) ?_
        refine zw_aload_0 X dX7_keepsSilence_87 ?_
        refine zw_getR X dX7_keepsSilence_88 fl_X7_16 ck_X7 sh_0 rfl ?_
        refine zw_cV_ni X dX7_keepsSilence_91 lk_X7_152 ok_MX5_passMinute vi_MX5_passMinute rm_X7_keepsSilence_X5_passMinute sh_7 rfl (Nat.le_of_ble_eq_true rfl) (t_X5_passMinute isT_7) ?_
        refine zw_pop_i X dX7_keepsSilence_94 ?_
        refine zw_iinc_3_p1 X dX7_keepsSilence_95 ?_
        refine zw_goto (tgt := 28) X dX7_keepsSilence_98 (by decide) ?_
        refine zw_fg_4 ?_
        rw [add_nI]
        exact ih (j + 1) _ (by omega) (by rw [tpas_ne _ _ (show (1 : Nat) ≠ 7 by decide) (show (1 : Nat) ≠ 7 + 4 by decide)]; exact e1) (ksGo_stepF F (by first | (simp only [c_48, c_59, decide_true, decide_false, Bool.and_true, Bool.true_and, Bool.and_false, Bool.false_and, Bool.or_true, Bool.true_or, Bool.or_false, Bool.false_or, Bool.not_true, Bool.not_false, if_true, if_false, ite_true, ite_false, Bool.false_eq_true, not_true_eq_false, not_false_eq_true, bI_t, bI_f, decide_eq_true_eq, reduceCtorEq]; done) | (simp [c_48, c_59]; done) | simp_all))
      · refine zw_iconst (v := 1) X dX7_keepsSilence_62 ik_1 ?_
        refine zw_goto (tgt := 67) X dX7_keepsSilence_63 (by decide) ?_
        refine zw_istore_4 X dX7_keepsSilence_67 ?_
        refine zw_iload_4 X dX7_keepsSilence_69 ?_
        refine zw_ifeq_f (tgt := 87) X dX7_keepsSilence_71 (by decide) (by decide) ?_
        refine zw_aload_0 X dX7_keepsSilence_74 ?_
        refine zw_getR X dX7_keepsSilence_75 fl_X7_16 ck_X7 sh_0 rfl ?_
        refine zw_iload_1 X dX7_keepsSilence_78 ?_
        refine zw_cV_ii X dX7_keepsSilence_79 lk_X7_258 ok_MX5_isHolder vi_MX5_isHolder rm_X7_keepsSilence_X5_isHolder sh_7 rfl (Nat.le_of_ble_eq_true rfl) (t_X5_isHolder isT_7) ?_
        refine zw_ifneB (tgt := 87) X dX7_keepsSilence_82 (by decide) (fun c_82 => ?_) (fun c_82 => ?_)
        · refine zw_aload_0 X dX7_keepsSilence_87 ?_
          refine zw_getR X dX7_keepsSilence_88 fl_X7_16 ck_X7 sh_0 rfl ?_
          refine zw_cV_ni X dX7_keepsSilence_91 lk_X7_152 ok_MX5_passMinute vi_MX5_passMinute rm_X7_keepsSilence_X5_passMinute sh_7 rfl (Nat.le_of_ble_eq_true rfl) (t_X5_passMinute isT_7) ?_
          refine zw_pop_i X dX7_keepsSilence_94 ?_
          refine zw_iinc_3_p1 X dX7_keepsSilence_95 ?_
          refine zw_goto (tgt := 28) X dX7_keepsSilence_98 (by decide) ?_
          refine zw_fg_4 ?_
          rw [add_nI]
          exact ih (j + 1) _ (by omega) (by rw [tpas_ne _ _ (show (1 : Nat) ≠ 7 by decide) (show (1 : Nat) ≠ 7 + 4 by decide)]; exact e1) (ksGo_stepF F (by first | (simp only [c_48, c_59, c_82, decide_true, decide_false, Bool.and_true, Bool.true_and, Bool.and_false, Bool.false_and, Bool.or_true, Bool.true_or, Bool.or_false, Bool.false_or, Bool.not_true, Bool.not_false, if_true, if_false, ite_true, ite_false, Bool.false_eq_true, not_true_eq_false, not_false_eq_true, bI_t, bI_f, decide_eq_true_eq, reduceCtorEq]; done) | (simp [c_48, c_59, c_82]; done) | simp_all))
        · refine zw_iconst (v := 0) X dX7_keepsSilence_85 ik_0 ?_
          exact zw_zret X F dX7_keepsSilence_86 rfl (by rw [ksGo_hit (by first | (simp only [c_48, c_59, c_82, decide_true, decide_false, Bool.and_true, Bool.true_and, Bool.and_false, Bool.false_and, Bool.or_true, Bool.true_or, Bool.or_false, Bool.false_or, Bool.not_true, Bool.not_false, if_true, if_false, ite_true, ite_false, Bool.false_eq_true, not_true_eq_false, not_false_eq_true, bI_t, bI_f, decide_eq_true_eq, reduceCtorEq]; done) | (simp [c_48, c_59, c_82]; done) | simp_all)]; rfl) (by rw [ksGo_hit (by first | (simp only [c_48, c_59, c_82, decide_true, decide_false, Bool.and_true, Bool.true_and, Bool.and_false, Bool.false_and, Bool.or_true, Bool.true_or, Bool.or_false, Bool.false_or, Bool.not_true, Bool.not_false, if_true, if_false, ite_true, ite_false, Bool.false_eq_true, not_true_eq_false, not_false_eq_true, bI_t, bI_f, decide_eq_true_eq, reduceCtorEq]; done) | (simp [c_48, c_59, c_82]; done) | simp_all)])
set_option maxRecDepth 20000 in
set_option maxHeartbeats 4000000 in
theorem t_X7_keepsSilence {σ : St} {t b : Int32} : Ct MX7_keepsSilence [.ref 0, .int t, .int b] σ (some (.int (bI ((X_ks σ t b).1)))) ((X_ks σ t b).2) := by
  refine ct_of (ls0 := [some (.ref 0), some (.int t), some (.int b), none, none]) ok_MX7_keepsSilence rfl (Nat.le_of_ble_eq_true rfl) rfl ?_
  intro g X F
  refine zw_aload_0 X dX7_keepsSilence_0 ?_
  refine zw_getR X dX7_keepsSilence_1 fl_X7_16 ck_X7 sh_0 rfl ?_
  refine zw_aload_0 X dX7_keepsSilence_4 ?_
  refine zw_getR X dX7_keepsSilence_5 fl_X7_10 ck_X7 sh_0 rfl ?_
  refine zw_cV_rv X dX7_keepsSilence_8 lk_X7_132 ok_MX5_copyFrom vi_MX5_copyFrom rm_X7_keepsSilence_X5_copyFrom sh_7 rfl (Nat.le_of_ble_eq_true rfl) (t_X5_copyFrom isT_7 isT_1) ?_
  refine zw_aload_0 X dX7_keepsSilence_11 ?_
  refine zw_getR X dX7_keepsSilence_12 fl_X7_16 ck_X7 sh_0 rfl ?_
  refine zw_iload_1 X dX7_keepsSilence_15 ?_
  refine zw_iload_2 X dX7_keepsSilence_16 ?_
  refine zw_cV_iiv X dX7_keepsSilence_17 lk_X7_249 ok_MX5_setBid vi_MX5_setBid rm_X7_keepsSilence_X5_setBid sh_7 rfl (Nat.le_of_ble_eq_true rfl) (t_X5_setBid isT_7) ?_
  refine zw_aload_0 X dX7_keepsSilence_20 ?_
  refine zw_getR X dX7_keepsSilence_21 fl_X7_10 ck_X7 sh_0 rfl ?_
  refine zw_getI X dX7_keepsSilence_24 fl_X7_72 ck_X5 sh_1 rfl ?_
  refine zw_istore_3 X dX7_keepsSilence_27 ?_
  have e1 : tsetB (tcopy σ 7 1) 7 t b 1 = σ 1 := by rw [tsetB_ne _ _ _ _ (show (1 : Nat) ≠ 7 + 5 by decide), tcopy71_1]
  rw [e1]
  have h0 : σ 1 1 = σ 1 1 + nI 0 := by rw [nI_0, Int32.add_zero]
  rw [h0]
  refine l_X7_keepsSilence X (cnt (σ 1 1) (σ 1 0)) 0 _ (Nat.zero_add _) e1 ?_
  rw [← h0]
  exact F
set_option maxRecDepth 20000 in
set_option maxHeartbeats 4000000 in
theorem t_X7_paidInTrial {σ : St} {t : Int32} : Ct MX7_paidInTrial [.ref 0, .int t] σ (some (.int (paidT σ t))) (σ) := by
  refine ct_of (ls0 := [some (.ref 0), some (.int t)]) ok_MX7_paidInTrial rfl (Nat.le_of_ble_eq_true rfl) rfl ?_
  intro g X F
  refine zw_iload_1 X dX7_paidInTrial_0 ?_
  refine zw_cS_ii X dX7_paidInTrial_1 lk_X7_86 ok_MX7_isTraveller st_MX7_isTraveller rm_X7_paidInTrial_X7_isTraveller (Nat.le_of_ble_eq_true rfl) t_X7_isTraveller ?_
  refine zw_ifeqB (tgt := 29) X dX7_paidInTrial_4 (by decide) (fun c_4 => ?_) (fun c_4 => ?_)
  · refine zw_iconst (v := 0) X dX7_paidInTrial_29 ik_0 ?_
    exact zw_iret X F dX7_paidInTrial_30 rfl (by first | (simp only [paidT, c_4, decide_true, decide_false, Bool.and_true, Bool.true_and, Bool.and_false, Bool.false_and, Bool.or_true, Bool.true_or, Bool.or_false, Bool.false_or, Bool.not_true, Bool.not_false, if_true, if_false, ite_true, ite_false, Bool.false_eq_true, not_true_eq_false, not_false_eq_true, bI_t, bI_f, decide_eq_true_eq, reduceCtorEq]; done) | (simp [paidT, c_4]; done) | simp_all) (rfl)
  · refine zw_aload_0 X dX7_paidInTrial_7 ?_
    refine zw_getR X dX7_paidInTrial_8 fl_X7_10 ck_X7 sh_0 rfl ?_
    refine zw_getR X dX7_paidInTrial_11 fl_X7_104 ck_X5 sh_1 rfl ?_
    refine zw_iload_1 X dX7_paidInTrial_14 ?_
    refine zw_iald X dX7_paidInTrial_15 sh_5 (isTr_in c_4) ?_
    refine zw_aload_0 X dX7_paidInTrial_16 ?_
    refine zw_getR X dX7_paidInTrial_17 fl_X7_16 ck_X7 sh_0 rfl ?_
    refine zw_getR X dX7_paidInTrial_20 fl_X7_104 ck_X5 sh_7 rfl ?_
    refine zw_iload_1 X dX7_paidInTrial_23 ?_
    refine zw_iald X dX7_paidInTrial_24 sh_11 (isTr_in c_4) ?_
    refine zw_isub X dX7_paidInTrial_25 ?_
    refine zw_goto (tgt := 30) X dX7_paidInTrial_26 (by decide) ?_
    exact zw_iret X F dX7_paidInTrial_30 rfl (by first | (simp only [paidT, c_4, decide_true, decide_false, Bool.and_true, Bool.true_and, Bool.and_false, Bool.false_and, Bool.or_true, Bool.true_or, Bool.or_false, Bool.false_or, Bool.not_true, Bool.not_false, if_true, if_false, ite_true, ite_false, Bool.false_eq_true, not_true_eq_false, not_false_eq_true, bI_t, bI_f, decide_eq_true_eq, reduceCtorEq]; done) | (simp [paidT, c_4]; done) | simp_all) (rfl)
set_option maxRecDepth 20000 in
set_option maxHeartbeats 4000000 in
theorem t_X7_paidByCompartment {σ : St} {c : Int32} : Ct MX7_paidByCompartment [.ref 0, .int c] σ (some (.int (paidC σ c))) (σ) := by
  refine ct_of (ls0 := [some (.ref 0), some (.int c), none, none]) ok_MX7_paidByCompartment rfl (Nat.le_of_ble_eq_true rfl) rfl ?_
  intro g X F
  refine zw_iconst (v := 0) X dX7_paidByCompartment_0 ik_0 ?_
  refine zw_istore_2 X dX7_paidByCompartment_1 ?_
  refine zw_iconst (v := 0) X dX7_paidByCompartment_2 ik_0 ?_
  refine zw_istore_3 X dX7_paidByCompartment_3 ?_
  refine zloop (α := Int32) (S := fun n a => ∀ (v4_2 : Int32) (v4_3 : Int32), v4_2 = a → v4_3 = nI n → ZW g 4 [some (.ref 0), some (.int c), some (.int v4_2), some (.int v4_3)] [] σ) (N := 6) (f := (fun n a => if σ 4 n = c then a + paidT σ (nI n) else a)) (a0 := (0 : Int32)) (fun n4 a4 hn4 ha4 ih4 v4_2 v4_3 hv4_2 hv4_3 => ?_) (fun a4 ha4 v4_2 v4_3 hv4_2 hv4_3 => ?_) _ _ rfl rfl
  · subst hv4_2 hv4_3
    refine zw_iload_3 X dX7_paidByCompartment_4 ?_
    refine zw_bipush (v := 6) X dX7_paidByCompartment_5 bk_6 ?_
    refine zw_icmpge_f (tgt := 37) X dX7_paidByCompartment_7 (by decide) (nI_lt hn4 (by decide)) ?_
    refine zw_aload_0 X dX7_paidByCompartment_10 ?_
    refine zw_getR X dX7_paidByCompartment_11 fl_X7_10 ck_X7 sh_0 rfl ?_
    refine zw_getR X dX7_paidByCompartment_14 fl_X7_100 ck_X5 sh_1 rfl ?_
    refine zw_iload_3 X dX7_paidByCompartment_17 ?_
    refine zw_ialdN X dX7_paidByCompartment_18 sh_4 hn4 (by decide) ?_
    refine zw_iload_1 X dX7_paidByCompartment_19 ?_
    refine zw_icmpne (tgt := 31) X dX7_paidByCompartment_20 (by decide) (fun c_20 => ?_) (fun c_20 => ?_)
    · refine zw_iinc_3_p1 X dX7_paidByCompartment_31 ?_
      refine zw_goto (tgt := 4) X dX7_paidByCompartment_34 (by decide) ?_
      exact ih4 _ _ (by first | (simp only [c_20, decide_true, decide_false, Bool.and_true, Bool.true_and, Bool.and_false, Bool.false_and, Bool.or_true, Bool.true_or, Bool.or_false, Bool.false_or, Bool.not_true, Bool.not_false, if_true, if_false, ite_true, ite_false, Bool.false_eq_true, not_true_eq_false, not_false_eq_true, bI_t, bI_f, decide_eq_true_eq, reduceCtorEq]; done) | (simp [c_20]; done) | simp_all) (nI_1 n4)
    · refine zw_iload_2 X dX7_paidByCompartment_23 ?_
      refine zw_aload_0 X dX7_paidByCompartment_24 ?_
      refine zw_iload_3 X dX7_paidByCompartment_25 ?_
      refine zw_cV_ii X dX7_paidByCompartment_26 lk_X7_168 ok_MX7_paidInTrial vi_MX7_paidInTrial rm_X7_paidByCompartment_X7_paidInTrial sh_0 rfl (Nat.le_of_ble_eq_true rfl) t_X7_paidInTrial ?_
      refine zw_iadd X dX7_paidByCompartment_29 ?_
      refine zw_istore_2 X dX7_paidByCompartment_30 ?_
      refine zw_iinc_3_p1 X dX7_paidByCompartment_31 ?_
      refine zw_goto (tgt := 4) X dX7_paidByCompartment_34 (by decide) ?_
      exact ih4 _ _ (by first | (simp only [eq_true c_20, decide_true, decide_false, Bool.and_true, Bool.true_and, Bool.and_false, Bool.false_and, Bool.or_true, Bool.true_or, Bool.or_false, Bool.false_or, Bool.not_true, Bool.not_false, if_true, if_false, ite_true, ite_false, Bool.false_eq_true, not_true_eq_false, not_false_eq_true, bI_t, bI_f, decide_eq_true_eq, reduceCtorEq]; done) | (simp [eq_true c_20]; done) | simp_all) (nI_1 n4)
  · subst hv4_2 hv4_3
    refine zw_iload_3 X dX7_paidByCompartment_4 ?_
    refine zw_bipush (v := 6) X dX7_paidByCompartment_5 bk_6 ?_
    refine zw_icmpge_t (tgt := 37) X dX7_paidByCompartment_7 (by decide) (by decide) ?_
    refine zw_iload_2 X dX7_paidByCompartment_37 ?_
    exact zw_iret X F dX7_paidByCompartment_38 rfl (by first | (simp only [paidC, ha4, decide_true, decide_false, Bool.and_true, Bool.true_and, Bool.and_false, Bool.false_and, Bool.or_true, Bool.true_or, Bool.or_false, Bool.false_or, Bool.not_true, Bool.not_false, if_true, if_false, ite_true, ite_false, Bool.false_eq_true, not_true_eq_false, not_false_eq_true, bI_t, bI_f, decide_eq_true_eq, reduceCtorEq]; done) | (simp [paidC, ha4]; done) | simp_all) (rfl)
set_option maxRecDepth 20000 in
set_option maxHeartbeats 4000000 in
theorem t_X7_topPayer {σ : St} : Ct MX7_topPayer [.ref 0] σ (some (.int (topP σ))) (σ) := by
  refine ct_of (ls0 := [some (.ref 0), none, none, none]) ok_MX7_topPayer rfl (Nat.le_of_ble_eq_true rfl) rfl ?_
  intro g X F
  refine zw_bipush (v := -6) X dX7_topPayer_0 bk_m6 ?_
  refine zw_istore_1 X dX7_topPayer_2 ?_
  refine zw_iconst (v := 0) X dX7_topPayer_3 ik_0 ?_
  refine zw_istore_2 X dX7_topPayer_4 ?_
  refine zw_iconst (v := 0) X dX7_topPayer_5 ik_0 ?_
  refine zw_istore_3 X dX7_topPayer_6 ?_
  refine zloop (α := Int32 × Int32) (S := fun n a => ∀ (v7_1 : Int32) (v7_2 : Int32) (v7_3 : Int32), v7_1 = a.1 → v7_2 = a.2 → v7_3 = nI n → ZW g 7 [some (.ref 0), some (.int v7_1), some (.int v7_2), some (.int v7_3)] [] σ) (N := 6) (f := (topF σ)) (a0 := ((-6, 0) : Int32 × Int32)) (fun n7 a7 hn7 ha7 ih7 v7_1 v7_2 v7_3 hv7_1 hv7_2 hv7_3 => ?_) (fun a7 ha7 v7_1 v7_2 v7_3 hv7_1 hv7_2 hv7_3 => ?_) _ _ _ rfl rfl rfl
  · subst hv7_1 hv7_2 hv7_3
    refine zw_iload_3 X dX7_topPayer_7 ?_
    refine zw_bipush (v := 6) X dX7_topPayer_8 bk_6 ?_
    refine zw_icmpge_f (tgt := 36) X dX7_topPayer_10 (by decide) (nI_lt hn7 (by decide)) ?_
    refine zw_aload_0 X dX7_topPayer_13 ?_
    refine zw_iload_3 X dX7_topPayer_14 ?_
    refine zw_cV_ii X dX7_topPayer_15 lk_X7_168 ok_MX7_paidInTrial vi_MX7_paidInTrial rm_X7_topPayer_X7_paidInTrial sh_0 rfl (Nat.le_of_ble_eq_true rfl) t_X7_paidInTrial ?_
    refine zw_iload_2 X dX7_topPayer_18 ?_
    refine zw_icmple (tgt := 30) X dX7_topPayer_19 (by decide) (fun c_19 => ?_) (fun c_19 => ?_)
    · refine zw_iinc_3_p1 X dX7_topPayer_30 ?_
      refine zw_goto (tgt := 7) X dX7_topPayer_33 (by decide) ?_
      exact ih7 _ _ _ (by first | (simp only [topF, c_19, decide_true, decide_false, Bool.and_true, Bool.true_and, Bool.and_false, Bool.false_and, Bool.or_true, Bool.true_or, Bool.or_false, Bool.false_or, Bool.not_true, Bool.not_false, if_true, if_false, ite_true, ite_false, Bool.false_eq_true, not_true_eq_false, not_false_eq_true, bI_t, bI_f, decide_eq_true_eq, reduceCtorEq]; done) | (simp [topF, c_19]; done) | simp_all) (by first | (simp only [topF, c_19, decide_true, decide_false, Bool.and_true, Bool.true_and, Bool.and_false, Bool.false_and, Bool.or_true, Bool.true_or, Bool.or_false, Bool.false_or, Bool.not_true, Bool.not_false, if_true, if_false, ite_true, ite_false, Bool.false_eq_true, not_true_eq_false, not_false_eq_true, bI_t, bI_f, decide_eq_true_eq, reduceCtorEq]; done) | (simp [topF, c_19]; done) | simp_all) (nI_1 n7)
    · refine zw_aload_0 X dX7_topPayer_22 ?_
      refine zw_iload_3 X dX7_topPayer_23 ?_
      refine zw_cV_ii X dX7_topPayer_24 lk_X7_168 ok_MX7_paidInTrial vi_MX7_paidInTrial rm_X7_topPayer_X7_paidInTrial sh_0 rfl (Nat.le_of_ble_eq_true rfl) t_X7_paidInTrial ?_
      refine zw_istore_2 X dX7_topPayer_27 ?_
      refine zw_iload_3 X dX7_topPayer_28 ?_
      refine zw_istore_1 X dX7_topPayer_29 ?_
      refine zw_iinc_3_p1 X dX7_topPayer_30 ?_
      refine zw_goto (tgt := 7) X dX7_topPayer_33 (by decide) ?_
      exact ih7 _ _ _ (by first | (simp only [topF, c_19, decide_true, decide_false, Bool.and_true, Bool.true_and, Bool.and_false, Bool.false_and, Bool.or_true, Bool.true_or, Bool.or_false, Bool.false_or, Bool.not_true, Bool.not_false, if_true, if_false, ite_true, ite_false, Bool.false_eq_true, not_true_eq_false, not_false_eq_true, bI_t, bI_f, decide_eq_true_eq, reduceCtorEq]; done) | (simp [topF, c_19]; done) | simp_all) (by first | (simp only [topF, c_19, decide_true, decide_false, Bool.and_true, Bool.true_and, Bool.and_false, Bool.false_and, Bool.or_true, Bool.true_or, Bool.or_false, Bool.false_or, Bool.not_true, Bool.not_false, if_true, if_false, ite_true, ite_false, Bool.false_eq_true, not_true_eq_false, not_false_eq_true, bI_t, bI_f, decide_eq_true_eq, reduceCtorEq]; done) | (simp [topF, c_19]; done) | simp_all) (nI_1 n7)
  · subst hv7_1 hv7_2 hv7_3
    refine zw_iload_3 X dX7_topPayer_7 ?_
    refine zw_bipush (v := 6) X dX7_topPayer_8 bk_6 ?_
    refine zw_icmpge_t (tgt := 36) X dX7_topPayer_10 (by decide) (by decide) ?_
    refine zw_iload_1 X dX7_topPayer_36 ?_
    exact zw_iret X F dX7_topPayer_37 rfl (by first | (simp only [topP, ha7, decide_true, decide_false, Bool.and_true, Bool.true_and, Bool.and_false, Bool.false_and, Bool.or_true, Bool.true_or, Bool.or_false, Bool.false_or, Bool.not_true, Bool.not_false, if_true, if_false, ite_true, ite_false, Bool.false_eq_true, not_true_eq_false, not_false_eq_true, bI_t, bI_f, decide_eq_true_eq, reduceCtorEq]; done) | (simp [topP, ha7]; done) | simp_all) (rfl)
set_option maxRecDepth 20000 in
set_option maxHeartbeats 4000000 in
theorem l_X7_buy {g : Gt} (X : CX g MX7_buy) {t w : Int32} : ∀ (n j : Nat) (τ : St), j + n = 100 → FnZ g MX7_buy (some (.int (X_byR t w (byGo t n (nI j) τ)))) (byGo t n (nI j) τ).2 → ZW g 37 [some (.ref 0), some (.int t), some (.int w), some (.int (nI j))] [] τ := by
  intro n
  induction n with
  | zero =>
    intro j τ hjn F
    have hj : j = 100 := by omega
    subst hj
    refine zw_iload_3 X dX7_buy_37 ?_
    refine zw_bipush (v := 99) X dX7_buy_38 bk_99 ?_
    refine zw_icmpgt_t (tgt := 72) X dX7_buy_40 (by decide) (by decide) ?_
    refine zw_bipush (v := -6) X dX7_buy_72 bk_m6 ?_
    exact zw_iret X F dX7_buy_74 rfl rfl rfl
  | succ n ih =>
    intro j τ hjn F
    have hbd : ¬ (99 : Int32) < nI j := nI_nlt (a := 99) (b := j) (by omega) (by decide)
    refine zw_iload_3 X dX7_buy_37 ?_
    refine zw_bipush (v := 99) X dX7_buy_38 bk_99 ?_
    refine zw_icmpgt_f (tgt := 72) X dX7_buy_40 (by decide) hbd ?_
    refine zw_aload_0 X dX7_buy_43 ?_
    refine zw_iload_1 X dX7_buy_44 ?_
    refine zw_iload_3 X dX7_buy_45 ?_
    refine zw_cV_iii X dX7_buy_46 lk_X7_164 ok_MX7_keepsSilence vi_MX7_keepsSilence rm_X7_buy_X7_keepsSilence sh_0 rfl (Nat.le_of_ble_eq_true rfl) t_X7_keepsSilence ?_
    refine zw_ifeqB (tgt := 66) X dX7_buy_49 (by decide) (fun c_49 => ?_) (fun c_49 => ?_)
    · refine zw_iinc_3_p1 X dX7_buy_66 ?_
      refine zw_goto (tgt := 37) X dX7_buy_69 (by decide) ?_
      rw [nI_1]
      exact ih (j + 1) _ (by omega) (byGo_stepF F c_49)
    · refine zw_iload_2 X dX7_buy_52 ?_
      refine zw_ifne (tgt := 60) X dX7_buy_53 (by decide) (fun c_53 => ?_) (fun c_53 => ?_)
      · refine zw_aload_0 X dX7_buy_60 ?_
        refine zw_iload_1 X dX7_buy_61 ?_
        refine zw_cV_ii X dX7_buy_62 lk_X7_168 ok_MX7_paidInTrial vi_MX7_paidInTrial rm_X7_buy_X7_paidInTrial sh_0 rfl (Nat.le_of_ble_eq_true rfl) t_X7_paidInTrial ?_
        exact zw_iret X F dX7_buy_65 rfl (by simp only [byGo_hit c_49, X_byR, c_49, c_53]; first | rfl | simp) (by rw [byGo_hit c_49])
      · refine zw_iload_3 X dX7_buy_56 ?_
        refine zw_goto (tgt := 65) X dX7_buy_57 (by decide) ?_
        exact zw_iret X F dX7_buy_65 rfl (by simp only [byGo_hit c_49, X_byR, c_49, eq_true c_53]; first | rfl | simp) (by rw [byGo_hit c_49])
set_option maxRecDepth 20000 in
set_option maxHeartbeats 4000000 in
theorem t_X7_buy {σ : St} {t w : Int32} : Ct MX7_buy [.ref 0, .int t, .int w] σ (some (.int (X_buy σ t w).1)) ((X_buy σ t w).2) := by
  refine ct_of (ls0 := [some (.ref 0), some (.int t), some (.int w), none]) ok_MX7_buy rfl (Nat.le_of_ble_eq_true rfl) rfl ?_
  intro g X F
  refine zw_iload_1 X dX7_buy_0 ?_
  refine zw_cS_ii X dX7_buy_1 lk_X7_86 ok_MX7_isTraveller st_MX7_isTraveller rm_X7_buy_X7_isTraveller (Nat.le_of_ble_eq_true rfl) t_X7_isTraveller ?_
  refine zw_ifneB (tgt := 9) X dX7_buy_4 (by decide) (fun c_4 => ?_) (fun c_4 => ?_)
  · refine zw_iload_2 X dX7_buy_9 ?_
    refine zw_iconst (v := 0) X dX7_buy_10 ik_0 ?_
    refine zw_iconst (v := 1) X dX7_buy_11 ik_1 ?_
    refine zw_cS_iiii X dX7_buy_12 lk_X7_64 ok_MX7_isWithin st_MX7_isWithin rm_X7_buy_X7_isWithin (Nat.le_of_ble_eq_true rfl) t_X7_isWithin ?_
    refine zw_ifneB (tgt := 21) X dX7_buy_15 (by decide) (fun c_15 => ?_) (fun c_15 => ?_)
    · refine zw_aload_0 X dX7_buy_21 ?_
      refine zw_getR X dX7_buy_22 fl_X7_10 ck_X7 sh_0 rfl ?_
      refine zw_iload_1 X dX7_buy_25 ?_
      refine zw_cV_ii X dX7_buy_26 lk_X7_161 ok_MX5_ridesFromNowOn vi_MX5_ridesFromNowOn rm_X7_buy_X5_ridesFromNowOn sh_1 rfl (Nat.le_of_ble_eq_true rfl) (t_X5_ridesFromNowOn isT_1) ?_
      refine zw_ifneB (tgt := 35) X dX7_buy_29 (by decide) (fun c_29 => ?_) (fun c_29 => ?_)
      · refine zw_iconst (v := 1) X dX7_buy_35 ik_1 ?_
        refine zw_istore_3 X dX7_buy_36 ?_
        refine l_X7_buy X 99 1 _ rfl ?_
        simp only [X_buy, c_4, c_15, c_29, if_true] at F
        exact F
      · refine zw_bipush (v := -6) X dX7_buy_32 bk_m6 ?_
        exact zw_iret X F dX7_buy_34 rfl (by first | (simp only [X_buy, c_4, c_15, c_29, decide_true, decide_false, Bool.and_true, Bool.true_and, Bool.and_false, Bool.false_and, Bool.or_true, Bool.true_or, Bool.or_false, Bool.false_or, Bool.not_true, Bool.not_false, if_true, if_false, ite_true, ite_false, Bool.false_eq_true, not_true_eq_false, not_false_eq_true, bI_t, bI_f, decide_eq_true_eq, reduceCtorEq]; done) | (simp [X_buy, c_4, c_15, c_29]; done) | simp_all) (by first | (simp only [X_buy, c_4, c_15, c_29, decide_true, decide_false, Bool.and_true, Bool.true_and, Bool.and_false, Bool.false_and, Bool.or_true, Bool.true_or, Bool.or_false, Bool.false_or, Bool.not_true, Bool.not_false, if_true, if_false, ite_true, ite_false, Bool.false_eq_true, not_true_eq_false, not_false_eq_true, bI_t, bI_f, decide_eq_true_eq, reduceCtorEq]; done) | (simp [X_buy, c_4, c_15, c_29]; done) | simp_all)
    · refine zw_bipush (v := -2) X dX7_buy_18 bk_m2 ?_
      exact zw_iret X F dX7_buy_20 rfl (by first | (simp only [X_buy, c_4, c_15, decide_true, decide_false, Bool.and_true, Bool.true_and, Bool.and_false, Bool.false_and, Bool.or_true, Bool.true_or, Bool.or_false, Bool.false_or, Bool.not_true, Bool.not_false, if_true, if_false, ite_true, ite_false, Bool.false_eq_true, not_true_eq_false, not_false_eq_true, bI_t, bI_f, decide_eq_true_eq, reduceCtorEq]; done) | (simp [X_buy, c_4, c_15]; done) | simp_all) (by first | (simp only [X_buy, c_4, c_15, decide_true, decide_false, Bool.and_true, Bool.true_and, Bool.and_false, Bool.false_and, Bool.or_true, Bool.true_or, Bool.or_false, Bool.false_or, Bool.not_true, Bool.not_false, if_true, if_false, ite_true, ite_false, Bool.false_eq_true, not_true_eq_false, not_false_eq_true, bI_t, bI_f, decide_eq_true_eq, reduceCtorEq]; done) | (simp [X_buy, c_4, c_15]; done) | simp_all)
  · refine zw_iconst (v := -1) X dX7_buy_7 ik_m1 ?_
    exact zw_iret X F dX7_buy_8 rfl (by first | (simp only [X_buy, c_4, decide_true, decide_false, Bool.and_true, Bool.true_and, Bool.and_false, Bool.false_and, Bool.or_true, Bool.true_or, Bool.or_false, Bool.false_or, Bool.not_true, Bool.not_false, if_true, if_false, ite_true, ite_false, Bool.false_eq_true, not_true_eq_false, not_false_eq_true, bI_t, bI_f, decide_eq_true_eq, reduceCtorEq]; done) | (simp [X_buy, c_4]; done) | simp_all) (by first | (simp only [X_buy, c_4, decide_true, decide_false, Bool.and_true, Bool.true_and, Bool.and_false, Bool.false_and, Bool.or_true, Bool.true_or, Bool.or_false, Bool.false_or, Bool.not_true, Bool.not_false, if_true, if_false, ite_true, ite_false, Bool.false_eq_true, not_true_eq_false, not_false_eq_true, bI_t, bI_f, decide_eq_true_eq, reduceCtorEq]; done) | (simp [X_buy, c_4]; done) | simp_all)
set_option maxRecDepth 20000 in
set_option maxHeartbeats 4000000 in
theorem t_X7_seats {σ : St} {a b w : Int32} : Ct MX7_seats [.ref 0, .int a, .int b, .int w] σ (some (.int (X_seats σ a b w).1)) ((X_seats σ a b w).2) := by
  refine ct_of (ls0 := [some (.ref 0), some (.int a), some (.int b), some (.int w)]) ok_MX7_seats rfl (Nat.le_of_ble_eq_true rfl) rfl ?_
  intro g X F
  refine zw_iload_1 X dX7_seats_0 ?_
  refine zw_iconst (v := 0) X dX7_seats_1 ik_0 ?_
  refine zw_sipush (v := 32767) X dX7_seats_2 sk_32767 ?_
  refine zw_cS_iiii X dX7_seats_5 lk_X7_64 ok_MX7_isWithin st_MX7_isWithin rm_X7_seats_X7_isWithin (Nat.le_of_ble_eq_true rfl) t_X7_isWithin ?_
  refine zw_ifeqB (tgt := 31) X dX7_seats_8 (by decide) (fun c_8 => ?_) (fun c_8 => ?_)
  · refine zw_bipush (v := -2) X dX7_seats_31 bk_m2 ?_
    exact zw_iret X F dX7_seats_33 rfl (by first | (simp only [X_seats, c_8, decide_true, decide_false, Bool.and_true, Bool.true_and, Bool.and_false, Bool.false_and, Bool.or_true, Bool.true_or, Bool.or_false, Bool.false_or, Bool.not_true, Bool.not_false, if_true, if_false, ite_true, ite_false, Bool.false_eq_true, not_true_eq_false, not_false_eq_true, bI_t, bI_f, decide_eq_true_eq, reduceCtorEq]; done) | (simp [X_seats, c_8]; done) | simp_all) (by first | (simp only [X_seats, c_8, decide_true, decide_false, Bool.and_true, Bool.true_and, Bool.and_false, Bool.false_and, Bool.or_true, Bool.true_or, Bool.or_false, Bool.false_or, Bool.not_true, Bool.not_false, if_true, if_false, ite_true, ite_false, Bool.false_eq_true, not_true_eq_false, not_false_eq_true, bI_t, bI_f, decide_eq_true_eq, reduceCtorEq]; done) | (simp [X_seats, c_8]; done) | simp_all)
  · refine zw_iload_2 X dX7_seats_11 ?_
    refine zw_iconst (v := 0) X dX7_seats_12 ik_0 ?_
    refine zw_sipush (v := 32767) X dX7_seats_13 sk_32767 ?_
    refine zw_cS_iiii X dX7_seats_16 lk_X7_64 ok_MX7_isWithin st_MX7_isWithin rm_X7_seats_X7_isWithin (Nat.le_of_ble_eq_true rfl) t_X7_isWithin ?_
    refine zw_ifeqB (tgt := 31) X dX7_seats_19 (by decide) (fun c_19 => ?_) (fun c_19 => ?_)
    · refine zw_bipush (v := -2) X dX7_seats_31 bk_m2 ?_
      exact zw_iret X F dX7_seats_33 rfl (by first | (simp only [X_seats, c_8, c_19, decide_true, decide_false, Bool.and_true, Bool.true_and, Bool.and_false, Bool.false_and, Bool.or_true, Bool.true_or, Bool.or_false, Bool.false_or, Bool.not_true, Bool.not_false, if_true, if_false, ite_true, ite_false, Bool.false_eq_true, not_true_eq_false, not_false_eq_true, bI_t, bI_f, decide_eq_true_eq, reduceCtorEq]; done) | (simp [X_seats, c_8, c_19]; done) | simp_all) (by first | (simp only [X_seats, c_8, c_19, decide_true, decide_false, Bool.and_true, Bool.true_and, Bool.and_false, Bool.false_and, Bool.or_true, Bool.true_or, Bool.or_false, Bool.false_or, Bool.not_true, Bool.not_false, if_true, if_false, ite_true, ite_false, Bool.false_eq_true, not_true_eq_false, not_false_eq_true, bI_t, bI_f, decide_eq_true_eq, reduceCtorEq]; done) | (simp [X_seats, c_8, c_19]; done) | simp_all)
    · refine zw_iload_3 X dX7_seats_22 ?_
      refine zw_iconst (v := 0) X dX7_seats_23 ik_0 ?_
      refine zw_iconst (v := 1) X dX7_seats_24 ik_1 ?_
      refine zw_cS_iiii X dX7_seats_25 lk_X7_64 ok_MX7_isWithin st_MX7_isWithin rm_X7_seats_X7_isWithin (Nat.le_of_ble_eq_true rfl) t_X7_isWithin ?_
      refine zw_ifneB (tgt := 34) X dX7_seats_28 (by decide) (fun c_28 => ?_) (fun c_28 => ?_)
      · refine zw_aload_0 X dX7_seats_34 ?_
        refine zw_getR X dX7_seats_35 fl_X7_43 ck_X7 sh_0 rfl ?_
        refine zw_aload_0 X dX7_seats_38 ?_
        refine zw_getR X dX7_seats_39 fl_X7_10 ck_X7 sh_0 rfl ?_
        refine zw_iload_1 X dX7_seats_42 ?_
        refine zw_iload_2 X dX7_seats_43 ?_
        refine zw_cV_riiv X dX7_seats_44 lk_X7_171 ok_MX3_countWays vi_MX3_countWays rm_X7_seats_X3_countWays sh_19 rfl (Nat.le_of_ble_eq_true rfl) t_X3_countWays ?_
        refine zw_iload_3 X dX7_seats_47 ?_
        refine zw_ifne (tgt := 61) X dX7_seats_48 (by decide) (fun c_48 => ?_) (fun c_48 => ?_)
        · refine zw_aload_0 X dX7_seats_61 ?_
          refine zw_getR X dX7_seats_62 fl_X7_43 ck_X7 sh_0 rfl ?_
          refine zw_getI X dX7_seats_65 fl_X7_178 ck_X3 sh_19 rfl ?_
          exact zw_iret X F dX7_seats_68 rfl (by first | (simp only [X_seats, c_8, c_19, c_28, c_48, decide_true, decide_false, Bool.and_true, Bool.true_and, Bool.and_false, Bool.false_and, Bool.or_true, Bool.true_or, Bool.or_false, Bool.false_or, Bool.not_true, Bool.not_false, if_true, if_false, ite_true, ite_false, Bool.false_eq_true, not_true_eq_false, not_false_eq_true, bI_t, bI_f, decide_eq_true_eq, reduceCtorEq]; done) | (simp [X_seats, c_8, c_19, c_28, c_48]; done) | simp_all) (by first | (simp only [X_seats, c_8, c_19, c_28, c_48, decide_true, decide_false, Bool.and_true, Bool.true_and, Bool.and_false, Bool.false_and, Bool.or_true, Bool.true_or, Bool.or_false, Bool.false_or, Bool.not_true, Bool.not_false, if_true, if_false, ite_true, ite_false, Bool.false_eq_true, not_true_eq_false, not_false_eq_true, bI_t, bI_f, decide_eq_true_eq, reduceCtorEq]; done) | (simp [X_seats, c_8, c_19, c_28, c_48]; done) | simp_all)
        · refine zw_aload_0 X dX7_seats_51 ?_
          refine zw_getR X dX7_seats_52 fl_X7_43 ck_X7 sh_0 rfl ?_
          refine zw_getI X dX7_seats_55 fl_X7_175 ck_X3 sh_19 rfl ?_
          refine zw_goto (tgt := 68) X dX7_seats_58 (by decide) ?_
          exact zw_iret X F dX7_seats_68 rfl (by first | (simp only [X_seats, c_8, c_19, c_28, eq_true c_48, decide_true, decide_false, Bool.and_true, Bool.true_and, Bool.and_false, Bool.false_and, Bool.or_true, Bool.true_or, Bool.or_false, Bool.false_or, Bool.not_true, Bool.not_false, if_true, if_false, ite_true, ite_false, Bool.false_eq_true, not_true_eq_false, not_false_eq_true, bI_t, bI_f, decide_eq_true_eq, reduceCtorEq]; done) | (simp [X_seats, c_8, c_19, c_28, eq_true c_48]; done) | simp_all) (by first | (simp only [X_seats, c_8, c_19, c_28, eq_true c_48, decide_true, decide_false, Bool.and_true, Bool.true_and, Bool.and_false, Bool.false_and, Bool.or_true, Bool.true_or, Bool.or_false, Bool.false_or, Bool.not_true, Bool.not_false, if_true, if_false, ite_true, ite_false, Bool.false_eq_true, not_true_eq_false, not_false_eq_true, bI_t, bI_f, decide_eq_true_eq, reduceCtorEq]; done) | (simp [X_seats, c_8, c_19, c_28, eq_true c_48]; done) | simp_all)
      · refine zw_bipush (v := -2) X dX7_seats_31 bk_m2 ?_
        exact zw_iret X F dX7_seats_33 rfl (by first | (simp only [X_seats, c_8, c_19, c_28, decide_true, decide_false, Bool.and_true, Bool.true_and, Bool.and_false, Bool.false_and, Bool.or_true, Bool.true_or, Bool.or_false, Bool.false_or, Bool.not_true, Bool.not_false, if_true, if_false, ite_true, ite_false, Bool.false_eq_true, not_true_eq_false, not_false_eq_true, bI_t, bI_f, decide_eq_true_eq, reduceCtorEq]; done) | (simp [X_seats, c_8, c_19, c_28]; done) | simp_all) (by first | (simp only [X_seats, c_8, c_19, c_28, decide_true, decide_false, Bool.and_true, Bool.true_and, Bool.and_false, Bool.false_and, Bool.or_true, Bool.true_or, Bool.or_false, Bool.false_or, Bool.not_true, Bool.not_false, if_true, if_false, ite_true, ite_false, Bool.false_eq_true, not_true_eq_false, not_false_eq_true, bI_t, bI_f, decide_eq_true_eq, reduceCtorEq]; done) | (simp [X_seats, c_8, c_19, c_28]; done) | simp_all)
set_option maxRecDepth 20000 in
set_option maxHeartbeats 4000000 in
theorem t_X7_word {σ : St} {t m : Int32} : Ct MX7_word [.ref 0, .int t, .int m] σ (some (.int (X_word σ t m).1)) ((X_word σ t m).2) := by
  refine ct_of (ls0 := [some (.ref 0), some (.int t), some (.int m), none, none]) ok_MX7_word rfl (Nat.le_of_ble_eq_true rfl) rfl ?_
  intro g X F
  refine zw_iload_1 X dX7_word_0 ?_
  refine zw_cS_ii X dX7_word_1 lk_X7_86 ok_MX7_isTraveller st_MX7_isTraveller rm_X7_word_X7_isTraveller (Nat.le_of_ble_eq_true rfl) t_X7_isTraveller ?_
  refine zw_ifneB (tgt := 9) X dX7_word_4 (by decide) (fun c_4 => ?_) (fun c_4 => ?_)
  · refine zw_iload_2 X dX7_word_9 ?_
    refine zw_cS_ii X dX7_word_10 lk_X7_75 ok_MX7_isMinute st_MX7_isMinute rm_X7_word_X7_isMinute (Nat.le_of_ble_eq_true rfl) t_X7_isMinute ?_
    refine zw_ifneB (tgt := 19) X dX7_word_13 (by decide) (fun c_13 => ?_) (fun c_13 => ?_)
    · refine zw_iconst (v := 1) X dX7_word_19 ik_1 ?_
      refine zw_iload_1 X dX7_word_20 ?_
      refine zw_ishl X dX7_word_21 ?_
      refine zw_istore_3 X dX7_word_22 ?_
      refine zw_iload_2 X dX7_word_23 ?_
      refine zw_istore_4 X dX7_word_24 ?_
      refine zloop (α := Int32) (S := fun n a => ∀ (v26_3 : Int32) (v26_4 : Int32), v26_3 = a → v26_4 = m + nI n → ZW g 26 [some (.ref 0), some (.int t), some (.int m), some (.int v26_3), some (.int v26_4)] [] σ) (N := (cnt m (σ 1 0))) (f := (fun j kn => tkno σ 1 (m + nI j) kn)) (a0 := ((1 : Int32) <<< (t &&& 31))) (fun n26 a26 hn26 ha26 ih26 v26_3 v26_4 hv26_3 hv26_4 => ?_) (fun a26 ha26 v26_3 v26_4 hv26_3 hv26_4 => ?_) _ _ rfl (by rw [nI_0, Int32.add_zero])
      · subst hv26_3 hv26_4
        refine zw_iload_4 X dX7_word_26 ?_
        refine zw_aload_0 X dX7_word_28 ?_
        refine zw_getR X dX7_word_29 fl_X7_10 ck_X7 sh_0 rfl ?_
        refine zw_getI X dX7_word_32 fl_X7_68 ck_X5 sh_1 rfl ?_
        refine zw_icmpge_f (tgt := 55) X dX7_word_35 (by decide) ((cnt_lt (Nat.le_of_lt hn26)).mpr hn26) ?_
        refine zw_aload_0 X dX7_word_38 ?_
        refine zw_getR X dX7_word_39 fl_X7_10 ck_X7 sh_0 rfl ?_
        refine zw_iload_4 X dX7_word_42 ?_
        refine zw_iload_3 X dX7_word_44 ?_
        refine zw_cV_iii X dX7_word_45 lk_X7_181 ok_MX5_knownAfter vi_MX5_knownAfter rm_X7_word_X5_knownAfter sh_1 rfl (Nat.le_of_ble_eq_true rfl) (t_X5_knownAfter isT_1) ?_
        refine zw_istore_3 X dX7_word_48 ?_
        refine zw_iinc_4_p1 X dX7_word_49 ?_
        refine zw_goto (tgt := 26) X dX7_word_52 (by decide) ?_
        exact ih26 _ _ (by first | (simp only [c_4, c_13, decide_true, decide_false, Bool.and_true, Bool.true_and, Bool.and_false, Bool.false_and, Bool.or_true, Bool.true_or, Bool.or_false, Bool.false_or, Bool.not_true, Bool.not_false, if_true, if_false, ite_true, ite_false, Bool.false_eq_true, not_true_eq_false, not_false_eq_true, bI_t, bI_f, decide_eq_true_eq, reduceCtorEq]; done) | (simp [c_4, c_13]; done) | simp_all) (add_nI _ n26)
      · subst hv26_3 hv26_4
        refine zw_iload_4 X dX7_word_26 ?_
        refine zw_aload_0 X dX7_word_28 ?_
        refine zw_getR X dX7_word_29 fl_X7_10 ck_X7 sh_0 rfl ?_
        refine zw_getI X dX7_word_32 fl_X7_68 ck_X5 sh_1 rfl ?_
        refine zw_icmpge_t (tgt := 55) X dX7_word_35 (by decide) (fun h => Nat.lt_irrefl _ ((cnt_lt (Nat.le_refl _)).mp h)) ?_
        refine zw_iload_3 X dX7_word_55 ?_
        exact zw_iret X F dX7_word_56 rfl (by simp only [X_word, X_wk, c_4, c_13, ← ha26, if_true]) (by first | (simp only [X_wk, X_word, c_4, c_13, decide_true, decide_false, Bool.and_true, Bool.true_and, Bool.and_false, Bool.false_and, Bool.or_true, Bool.true_or, Bool.or_false, Bool.false_or, Bool.not_true, Bool.not_false, if_true, if_false, ite_true, ite_false, Bool.false_eq_true, not_true_eq_false, not_false_eq_true, bI_t, bI_f, decide_eq_true_eq, reduceCtorEq]; done) | (simp [X_wk, X_word, c_4, c_13]; done) | simp_all)
    · refine zw_bipush (v := -2) X dX7_word_16 bk_m2 ?_
      exact zw_iret X F dX7_word_18 rfl (by first | (simp only [X_wk, X_word, c_4, c_13, decide_true, decide_false, Bool.and_true, Bool.true_and, Bool.and_false, Bool.false_and, Bool.or_true, Bool.true_or, Bool.or_false, Bool.false_or, Bool.not_true, Bool.not_false, if_true, if_false, ite_true, ite_false, Bool.false_eq_true, not_true_eq_false, not_false_eq_true, bI_t, bI_f, decide_eq_true_eq, reduceCtorEq]; done) | (simp [X_wk, X_word, c_4, c_13]; done) | simp_all) (by first | (simp only [X_wk, X_word, c_4, c_13, decide_true, decide_false, Bool.and_true, Bool.true_and, Bool.and_false, Bool.false_and, Bool.or_true, Bool.true_or, Bool.or_false, Bool.false_or, Bool.not_true, Bool.not_false, if_true, if_false, ite_true, ite_false, Bool.false_eq_true, not_true_eq_false, not_false_eq_true, bI_t, bI_f, decide_eq_true_eq, reduceCtorEq]; done) | (simp [X_wk, X_word, c_4, c_13]; done) | simp_all)
  · refine zw_iconst (v := -1) X dX7_word_7 ik_m1 ?_
    exact zw_iret X F dX7_word_8 rfl (by first | (simp only [X_wk, X_word, c_4, decide_true, decide_false, Bool.and_true, Bool.true_and, Bool.and_false, Bool.false_and, Bool.or_true, Bool.true_or, Bool.or_false, Bool.false_or, Bool.not_true, Bool.not_false, if_true, if_false, ite_true, ite_false, Bool.false_eq_true, not_true_eq_false, not_false_eq_true, bI_t, bI_f, decide_eq_true_eq, reduceCtorEq]; done) | (simp [X_wk, X_word, c_4]; done) | simp_all) (by first | (simp only [X_wk, X_word, c_4, decide_true, decide_false, Bool.and_true, Bool.true_and, Bool.and_false, Bool.false_and, Bool.or_true, Bool.true_or, Bool.or_false, Bool.false_or, Bool.not_true, Bool.not_false, if_true, if_false, ite_true, ite_false, Bool.false_eq_true, not_true_eq_false, not_false_eq_true, bI_t, bI_f, decide_eq_true_eq, reduceCtorEq]; done) | (simp [X_wk, X_word, c_4]; done) | simp_all)
set_option maxRecDepth 20000 in
set_option maxHeartbeats 4000000 in
theorem t_X7_heard {σ : St} {t m q : Int32} : Ct MX7_heard [.ref 0, .int t, .int m, .int q] σ (some (.int (X_heard σ t m q).1)) (X_heard σ t m q).2 := by
  refine ct_of (ls0 := [some (.ref 0), some (.int t), some (.int m), some (.int q), none, none]) ok_MX7_heard rfl (Nat.le_of_ble_eq_true rfl) rfl ?_
  intro g X F
  refine zw_iload_1 X dX7_heard_0 ?_
  refine zw_cS_ii X dX7_heard_1 lk_X7_86 ok_MX7_isTraveller st_MX7_isTraveller rm_X7_heard_X7_isTraveller (Nat.le_of_ble_eq_true rfl) t_X7_isTraveller ?_
  refine zw_ifeqB (tgt := 14) X dX7_heard_4 (by decide) (fun c_4 => ?_) (fun c_4 => ?_)
  · refine zw_iconst (v := -1) X dX7_heard_14 ik_m1 ?_
    exact zw_iret X F dX7_heard_15 rfl (by first | (simp only [X_heard, c_4, decide_true, decide_false, Bool.and_true, Bool.true_and, Bool.and_false, Bool.false_and, Bool.or_true, Bool.true_or, Bool.or_false, Bool.false_or, Bool.not_true, Bool.not_false, if_true, if_false, ite_true, ite_false, Bool.false_eq_true, not_true_eq_false, not_false_eq_true, bI_t, bI_f, decide_eq_true_eq, reduceCtorEq]; done) | (simp [X_heard, c_4]; done) | simp_all) (by first | (simp only [X_heard, c_4, decide_true, decide_false, Bool.and_true, Bool.true_and, Bool.and_false, Bool.false_and, Bool.or_true, Bool.true_or, Bool.or_false, Bool.false_or, Bool.not_true, Bool.not_false, if_true, if_false, ite_true, ite_false, Bool.false_eq_true, not_true_eq_false, not_false_eq_true, bI_t, bI_f, decide_eq_true_eq, reduceCtorEq]; done) | (simp [X_heard, c_4]; done) | simp_all)
  · refine zw_iload_3 X dX7_heard_7 ?_
    refine zw_cS_ii X dX7_heard_8 lk_X7_86 ok_MX7_isTraveller st_MX7_isTraveller rm_X7_heard_X7_isTraveller (Nat.le_of_ble_eq_true rfl) t_X7_isTraveller ?_
    refine zw_ifneB (tgt := 16) X dX7_heard_11 (by decide) (fun c_11 => ?_) (fun c_11 => ?_)
    · refine zw_iload_2 X dX7_heard_16 ?_
      refine zw_cS_ii X dX7_heard_17 lk_X7_75 ok_MX7_isMinute st_MX7_isMinute rm_X7_heard_X7_isMinute (Nat.le_of_ble_eq_true rfl) t_X7_isMinute ?_
      refine zw_ifneB (tgt := 26) X dX7_heard_20 (by decide) (fun c_20 => ?_) (fun c_20 => ?_)
      · refine zw_iload_1 X dX7_heard_26 ?_
        refine zw_iload_3 X dX7_heard_27 ?_
        refine zw_icmpne (tgt := 33) X dX7_heard_28 (by decide) (fun c_28 => ?_) (fun c_28 => ?_)
        · refine zw_iconst (v := 1) X dX7_heard_33 ik_1 ?_
          refine zw_iload_1 X dX7_heard_34 ?_
          refine zw_ishl X dX7_heard_35 ?_
          refine zw_istore_4 X dX7_heard_36 ?_
          refine zw_iload_2 X dX7_heard_38 ?_
          refine zw_istore_5 X dX7_heard_39 ?_
          refine zfind (S := fun j => ∀ A T : Int32, A = X_wk σ t m j → T = m + nI j → ZW g 41 [some (.ref 0), some (.int t), some (.int m), some (.int q), some (.int A), some (.int T)] [] σ) (P := X_hp σ t m q) (N := cnt m (σ 1 0)) (fun j hj ih hb A T hA hT0 => ?_) (fun hb A T hA hT0 => ?_) _ _ rfl (by rw [nI_0, Int32.add_zero])
          · subst hA hT0
            refine zw_iload_5 X dX7_heard_41 ?_
            refine zw_aload_0 X dX7_heard_43 ?_
            refine zw_getR X dX7_heard_44 fl_X7_10 ck_X7 sh_0 rfl ?_
            refine zw_getI X dX7_heard_47 fl_X7_68 ck_X5 sh_1 rfl ?_
            refine zw_icmpge_f (tgt := 84) X dX7_heard_50 (by decide) ((cnt_lt (Nat.le_of_lt hj)).mpr hj) ?_
            refine zw_aload_0 X dX7_heard_53 ?_
            refine zw_getR X dX7_heard_54 fl_X7_10 ck_X7 sh_0 rfl ?_
            refine zw_iload_5 X dX7_heard_57 ?_
            refine zw_iload_4 X dX7_heard_59 ?_
            refine zw_cV_iii X dX7_heard_61 lk_X7_181 ok_MX5_knownAfter vi_MX5_knownAfter rm_X7_heard_X5_knownAfter sh_1 rfl (Nat.le_of_ble_eq_true rfl) (t_X5_knownAfter isT_1) ?_
            refine zw_istore_4 X dX7_heard_64 ?_
            refine zw_iload_4 X dX7_heard_66 ?_
            refine zw_iconst (v := 1) X dX7_heard_68 ik_1 ?_
            refine zw_iload_3 X dX7_heard_69 ?_
            refine zw_ishl X dX7_heard_70 ?_
            refine zw_iand X dX7_heard_71 ?_
            refine zw_ifeq (tgt := 78) X dX7_heard_72 (by decide) (fun c_72 => ?_) (fun c_72 => ?_)
            · refine zw_iinc_5_p1 X dX7_heard_78 ?_
              refine zw_goto (tgt := 41) X dX7_heard_81 (by decide) ?_
              exact ih (by unfold X_hp; exact decide_eq_false (fun h => h c_72)) _ _ rfl (add_nI _ j)
            · refine zw_iload_5 X dX7_heard_75 ?_
              exact zw_iret X F dX7_heard_77 rfl (by simp only [X_heard, X_hf, c_4, c_11, c_20, eq_false c_28, fstB_at (P := X_hp σ t m q) (decide_eq_true c_72) hb hj, hj, if_true, if_false, Bool.and_true]) (by simp only [X_heard, c_4, c_11, c_20, eq_false c_28, if_true, if_false, Bool.and_true])
          · subst hA hT0
            have e0 : fstB (X_hp σ t m q) (cnt m (σ 1 0)) = cnt m (σ 1 0) := fstB_no hb
            refine zw_iload_5 X dX7_heard_41 ?_
            refine zw_aload_0 X dX7_heard_43 ?_
            refine zw_getR X dX7_heard_44 fl_X7_10 ck_X7 sh_0 rfl ?_
            refine zw_getI X dX7_heard_47 fl_X7_68 ck_X5 sh_1 rfl ?_
            refine zw_icmpge_t (tgt := 84) X dX7_heard_50 (by decide) (fun h => Nat.lt_irrefl _ ((cnt_lt (Nat.le_refl _)).mp h)) ?_
            refine zw_bipush (v := -6) X dX7_heard_84 bk_m6 ?_
            exact zw_iret X F dX7_heard_86 rfl (by simp only [X_heard, X_hf, c_4, c_11, c_20, eq_false c_28, e0, Nat.lt_irrefl, if_true, if_false, Bool.and_true]) (by simp only [X_heard, c_4, c_11, c_20, eq_false c_28, if_true, if_false, Bool.and_true])
        · refine zw_iload_2 X dX7_heard_31 ?_
          exact zw_iret X F dX7_heard_32 rfl (by first | (simp only [X_heard, c_4, c_11, c_20, eq_true c_28, decide_true, decide_false, Bool.and_true, Bool.true_and, Bool.and_false, Bool.false_and, Bool.or_true, Bool.true_or, Bool.or_false, Bool.false_or, Bool.not_true, Bool.not_false, if_true, if_false, ite_true, ite_false, Bool.false_eq_true, not_true_eq_false, not_false_eq_true, bI_t, bI_f, decide_eq_true_eq, reduceCtorEq]; done) | (simp [X_heard, c_4, c_11, c_20, eq_true c_28]; done) | simp_all) (by first | (simp only [X_heard, c_4, c_11, c_20, eq_true c_28, decide_true, decide_false, Bool.and_true, Bool.true_and, Bool.and_false, Bool.false_and, Bool.or_true, Bool.true_or, Bool.or_false, Bool.false_or, Bool.not_true, Bool.not_false, if_true, if_false, ite_true, ite_false, Bool.false_eq_true, not_true_eq_false, not_false_eq_true, bI_t, bI_f, decide_eq_true_eq, reduceCtorEq]; done) | (simp [X_heard, c_4, c_11, c_20, eq_true c_28]; done) | simp_all)
      · refine zw_bipush (v := -2) X dX7_heard_23 bk_m2 ?_
        exact zw_iret X F dX7_heard_25 rfl (by first | (simp only [X_heard, c_4, c_11, c_20, decide_true, decide_false, Bool.and_true, Bool.true_and, Bool.and_false, Bool.false_and, Bool.or_true, Bool.true_or, Bool.or_false, Bool.false_or, Bool.not_true, Bool.not_false, if_true, if_false, ite_true, ite_false, Bool.false_eq_true, not_true_eq_false, not_false_eq_true, bI_t, bI_f, decide_eq_true_eq, reduceCtorEq]; done) | (simp [X_heard, c_4, c_11, c_20]; done) | simp_all) (by first | (simp only [X_heard, c_4, c_11, c_20, decide_true, decide_false, Bool.and_true, Bool.true_and, Bool.and_false, Bool.false_and, Bool.or_true, Bool.true_or, Bool.or_false, Bool.false_or, Bool.not_true, Bool.not_false, if_true, if_false, ite_true, ite_false, Bool.false_eq_true, not_true_eq_false, not_false_eq_true, bI_t, bI_f, decide_eq_true_eq, reduceCtorEq]; done) | (simp [X_heard, c_4, c_11, c_20]; done) | simp_all)
    · refine zw_iconst (v := -1) X dX7_heard_14 ik_m1 ?_
      exact zw_iret X F dX7_heard_15 rfl (by first | (simp only [X_heard, c_4, c_11, decide_true, decide_false, Bool.and_true, Bool.true_and, Bool.and_false, Bool.false_and, Bool.or_true, Bool.true_or, Bool.or_false, Bool.false_or, Bool.not_true, Bool.not_false, if_true, if_false, ite_true, ite_false, Bool.false_eq_true, not_true_eq_false, not_false_eq_true, bI_t, bI_f, decide_eq_true_eq, reduceCtorEq]; done) | (simp [X_heard, c_4, c_11]; done) | simp_all) (by first | (simp only [X_heard, c_4, c_11, decide_true, decide_false, Bool.and_true, Bool.true_and, Bool.and_false, Bool.false_and, Bool.or_true, Bool.true_or, Bool.or_false, Bool.false_or, Bool.not_true, Bool.not_false, if_true, if_false, ite_true, ite_false, Bool.false_eq_true, not_true_eq_false, not_false_eq_true, bI_t, bI_f, decide_eq_true_eq, reduceCtorEq]; done) | (simp [X_heard, c_4, c_11]; done) | simp_all)
set_option maxRecDepth 20000 in
set_option maxHeartbeats 4000000 in
theorem t_X7_richest {σ : St} {w : Int32} : Ct MX7_richest [.ref 0, .int w] σ (some (.int (X_rich σ w).1)) ((X_rich σ w).2) := by
  refine ct_of (ls0 := [some (.ref 0), some (.int w), none, none]) ok_MX7_richest rfl (Nat.le_of_ble_eq_true rfl) rfl ?_
  intro g X F
  refine zw_iload_1 X dX7_richest_0 ?_
  refine zw_iconst (v := 0) X dX7_richest_1 ik_0 ?_
  refine zw_iconst (v := 2) X dX7_richest_2 ik_2 ?_
  refine zw_cS_iiii X dX7_richest_3 lk_X7_64 ok_MX7_isWithin st_MX7_isWithin rm_X7_richest_X7_isWithin (Nat.le_of_ble_eq_true rfl) t_X7_isWithin ?_
  refine zw_ifneB (tgt := 12) X dX7_richest_6 (by decide) (fun c_6 => ?_) (fun c_6 => ?_)
  · refine zw_aload_0 X dX7_richest_12 ?_
    refine zw_cV_nv X dX7_richest_13 lk_X7_155 ok_MX7_letAllMinutesPass vi_MX7_letAllMinutesPass rm_X7_richest_X7_letAllMinutesPass sh_0 rfl (Nat.le_of_ble_eq_true rfl) t_X7_letAllMinutesPass ?_
    refine zw_iload_1 X dX7_richest_16 ?_
    refine zw_iconst (v := 2) X dX7_richest_17 ik_2 ?_
    refine zw_icmpne (tgt := 26) X dX7_richest_18 (by decide) (fun c_18 => ?_) (fun c_18 => ?_)
    · refine zw_iconst (v := 0) X dX7_richest_26 ik_0 ?_
      refine zw_istore_2 X dX7_richest_27 ?_
      refine zw_iconst (v := 1) X dX7_richest_28 ik_1 ?_
      refine zw_istore_3 X dX7_richest_29 ?_
      refine zloop (α := Int32) (S := fun n a => ∀ (v30_2 : Int32) (v30_3 : Int32), v30_2 = a → v30_3 = nI (1 + n) → ZW g 30 [some (.ref 0), some (.int w), some (.int v30_2), some (.int v30_3)] [] (X_all σ)) (N := 2) (f := (X_richF (X_all σ))) (a0 := (0 : Int32)) (fun n30 a30 hn30 ha30 ih30 v30_2 v30_3 hv30_2 hv30_3 => ?_) (fun a30 ha30 v30_2 v30_3 hv30_2 hv30_3 => ?_) _ _ rfl rfl
      · subst hv30_2 hv30_3
        refine zw_iload_3 X dX7_richest_30 ?_
        refine zw_iconst (v := 3) X dX7_richest_31 ik_3 ?_
        refine zw_icmpge_f (tgt := 56) X dX7_richest_32 (by decide) (nI_lt (b := 3) (by omega) (by decide)) ?_
        refine zw_aload_0 X dX7_richest_35 ?_
        refine zw_iload_3 X dX7_richest_36 ?_
        refine zw_cV_ii X dX7_richest_37 lk_X7_187 ok_MX7_paidByCompartment vi_MX7_paidByCompartment rm_X7_richest_X7_paidByCompartment sh_0 rfl (Nat.le_of_ble_eq_true rfl) t_X7_paidByCompartment ?_
        refine zw_aload_0 X dX7_richest_40 ?_
        refine zw_iload_2 X dX7_richest_41 ?_
        refine zw_cV_ii X dX7_richest_42 lk_X7_187 ok_MX7_paidByCompartment vi_MX7_paidByCompartment rm_X7_richest_X7_paidByCompartment sh_0 rfl (Nat.le_of_ble_eq_true rfl) t_X7_paidByCompartment ?_
        refine zw_icmple (tgt := 50) X dX7_richest_45 (by decide) (fun c_45 => ?_) (fun c_45 => ?_)
        · refine zw_iinc_3_p1 X dX7_richest_50 ?_
          refine zw_goto (tgt := 30) X dX7_richest_53 (by decide) ?_
          exact ih30 _ _ (by first | (simp only [X_richF, c_6, c_18, c_45, decide_true, decide_false, Bool.and_true, Bool.true_and, Bool.and_false, Bool.false_and, Bool.or_true, Bool.true_or, Bool.or_false, Bool.false_or, Bool.not_true, Bool.not_false, if_true, if_false, ite_true, ite_false, Bool.false_eq_true, not_true_eq_false, not_false_eq_true, bI_t, bI_f, decide_eq_true_eq, reduceCtorEq]; done) | (simp [X_richF, c_6, c_18, c_45]; done) | simp_all) (nI_1 _)
        · refine zw_iload_3 X dX7_richest_48 ?_
          refine zw_istore_2 X dX7_richest_49 ?_
          refine zw_iinc_3_p1 X dX7_richest_50 ?_
          refine zw_goto (tgt := 30) X dX7_richest_53 (by decide) ?_
          exact ih30 _ _ (by first | (simp only [X_richF, c_6, c_18, c_45, decide_true, decide_false, Bool.and_true, Bool.true_and, Bool.and_false, Bool.false_and, Bool.or_true, Bool.true_or, Bool.or_false, Bool.false_or, Bool.not_true, Bool.not_false, if_true, if_false, ite_true, ite_false, Bool.false_eq_true, not_true_eq_false, not_false_eq_true, bI_t, bI_f, decide_eq_true_eq, reduceCtorEq]; done) | (simp [X_richF, c_6, c_18, c_45]; done) | simp_all) (nI_1 _)
      · subst hv30_2 hv30_3
        refine zw_iload_3 X dX7_richest_30 ?_
        refine zw_iconst (v := 3) X dX7_richest_31 ik_3 ?_
        refine zw_icmpge_t (tgt := 56) X dX7_richest_32 (by decide) (by decide) ?_
        refine zw_iload_1 X dX7_richest_56 ?_
        refine zw_ifne (tgt := 64) X dX7_richest_57 (by decide) (fun c_57 => ?_) (fun c_57 => ?_)
        · refine zw_aload_0 X dX7_richest_64 ?_
          refine zw_iload_2 X dX7_richest_65 ?_
          refine zw_cV_ii X dX7_richest_66 lk_X7_187 ok_MX7_paidByCompartment vi_MX7_paidByCompartment rm_X7_richest_X7_paidByCompartment sh_0 rfl (Nat.le_of_ble_eq_true rfl) t_X7_paidByCompartment ?_
          exact zw_iret X F dX7_richest_69 rfl (by simp only [X_rich, X_richT, ← ha30, c_6, c_18, c_57, decide_true, decide_false, Bool.and_true, Bool.true_and, Bool.and_false, Bool.false_and, Bool.or_true, Bool.true_or, Bool.or_false, Bool.false_or, Bool.not_true, Bool.not_false, if_true, if_false, ite_true, ite_false, Bool.false_eq_true, not_true_eq_false, not_false_eq_true, bI_t, bI_f, decide_eq_true_eq, reduceCtorEq]) (by first | (simp only [X_rich, c_6, c_18, c_57, decide_true, decide_false, Bool.and_true, Bool.true_and, Bool.and_false, Bool.false_and, Bool.or_true, Bool.true_or, Bool.or_false, Bool.false_or, Bool.not_true, Bool.not_false, if_true, if_false, ite_true, ite_false, Bool.false_eq_true, not_true_eq_false, not_false_eq_true, bI_t, bI_f, decide_eq_true_eq, reduceCtorEq]; done) | (simp [X_rich, c_6, c_18, c_57]; done) | simp_all)
        · refine zw_iload_2 X dX7_richest_60 ?_
          refine zw_goto (tgt := 69) X dX7_richest_61 (by decide) ?_
          exact zw_iret X F dX7_richest_69 rfl (by simp only [X_rich, X_richT, ← ha30, c_6, c_18, eq_true c_57, decide_true, decide_false, Bool.and_true, Bool.true_and, Bool.and_false, Bool.false_and, Bool.or_true, Bool.true_or, Bool.or_false, Bool.false_or, Bool.not_true, Bool.not_false, if_true, if_false, ite_true, ite_false, Bool.false_eq_true, not_true_eq_false, not_false_eq_true, bI_t, bI_f, decide_eq_true_eq, reduceCtorEq]) (by first | (simp only [X_rich, c_6, c_18, eq_true c_57, decide_true, decide_false, Bool.and_true, Bool.true_and, Bool.and_false, Bool.false_and, Bool.or_true, Bool.true_or, Bool.or_false, Bool.false_or, Bool.not_true, Bool.not_false, if_true, if_false, ite_true, ite_false, Bool.false_eq_true, not_true_eq_false, not_false_eq_true, bI_t, bI_f, decide_eq_true_eq, reduceCtorEq]; done) | (simp [X_rich, c_6, c_18, eq_true c_57]; done) | simp_all)
    · refine zw_aload_0 X dX7_richest_21 ?_
      refine zw_cV_ni X dX7_richest_22 lk_X7_184 ok_MX7_topPayer vi_MX7_topPayer rm_X7_richest_X7_topPayer sh_0 rfl (Nat.le_of_ble_eq_true rfl) t_X7_topPayer ?_
      exact zw_iret X F dX7_richest_25 rfl (by first | (simp only [X_richT, X_rich, c_6, eq_true c_18, decide_true, decide_false, Bool.and_true, Bool.true_and, Bool.and_false, Bool.false_and, Bool.or_true, Bool.true_or, Bool.or_false, Bool.false_or, Bool.not_true, Bool.not_false, if_true, if_false, ite_true, ite_false, Bool.false_eq_true, not_true_eq_false, not_false_eq_true, bI_t, bI_f, decide_eq_true_eq, reduceCtorEq]; done) | (simp [X_richT, X_rich, c_6, eq_true c_18]; done) | simp_all) (by first | (simp only [X_rich, c_6, eq_true c_18, decide_true, decide_false, Bool.and_true, Bool.true_and, Bool.and_false, Bool.false_and, Bool.or_true, Bool.true_or, Bool.or_false, Bool.false_or, Bool.not_true, Bool.not_false, if_true, if_false, ite_true, ite_false, Bool.false_eq_true, not_true_eq_false, not_false_eq_true, bI_t, bI_f, decide_eq_true_eq, reduceCtorEq]; done) | (simp [X_rich, c_6, eq_true c_18]; done) | simp_all)
  · refine zw_bipush (v := -2) X dX7_richest_9 bk_m2 ?_
    exact zw_iret X F dX7_richest_11 rfl (by first | (simp only [X_richT, X_rich, c_6, decide_true, decide_false, Bool.and_true, Bool.true_and, Bool.and_false, Bool.false_and, Bool.or_true, Bool.true_or, Bool.or_false, Bool.false_or, Bool.not_true, Bool.not_false, if_true, if_false, ite_true, ite_false, Bool.false_eq_true, not_true_eq_false, not_false_eq_true, bI_t, bI_f, decide_eq_true_eq, reduceCtorEq]; done) | (simp [X_richT, X_rich, c_6]; done) | simp_all) (by first | (simp only [X_rich, c_6, decide_true, decide_false, Bool.and_true, Bool.true_and, Bool.and_false, Bool.false_and, Bool.or_true, Bool.true_or, Bool.or_false, Bool.false_or, Bool.not_true, Bool.not_false, if_true, if_false, ite_true, ite_false, Bool.false_eq_true, not_true_eq_false, not_false_eq_true, bI_t, bI_f, decide_eq_true_eq, reduceCtorEq]; done) | (simp [X_rich, c_6]; done) | simp_all)
set_option maxRecDepth 20000 in
set_option maxHeartbeats 4000000 in
theorem t_X7_seen {σ : St} {m t : Int32} : Ct MX7_seen [.ref 0, .int m, .int t] σ (some (.int (X_seen σ m t).1)) ((X_seen σ m t).2) := by
  refine ct_of (ls0 := [some (.ref 0), some (.int m), some (.int t)]) ok_MX7_seen rfl (Nat.le_of_ble_eq_true rfl) rfl ?_
  intro g X F
  refine zw_iload_2 X dX7_seen_0 ?_
  refine zw_cS_ii X dX7_seen_1 lk_X7_86 ok_MX7_isTraveller st_MX7_isTraveller rm_X7_seen_X7_isTraveller (Nat.le_of_ble_eq_true rfl) t_X7_isTraveller ?_
  refine zw_ifneB (tgt := 9) X dX7_seen_4 (by decide) (fun c_4 => ?_) (fun c_4 => ?_)
  · refine zw_iload_1 X dX7_seen_9 ?_
    refine zw_cS_ii X dX7_seen_10 lk_X7_75 ok_MX7_isMinute st_MX7_isMinute rm_X7_seen_X7_isMinute (Nat.le_of_ble_eq_true rfl) t_X7_isMinute ?_
    refine zw_ifneB (tgt := 19) X dX7_seen_13 (by decide) (fun c_13 => ?_) (fun c_13 => ?_)
    · refine zw_aload_0 X dX7_seen_19 ?_
      refine zw_getR X dX7_seen_20 fl_X7_36 ck_X7 sh_0 rfl ?_
      refine zw_iload_1 X dX7_seen_23 ?_
      refine zw_iload_2 X dX7_seen_24 ?_
      refine zw_cV_iii X dX7_seen_25 lk_X7_190 ok_MX4_add vi_MX4_add rm_X7_seen_X4_add sh_16 rfl (Nat.le_of_ble_eq_true rfl) t_X4_add ?_
      refine zw_ifeqB (tgt := 41) X dX7_seen_28 (by decide) (fun c_28 => ?_) (fun c_28 => ?_)
      · refine zw_bipush (v := -4) X dX7_seen_41 bk_m4 ?_
        exact zw_iret X F dX7_seen_43 rfl (by first | (simp only [X_seenS, X_seen, c_4, c_13, c_28, decide_true, decide_false, Bool.and_true, Bool.true_and, Bool.and_false, Bool.false_and, Bool.or_true, Bool.true_or, Bool.or_false, Bool.false_or, Bool.not_true, Bool.not_false, if_true, if_false, ite_true, ite_false, Bool.false_eq_true, not_true_eq_false, not_false_eq_true, bI_t, bI_f, decide_eq_true_eq, reduceCtorEq]; done) | (simp [X_seenS, X_seen, c_4, c_13, c_28]; done) | simp_all) (by first | (simp only [X_seenS, X_seen, c_4, c_13, c_28, decide_true, decide_false, Bool.and_true, Bool.true_and, Bool.and_false, Bool.false_and, Bool.or_true, Bool.true_or, Bool.or_false, Bool.false_or, Bool.not_true, Bool.not_false, if_true, if_false, ite_true, ite_false, Bool.false_eq_true, not_true_eq_false, not_false_eq_true, bI_t, bI_f, decide_eq_true_eq, reduceCtorEq]; done) | (simp [X_seenS, X_seen, c_4, c_13, c_28]; done) | simp_all)
      · refine zw_aload_0 X dX7_seen_31 ?_
        refine zw_getR X dX7_seen_32 fl_X7_36 ck_X7 sh_0 rfl ?_
        refine zw_getI X dX7_seen_35 fl_X7_193 ck_X4 sh_16 rfl ?_
        refine zw_goto (tgt := 43) X dX7_seen_38 (by decide) ?_
        exact zw_iret X F dX7_seen_43 rfl (by first | (simp only [X_seenS, X_seen, c_4, c_13, c_28, decide_true, decide_false, Bool.and_true, Bool.true_and, Bool.and_false, Bool.false_and, Bool.or_true, Bool.true_or, Bool.or_false, Bool.false_or, Bool.not_true, Bool.not_false, if_true, if_false, ite_true, ite_false, Bool.false_eq_true, not_true_eq_false, not_false_eq_true, bI_t, bI_f, decide_eq_true_eq, reduceCtorEq]; done) | (simp [X_seenS, X_seen, c_4, c_13, c_28]; done) | simp_all) (by first | (simp only [X_seenS, X_seen, c_4, c_13, c_28, decide_true, decide_false, Bool.and_true, Bool.true_and, Bool.and_false, Bool.false_and, Bool.or_true, Bool.true_or, Bool.or_false, Bool.false_or, Bool.not_true, Bool.not_false, if_true, if_false, ite_true, ite_false, Bool.false_eq_true, not_true_eq_false, not_false_eq_true, bI_t, bI_f, decide_eq_true_eq, reduceCtorEq]; done) | (simp [X_seenS, X_seen, c_4, c_13, c_28]; done) | simp_all)
    · refine zw_bipush (v := -2) X dX7_seen_16 bk_m2 ?_
      exact zw_iret X F dX7_seen_18 rfl (by first | (simp only [X_seenS, X_seen, c_4, c_13, decide_true, decide_false, Bool.and_true, Bool.true_and, Bool.and_false, Bool.false_and, Bool.or_true, Bool.true_or, Bool.or_false, Bool.false_or, Bool.not_true, Bool.not_false, if_true, if_false, ite_true, ite_false, Bool.false_eq_true, not_true_eq_false, not_false_eq_true, bI_t, bI_f, decide_eq_true_eq, reduceCtorEq]; done) | (simp [X_seenS, X_seen, c_4, c_13]; done) | simp_all) (by first | (simp only [X_seenS, X_seen, c_4, c_13, decide_true, decide_false, Bool.and_true, Bool.true_and, Bool.and_false, Bool.false_and, Bool.or_true, Bool.true_or, Bool.or_false, Bool.false_or, Bool.not_true, Bool.not_false, if_true, if_false, ite_true, ite_false, Bool.false_eq_true, not_true_eq_false, not_false_eq_true, bI_t, bI_f, decide_eq_true_eq, reduceCtorEq]; done) | (simp [X_seenS, X_seen, c_4, c_13]; done) | simp_all)
  · refine zw_iconst (v := -1) X dX7_seen_7 ik_m1 ?_
    exact zw_iret X F dX7_seen_8 rfl (by first | (simp only [X_seenS, X_seen, c_4, decide_true, decide_false, Bool.and_true, Bool.true_and, Bool.and_false, Bool.false_and, Bool.or_true, Bool.true_or, Bool.or_false, Bool.false_or, Bool.not_true, Bool.not_false, if_true, if_false, ite_true, ite_false, Bool.false_eq_true, not_true_eq_false, not_false_eq_true, bI_t, bI_f, decide_eq_true_eq, reduceCtorEq]; done) | (simp [X_seenS, X_seen, c_4]; done) | simp_all) (by first | (simp only [X_seenS, X_seen, c_4, decide_true, decide_false, Bool.and_true, Bool.true_and, Bool.and_false, Bool.false_and, Bool.or_true, Bool.true_or, Bool.or_false, Bool.false_or, Bool.not_true, Bool.not_false, if_true, if_false, ite_true, ite_false, Bool.false_eq_true, not_true_eq_false, not_false_eq_true, bI_t, bI_f, decide_eq_true_eq, reduceCtorEq]; done) | (simp [X_seenS, X_seen, c_4]; done) | simp_all)
set_option maxRecDepth 20000 in
set_option maxHeartbeats 4000000 in
theorem t_X7_forget {σ : St}  : Ct MX7_forget [.ref 0] σ (some (.int (X_forg σ).1)) ((X_forg σ).2) := by
  refine ct_of (ls0 := [some (.ref 0)]) ok_MX7_forget rfl (Nat.le_of_ble_eq_true rfl) rfl ?_
  intro g X F
  refine zw_aload_0 X dX7_forget_0 ?_
  refine zw_getR X dX7_forget_1 fl_X7_36 ck_X7 sh_0 rfl ?_
  refine zw_cV_ni X dX7_forget_4 lk_X7_194 ok_MX4_clear vi_MX4_clear rm_X7_forget_X4_clear sh_16 rfl (Nat.le_of_ble_eq_true rfl) t_X4_clear ?_
  exact zw_iret X F dX7_forget_7 rfl (by first | (simp only [X_forg, decide_true, decide_false, Bool.and_true, Bool.true_and, Bool.and_false, Bool.false_and, Bool.or_true, Bool.true_or, Bool.or_false, Bool.false_or, Bool.not_true, Bool.not_false, if_true, if_false, ite_true, ite_false, Bool.false_eq_true, not_true_eq_false, not_false_eq_true, bI_t, bI_f, decide_eq_true_eq, reduceCtorEq]; done) | (simp [X_forg]; done) | simp_all) (by first | (simp only [X_forg, decide_true, decide_false, Bool.and_true, Bool.true_and, Bool.and_false, Bool.false_and, Bool.or_true, Bool.true_or, Bool.or_false, Bool.false_or, Bool.not_true, Bool.not_false, if_true, if_false, ite_true, ite_false, Bool.false_eq_true, not_true_eq_false, not_false_eq_true, bI_t, bI_f, decide_eq_true_eq, reduceCtorEq]; done) | (simp [X_forg]; done) | simp_all)
set_option maxRecDepth 20000 in
set_option maxHeartbeats 4000000 in
theorem t_X7_hum {σ : St}  : Ct MX7_hum [.ref 0] σ (some (.int (X_hum σ).1)) ((X_hum σ).2) := by
  refine ct_of (ls0 := [some (.ref 0)]) ok_MX7_hum rfl (Nat.le_of_ble_eq_true rfl) rfl ?_
  intro g X F
  refine zw_aload_0 X dX7_hum_0 ?_
  refine zw_getR X dX7_hum_1 fl_X7_36 ck_X7 sh_0 rfl ?_
  refine zw_aload_0 X dX7_hum_4 ?_
  refine zw_getR X dX7_hum_5 fl_X7_10 ck_X7 sh_0 rfl ?_
  refine zw_cV_ri X dX7_hum_8 lk_X7_195 ok_MX4_suspects vi_MX4_suspects rm_X7_hum_X4_suspects sh_16 rfl (Nat.le_of_ble_eq_true rfl) t_X4_suspects ?_
  exact zw_iret X F dX7_hum_11 rfl (by first | (simp only [X_hum, decide_true, decide_false, Bool.and_true, Bool.true_and, Bool.and_false, Bool.false_and, Bool.or_true, Bool.true_or, Bool.or_false, Bool.false_or, Bool.not_true, Bool.not_false, if_true, if_false, ite_true, ite_false, Bool.false_eq_true, not_true_eq_false, not_false_eq_true, bI_t, bI_f, decide_eq_true_eq, reduceCtorEq]; done) | (simp [X_hum]; done) | simp_all) (by first | (simp only [X_hum, decide_true, decide_false, Bool.and_true, Bool.true_and, Bool.and_false, Bool.false_and, Bool.or_true, Bool.true_or, Bool.or_false, Bool.false_or, Bool.not_true, Bool.not_false, if_true, if_false, ite_true, ite_false, Bool.false_eq_true, not_true_eq_false, not_false_eq_true, bI_t, bI_f, decide_eq_true_eq, reduceCtorEq]; done) | (simp [X_hum]; done) | simp_all)
set_option maxRecDepth 20000 in
set_option maxHeartbeats 4000000 in
theorem t_X7_leftAtMost {σ : St} {a b : Int32} : Ct MX7_leftAtMost [.int a, .int b] σ (some (.int (leftM a b))) (σ) := by
  refine ct_of (ls0 := [some (.int a), some (.int b), none, none]) ok_MX7_leftAtMost rfl (Nat.le_of_ble_eq_true rfl) rfl ?_
  intro g X F
  refine zw_iload_0 X dX7_leftAtMost_0 ?_
  refine zw_iload_1 X dX7_leftAtMost_1 ?_
  refine zw_iand X dX7_leftAtMost_2 ?_
  refine zw_cS_ii X dX7_leftAtMost_3 lk_X7_261 ok_MJ6_bitCount st_MJ6_bitCount rm_X7_leftAtMost_J6_bitCount (Nat.le_of_ble_eq_true rfl) t_J6_bitCount ?_
  refine zw_istore_2 X dX7_leftAtMost_6 ?_
  refine zw_iload_0 X dX7_leftAtMost_7 ?_
  refine zw_iload_1 X dX7_leftAtMost_8 ?_
  refine zw_iconst (v := -1) X dX7_leftAtMost_9 ik_m1 ?_
  refine zw_ixor X dX7_leftAtMost_10 ?_
  refine zw_iand X dX7_leftAtMost_11 ?_
  refine zw_cS_ii X dX7_leftAtMost_12 lk_X7_261 ok_MJ6_bitCount st_MJ6_bitCount rm_X7_leftAtMost_J6_bitCount (Nat.le_of_ble_eq_true rfl) t_J6_bitCount ?_
  refine zw_istore_3 X dX7_leftAtMost_15 ?_
  refine zw_iload_2 X dX7_leftAtMost_16 ?_
  refine zw_iload_3 X dX7_leftAtMost_17 ?_
  refine zw_max X dX7_leftAtMost_18 lm_X7_266 ls_max li_math lc_max ⟨Nat.le_of_ble_eq_true rfl, Nat.le_of_ble_eq_true rfl⟩ (Nat.le_of_ble_eq_true rfl) ?_
  exact zw_iret X F dX7_leftAtMost_21 rfl (rfl) (rfl)
set_option maxRecDepth 20000 in
set_option maxHeartbeats 4000000 in
theorem t_X7_watch {σ : St} {w : Int32} : Ct MX7_watch [.ref 0, .int w] σ (some (.int (X_watch σ w).1)) ((X_watch σ w).2) := by
  refine ct_of (ls0 := [some (.ref 0), some (.int w), none, none, none, none, none, none]) ok_MX7_watch rfl (Nat.le_of_ble_eq_true rfl) rfl ?_
  intro g X F
  refine zw_iload_1 X dX7_watch_0 ?_
  refine zw_iconst (v := 0) X dX7_watch_1 ik_0 ?_
  refine zw_iconst (v := 1) X dX7_watch_2 ik_1 ?_
  refine zw_cS_iiii X dX7_watch_3 lk_X7_64 ok_MX7_isWithin st_MX7_isWithin rm_X7_watch_X7_isWithin (Nat.le_of_ble_eq_true rfl) t_X7_isWithin ?_
  refine zw_ifneB (tgt := 12) X dX7_watch_6 (by decide) (fun c_6 => ?_) (fun c_6 => ?_)
  · refine zw_aload_0 X dX7_watch_12 ?_
    refine zw_getR X dX7_watch_13 fl_X7_36 ck_X7 sh_0 rfl ?_
    refine zw_aload_0 X dX7_watch_16 ?_
    refine zw_getR X dX7_watch_17 fl_X7_10 ck_X7 sh_0 rfl ?_
    refine zw_cV_ri X dX7_watch_20 lk_X7_195 ok_MX4_suspects vi_MX4_suspects rm_X7_watch_X4_suspects sh_16 rfl (Nat.le_of_ble_eq_true rfl) t_X4_suspects ?_
    refine zw_istore_2 X dX7_watch_23 ?_
    refine zw_iload_2 X dX7_watch_24 ?_
    refine zw_ifne (tgt := 31) X dX7_watch_25 (by decide) (fun c_25 => ?_) (fun c_25 => ?_)
    · refine zw_iconst (v := 0) X dX7_watch_31 ik_0 ?_
      refine zw_istore_3 X dX7_watch_32 ?_
      refine zw_bipush (v := 7) X dX7_watch_33 bk_7 ?_
      refine zw_istore_4 X dX7_watch_35 ?_
      refine zw_iconst (v := 0) X dX7_watch_37 ik_0 ?_
      refine zw_istore_5 X dX7_watch_38 ?_
      refine zw_fg_6 ?_
      refine zw_fg_7 ?_
      refine zloop (α := Int32 × Int32) (S := fun n a => ∀ (v40_3 : Int32) (v40_4 : Int32) (v40_5 : Int32), v40_3 = a.1 → v40_4 = a.2 → v40_5 = nI n → ZW g 40 [some (.ref 0), some (.int w), some (.int (gSus σ)), some (.int v40_3), some (.int v40_4), some (.int v40_5), none, none] [] σ) (N := (clN (σ 1 0))) (f := (X_wO σ)) (a0 := ((0, 7) : Int32 × Int32)) (fun n40 a40 hn40 ha40 ih40 v40_3 v40_4 v40_5 hv40_3 hv40_4 hv40_5 => ?_) (fun a40 ha40 v40_3 v40_4 v40_5 hv40_3 hv40_4 hv40_5 => ?_) _ _ _ rfl rfl rfl
      · subst hv40_3 hv40_4 hv40_5
        refine zw_iload_5 X dX7_watch_40 ?_
        refine zw_aload_0 X dX7_watch_42 ?_
        refine zw_getR X dX7_watch_43 fl_X7_10 ck_X7 sh_0 rfl ?_
        refine zw_getI X dX7_watch_46 fl_X7_68 ck_X5 sh_1 rfl ?_
        refine zw_icmpge_f (tgt := 110) X dX7_watch_49 (by decide) ((clN_lt (Nat.le_of_lt hn40)).mpr hn40) ?_
        refine zw_iconst (v := 0) X dX7_watch_52 ik_0 ?_
        refine zw_istore_6 X dX7_watch_53 ?_
        refine zw_fg_7 ?_
        refine zloop (α := Int32 × Int32) (S := fun n a => ∀ (v55_3 : Int32) (v55_4 : Int32) (v55_6 : Int32), v55_3 = a.1 → v55_4 = a.2 → v55_6 = nI n → ZW g 55 [some (.ref 0), some (.int w), some (.int (gSus σ)), some (.int v55_3), some (.int v55_4), some (.int (nI n40)), some (.int v55_6), none] [] σ) (N := 3) (f := (X_wI σ n40)) (a0 := a40) (fun n55 a55 hn55 ha55 ih55 v55_3 v55_4 v55_6 hv55_3 hv55_4 hv55_6 => ?_) (fun a55 ha55 v55_3 v55_4 v55_6 hv55_3 hv55_4 hv55_6 => ?_) _ _ _ rfl rfl rfl
        · subst hv55_3 hv55_4 hv55_6
          refine zw_iload_6 X dX7_watch_55 ?_
          refine zw_iconst (v := 3) X dX7_watch_57 ik_3 ?_
          refine zw_icmpge_f (tgt := 104) X dX7_watch_58 (by decide) (nI_lt hn55 (by decide)) ?_
          refine zw_iload_2 X dX7_watch_61 ?_
          refine zw_aload_0 X dX7_watch_62 ?_
          refine zw_getR X dX7_watch_63 fl_X7_10 ck_X7 sh_0 rfl ?_
          refine zw_iload_6 X dX7_watch_66 ?_
          refine zw_iload_5 X dX7_watch_68 ?_
          refine zw_cV_iii X dX7_watch_70 lk_X7_199 ok_MX5_ridersOf vi_MX5_ridersOf rm_X7_watch_X5_ridersOf sh_1 rfl (Nat.le_of_ble_eq_true rfl) (t_X5_ridersOf isT_1) ?_
          refine zw_cS_iii X dX7_watch_73 lk_X7_202 ok_MX7_leftAtMost st_MX7_leftAtMost rm_X7_watch_X7_leftAtMost (Nat.le_of_ble_eq_true rfl) t_X7_leftAtMost ?_
          refine zw_istore_7 X dX7_watch_76 ?_
          refine zw_iload_7 X dX7_watch_78 ?_
          refine zw_iload_4 X dX7_watch_80 ?_
          refine zw_icmpge (tgt := 98) X dX7_watch_82 (by decide) (fun c_82 => ?_) (fun c_82 => ?_)
          · refine zw_iinc_6_p1 X dX7_watch_98 ?_
            refine zw_goto (tgt := 55) X dX7_watch_101 (by decide) ?_
            refine zw_fg_7 ?_
            exact ih55 _ _ _ (by first | (simp only [X_wI, c_6, c_25, c_82, decide_true, decide_false, Bool.and_true, Bool.true_and, Bool.and_false, Bool.false_and, Bool.or_true, Bool.true_or, Bool.or_false, Bool.false_or, Bool.not_true, Bool.not_false, if_true, if_false, ite_true, ite_false, Bool.false_eq_true, not_true_eq_false, not_false_eq_true, bI_t, bI_f, decide_eq_true_eq, reduceCtorEq]; done) | (simp [X_wI, c_6, c_25, c_82]; done) | simp_all) (by first | (simp only [X_wI, c_6, c_25, c_82, decide_true, decide_false, Bool.and_true, Bool.true_and, Bool.and_false, Bool.false_and, Bool.or_true, Bool.true_or, Bool.or_false, Bool.false_or, Bool.not_true, Bool.not_false, if_true, if_false, ite_true, ite_false, Bool.false_eq_true, not_true_eq_false, not_false_eq_true, bI_t, bI_f, decide_eq_true_eq, reduceCtorEq]; done) | (simp [X_wI, c_6, c_25, c_82]; done) | simp_all) (nI_1 n55)
          · refine zw_iload_7 X dX7_watch_85 ?_
            refine zw_istore_4 X dX7_watch_87 ?_
            refine zw_bipush (v := 10) X dX7_watch_89 bk_10 ?_
            refine zw_iload_5 X dX7_watch_91 ?_
            refine zw_imul X dX7_watch_93 ?_
            refine zw_iload_6 X dX7_watch_94 ?_
            refine zw_iadd X dX7_watch_96 ?_
            refine zw_istore_3 X dX7_watch_97 ?_
            refine zw_iinc_6_p1 X dX7_watch_98 ?_
            refine zw_goto (tgt := 55) X dX7_watch_101 (by decide) ?_
            refine zw_fg_7 ?_
            exact ih55 _ _ _ (by first | (simp only [X_wI, c_6, c_25, c_82, decide_true, decide_false, Bool.and_true, Bool.true_and, Bool.and_false, Bool.false_and, Bool.or_true, Bool.true_or, Bool.or_false, Bool.false_or, Bool.not_true, Bool.not_false, if_true, if_false, ite_true, ite_false, Bool.false_eq_true, not_true_eq_false, not_false_eq_true, bI_t, bI_f, decide_eq_true_eq, reduceCtorEq]; done) | (simp [X_wI, c_6, c_25, c_82]; done) | simp_all) (by first | (simp only [X_wI, c_6, c_25, c_82, decide_true, decide_false, Bool.and_true, Bool.true_and, Bool.and_false, Bool.false_and, Bool.or_true, Bool.true_or, Bool.or_false, Bool.false_or, Bool.not_true, Bool.not_false, if_true, if_false, ite_true, ite_false, Bool.false_eq_true, not_true_eq_false, not_false_eq_true, bI_t, bI_f, decide_eq_true_eq, reduceCtorEq]; done) | (simp [X_wI, c_6, c_25, c_82]; done) | simp_all) (nI_1 n55)
        · subst hv55_3 hv55_4 hv55_6
          refine zw_iload_6 X dX7_watch_55 ?_
          refine zw_iconst (v := 3) X dX7_watch_57 ik_3 ?_
          refine zw_icmpge_t (tgt := 104) X dX7_watch_58 (by decide) (by decide) ?_
          refine zw_iinc_5_p1 X dX7_watch_104 ?_
          refine zw_goto (tgt := 40) X dX7_watch_107 (by decide) ?_
          refine zw_fg_6 ?_
          refine zw_fg_7 ?_
          exact ih40 _ _ _ (by first | (simp only [X_wO, ha55, c_6, c_25, decide_true, decide_false, Bool.and_true, Bool.true_and, Bool.and_false, Bool.false_and, Bool.or_true, Bool.true_or, Bool.or_false, Bool.false_or, Bool.not_true, Bool.not_false, if_true, if_false, ite_true, ite_false, Bool.false_eq_true, not_true_eq_false, not_false_eq_true, bI_t, bI_f, decide_eq_true_eq, reduceCtorEq]; done) | (simp [X_wO, ha55, c_6, c_25]; done) | simp_all) (by first | (simp only [X_wO, ha55, c_6, c_25, decide_true, decide_false, Bool.and_true, Bool.true_and, Bool.and_false, Bool.false_and, Bool.or_true, Bool.true_or, Bool.or_false, Bool.false_or, Bool.not_true, Bool.not_false, if_true, if_false, ite_true, ite_false, Bool.false_eq_true, not_true_eq_false, not_false_eq_true, bI_t, bI_f, decide_eq_true_eq, reduceCtorEq]; done) | (simp [X_wO, ha55, c_6, c_25]; done) | simp_all) (nI_1 n40)
      · subst hv40_3 hv40_4 hv40_5
        refine zw_iload_5 X dX7_watch_40 ?_
        refine zw_aload_0 X dX7_watch_42 ?_
        refine zw_getR X dX7_watch_43 fl_X7_10 ck_X7 sh_0 rfl ?_
        refine zw_getI X dX7_watch_46 fl_X7_68 ck_X5 sh_1 rfl ?_
        refine zw_icmpge_t (tgt := 110) X dX7_watch_49 (by decide) (fun h => Nat.lt_irrefl _ ((clN_lt (Nat.le_refl _)).mp h)) ?_
        refine zw_iload_1 X dX7_watch_110 ?_
        refine zw_ifne (tgt := 118) X dX7_watch_111 (by decide) (fun c_111 => ?_) (fun c_111 => ?_)
        · refine zw_iload_4 X dX7_watch_118 ?_
          exact zw_iret X F dX7_watch_120 rfl (by simp only [X_watch, X_wA, ← ha40, c_6, c_25, c_111, decide_true, decide_false, Bool.and_true, Bool.true_and, Bool.and_false, Bool.false_and, Bool.or_true, Bool.true_or, Bool.or_false, Bool.false_or, Bool.not_true, Bool.not_false, if_true, if_false, ite_true, ite_false, Bool.false_eq_true, not_true_eq_false, not_false_eq_true, bI_t, bI_f, decide_eq_true_eq, reduceCtorEq]) (by first | (simp only [X_watch, c_6, c_25, c_111, decide_true, decide_false, Bool.and_true, Bool.true_and, Bool.and_false, Bool.false_and, Bool.or_true, Bool.true_or, Bool.or_false, Bool.false_or, Bool.not_true, Bool.not_false, if_true, if_false, ite_true, ite_false, Bool.false_eq_true, not_true_eq_false, not_false_eq_true, bI_t, bI_f, decide_eq_true_eq, reduceCtorEq]; done) | (simp [X_watch, c_6, c_25, c_111]; done) | simp_all)
        · refine zw_iload_3 X dX7_watch_114 ?_
          refine zw_goto (tgt := 120) X dX7_watch_115 (by decide) ?_
          exact zw_iret X F dX7_watch_120 rfl (by simp only [X_watch, X_wA, ← ha40, c_6, c_25, eq_true c_111, decide_true, decide_false, Bool.and_true, Bool.true_and, Bool.and_false, Bool.false_and, Bool.or_true, Bool.true_or, Bool.or_false, Bool.false_or, Bool.not_true, Bool.not_false, if_true, if_false, ite_true, ite_false, Bool.false_eq_true, not_true_eq_false, not_false_eq_true, bI_t, bI_f, decide_eq_true_eq, reduceCtorEq]) (by first | (simp only [X_watch, c_6, c_25, eq_true c_111, decide_true, decide_false, Bool.and_true, Bool.true_and, Bool.and_false, Bool.false_and, Bool.or_true, Bool.true_or, Bool.or_false, Bool.false_or, Bool.not_true, Bool.not_false, if_true, if_false, ite_true, ite_false, Bool.false_eq_true, not_true_eq_false, not_false_eq_true, bI_t, bI_f, decide_eq_true_eq, reduceCtorEq]; done) | (simp [X_watch, c_6, c_25, eq_true c_111]; done) | simp_all)
    · refine zw_bipush (v := -6) X dX7_watch_28 bk_m6 ?_
      exact zw_iret X F dX7_watch_30 rfl (by first | (simp only [X_watch, c_6, eq_true c_25, decide_true, decide_false, Bool.and_true, Bool.true_and, Bool.and_false, Bool.false_and, Bool.or_true, Bool.true_or, Bool.or_false, Bool.false_or, Bool.not_true, Bool.not_false, if_true, if_false, ite_true, ite_false, Bool.false_eq_true, not_true_eq_false, not_false_eq_true, bI_t, bI_f, decide_eq_true_eq, reduceCtorEq]; done) | (simp [X_watch, c_6, eq_true c_25]; done) | simp_all) (by first | (simp only [X_watch, c_6, eq_true c_25, decide_true, decide_false, Bool.and_true, Bool.true_and, Bool.and_false, Bool.false_and, Bool.or_true, Bool.true_or, Bool.or_false, Bool.false_or, Bool.not_true, Bool.not_false, if_true, if_false, ite_true, ite_false, Bool.false_eq_true, not_true_eq_false, not_false_eq_true, bI_t, bI_f, decide_eq_true_eq, reduceCtorEq]; done) | (simp [X_watch, c_6, eq_true c_25]; done) | simp_all)
  · refine zw_bipush (v := -2) X dX7_watch_9 bk_m2 ?_
    exact zw_iret X F dX7_watch_11 rfl (by first | (simp only [X_watch, c_6, decide_true, decide_false, Bool.and_true, Bool.true_and, Bool.and_false, Bool.false_and, Bool.or_true, Bool.true_or, Bool.or_false, Bool.false_or, Bool.not_true, Bool.not_false, if_true, if_false, ite_true, ite_false, Bool.false_eq_true, not_true_eq_false, not_false_eq_true, bI_t, bI_f, decide_eq_true_eq, reduceCtorEq]; done) | (simp [X_watch, c_6]; done) | simp_all) (by first | (simp only [X_watch, c_6, decide_true, decide_false, Bool.and_true, Bool.true_and, Bool.and_false, Bool.false_and, Bool.or_true, Bool.true_or, Bool.or_false, Bool.false_or, Bool.not_true, Bool.not_false, if_true, if_false, ite_true, ite_false, Bool.false_eq_true, not_true_eq_false, not_false_eq_true, bI_t, bI_f, decide_eq_true_eq, reduceCtorEq]; done) | (simp [X_watch, c_6]; done) | simp_all)
set_option maxRecDepth 20000 in
set_option maxHeartbeats 4000000 in
theorem t_X7_auction {σ : St} {a b w : Int32} : Ct MX7_auction [.ref 0, .int a, .int b, .int w] σ (some (.int (X_auc σ a b w).1)) ((X_auc σ a b w).2) := by
  refine ct_of (ls0 := [some (.ref 0), some (.int a), some (.int b), some (.int w)]) ok_MX7_auction rfl (Nat.le_of_ble_eq_true rfl) rfl ?_
  intro g X F
  refine zw_iload_1 X dX7_auction_0 ?_
  refine zw_iconst (v := 0) X dX7_auction_1 ik_0 ?_
  refine zw_bipush (v := 20) X dX7_auction_2 bk_20 ?_
  refine zw_cS_iiii X dX7_auction_4 lk_X7_64 ok_MX7_isWithin st_MX7_isWithin rm_X7_auction_X7_isWithin (Nat.le_of_ble_eq_true rfl) t_X7_isWithin ?_
  refine zw_ifeqB (tgt := 29) X dX7_auction_7 (by decide) (fun c_7 => ?_) (fun c_7 => ?_)
  · refine zw_bipush (v := -2) X dX7_auction_29 bk_m2 ?_
    exact zw_iret X F dX7_auction_31 rfl (by first | (simp only [X_auc, c_7, decide_true, decide_false, Bool.and_true, Bool.true_and, Bool.and_false, Bool.false_and, Bool.or_true, Bool.true_or, Bool.or_false, Bool.false_or, Bool.not_true, Bool.not_false, if_true, if_false, ite_true, ite_false, Bool.false_eq_true, not_true_eq_false, not_false_eq_true, bI_t, bI_f, decide_eq_true_eq, reduceCtorEq]; done) | (simp [X_auc, c_7]; done) | simp_all) (by first | (simp only [X_auc, c_7, decide_true, decide_false, Bool.and_true, Bool.true_and, Bool.and_false, Bool.false_and, Bool.or_true, Bool.true_or, Bool.or_false, Bool.false_or, Bool.not_true, Bool.not_false, if_true, if_false, ite_true, ite_false, Bool.false_eq_true, not_true_eq_false, not_false_eq_true, bI_t, bI_f, decide_eq_true_eq, reduceCtorEq]; done) | (simp [X_auc, c_7]; done) | simp_all)
  · refine zw_iload_2 X dX7_auction_10 ?_
    refine zw_iconst (v := 0) X dX7_auction_11 ik_0 ?_
    refine zw_bipush (v := 20) X dX7_auction_12 bk_20 ?_
    refine zw_cS_iiii X dX7_auction_14 lk_X7_64 ok_MX7_isWithin st_MX7_isWithin rm_X7_auction_X7_isWithin (Nat.le_of_ble_eq_true rfl) t_X7_isWithin ?_
    refine zw_ifeqB (tgt := 29) X dX7_auction_17 (by decide) (fun c_17 => ?_) (fun c_17 => ?_)
    · refine zw_bipush (v := -2) X dX7_auction_29 bk_m2 ?_
      exact zw_iret X F dX7_auction_31 rfl (by first | (simp only [X_auc, c_7, c_17, decide_true, decide_false, Bool.and_true, Bool.true_and, Bool.and_false, Bool.false_and, Bool.or_true, Bool.true_or, Bool.or_false, Bool.false_or, Bool.not_true, Bool.not_false, if_true, if_false, ite_true, ite_false, Bool.false_eq_true, not_true_eq_false, not_false_eq_true, bI_t, bI_f, decide_eq_true_eq, reduceCtorEq]; done) | (simp [X_auc, c_7, c_17]; done) | simp_all) (by first | (simp only [X_auc, c_7, c_17, decide_true, decide_false, Bool.and_true, Bool.true_and, Bool.and_false, Bool.false_and, Bool.or_true, Bool.true_or, Bool.or_false, Bool.false_or, Bool.not_true, Bool.not_false, if_true, if_false, ite_true, ite_false, Bool.false_eq_true, not_true_eq_false, not_false_eq_true, bI_t, bI_f, decide_eq_true_eq, reduceCtorEq]; done) | (simp [X_auc, c_7, c_17]; done) | simp_all)
    · refine zw_iload_3 X dX7_auction_20 ?_
      refine zw_iconst (v := 0) X dX7_auction_21 ik_0 ?_
      refine zw_iconst (v := 1) X dX7_auction_22 ik_1 ?_
      refine zw_cS_iiii X dX7_auction_23 lk_X7_64 ok_MX7_isWithin st_MX7_isWithin rm_X7_auction_X7_isWithin (Nat.le_of_ble_eq_true rfl) t_X7_isWithin ?_
      refine zw_ifneB (tgt := 32) X dX7_auction_26 (by decide) (fun c_26 => ?_) (fun c_26 => ?_)
      · refine zw_aload_0 X dX7_auction_32 ?_
        refine zw_getR X dX7_auction_33 fl_X7_50 ck_X7 sh_0 rfl ?_
        refine zw_iload_1 X dX7_auction_36 ?_
        refine zw_iload_2 X dX7_auction_37 ?_
        refine zw_cV_iiv X dX7_auction_38 lk_X7_205 ok_MX2_settle vi_MX2_settle rm_X7_auction_X2_settle sh_21 rfl (Nat.le_of_ble_eq_true rfl) t_X2_settle ?_
        refine zw_iload_3 X dX7_auction_41 ?_
        refine zw_ifne (tgt := 55) X dX7_auction_42 (by decide) (fun c_42 => ?_) (fun c_42 => ?_)
        · refine zw_aload_0 X dX7_auction_55 ?_
          refine zw_getR X dX7_auction_56 fl_X7_50 ck_X7 sh_0 rfl ?_
          refine zw_getI X dX7_auction_59 fl_X7_212 ck_X2 sh_21 rfl ?_
          exact zw_iret X F dX7_auction_62 rfl (by first | (simp only [X_auc, c_7, c_17, c_26, c_42, decide_true, decide_false, Bool.and_true, Bool.true_and, Bool.and_false, Bool.false_and, Bool.or_true, Bool.true_or, Bool.or_false, Bool.false_or, Bool.not_true, Bool.not_false, if_true, if_false, ite_true, ite_false, Bool.false_eq_true, not_true_eq_false, not_false_eq_true, bI_t, bI_f, decide_eq_true_eq, reduceCtorEq]; done) | (simp [X_auc, c_7, c_17, c_26, c_42]; done) | simp_all) (by first | (simp only [X_auc, c_7, c_17, c_26, c_42, decide_true, decide_false, Bool.and_true, Bool.true_and, Bool.and_false, Bool.false_and, Bool.or_true, Bool.true_or, Bool.or_false, Bool.false_or, Bool.not_true, Bool.not_false, if_true, if_false, ite_true, ite_false, Bool.false_eq_true, not_true_eq_false, not_false_eq_true, bI_t, bI_f, decide_eq_true_eq, reduceCtorEq]; done) | (simp [X_auc, c_7, c_17, c_26, c_42]; done) | simp_all)
        · refine zw_aload_0 X dX7_auction_45 ?_
          refine zw_getR X dX7_auction_46 fl_X7_50 ck_X7 sh_0 rfl ?_
          refine zw_getI X dX7_auction_49 fl_X7_209 ck_X2 sh_21 rfl ?_
          refine zw_goto (tgt := 62) X dX7_auction_52 (by decide) ?_
          exact zw_iret X F dX7_auction_62 rfl (by first | (simp only [X_auc, c_7, c_17, c_26, eq_true c_42, decide_true, decide_false, Bool.and_true, Bool.true_and, Bool.and_false, Bool.false_and, Bool.or_true, Bool.true_or, Bool.or_false, Bool.false_or, Bool.not_true, Bool.not_false, if_true, if_false, ite_true, ite_false, Bool.false_eq_true, not_true_eq_false, not_false_eq_true, bI_t, bI_f, decide_eq_true_eq, reduceCtorEq]; done) | (simp [X_auc, c_7, c_17, c_26, eq_true c_42]; done) | simp_all) (by first | (simp only [X_auc, c_7, c_17, c_26, eq_true c_42, decide_true, decide_false, Bool.and_true, Bool.true_and, Bool.and_false, Bool.false_and, Bool.or_true, Bool.true_or, Bool.or_false, Bool.false_or, Bool.not_true, Bool.not_false, if_true, if_false, ite_true, ite_false, Bool.false_eq_true, not_true_eq_false, not_false_eq_true, bI_t, bI_f, decide_eq_true_eq, reduceCtorEq]; done) | (simp [X_auc, c_7, c_17, c_26, eq_true c_42]; done) | simp_all)
      · refine zw_bipush (v := -2) X dX7_auction_29 bk_m2 ?_
        exact zw_iret X F dX7_auction_31 rfl (by first | (simp only [X_auc, c_7, c_17, c_26, decide_true, decide_false, Bool.and_true, Bool.true_and, Bool.and_false, Bool.false_and, Bool.or_true, Bool.true_or, Bool.or_false, Bool.false_or, Bool.not_true, Bool.not_false, if_true, if_false, ite_true, ite_false, Bool.false_eq_true, not_true_eq_false, not_false_eq_true, bI_t, bI_f, decide_eq_true_eq, reduceCtorEq]; done) | (simp [X_auc, c_7, c_17, c_26]; done) | simp_all) (by first | (simp only [X_auc, c_7, c_17, c_26, decide_true, decide_false, Bool.and_true, Bool.true_and, Bool.and_false, Bool.false_and, Bool.or_true, Bool.true_or, Bool.or_false, Bool.false_or, Bool.not_true, Bool.not_false, if_true, if_false, ite_true, ite_false, Bool.false_eq_true, not_true_eq_false, not_false_eq_true, bI_t, bI_f, decide_eq_true_eq, reduceCtorEq]; done) | (simp [X_auc, c_7, c_17, c_26]; done) | simp_all)
set_option maxRecDepth 20000 in
set_option maxHeartbeats 4000000 in
theorem t_X7_chancesToCough {σ : St} {c : Int32} : Ct MX7_chancesToCough [.ref 0, .int c] σ (some (.int ((X_chA σ c).1))) ((X_chA σ c).2) := by
  refine ct_of (ls0 := [some (.ref 0), some (.int c), none, none]) ok_MX7_chancesToCough rfl (Nat.le_of_ble_eq_true rfl) rfl ?_
  intro g X F
  refine zw_iconst (v := 0) X dX7_chancesToCough_0 ik_0 ?_
  refine zw_istore_2 X dX7_chancesToCough_1 ?_
  refine zw_aload_0 X dX7_chancesToCough_2 ?_
  refine zw_getR X dX7_chancesToCough_3 fl_X7_16 ck_X7 sh_0 rfl ?_
  refine zw_aload_0 X dX7_chancesToCough_6 ?_
  refine zw_getR X dX7_chancesToCough_7 fl_X7_10 ck_X7 sh_0 rfl ?_
  refine zw_cV_rv X dX7_chancesToCough_10 lk_X7_132 ok_MX5_copyFrom vi_MX5_copyFrom rm_X7_chancesToCough_X5_copyFrom sh_7 rfl (Nat.le_of_ble_eq_true rfl) (t_X5_copyFrom isT_7 isT_1) ?_
  refine zw_aload_0 X dX7_chancesToCough_13 ?_
  refine zw_getR X dX7_chancesToCough_14 fl_X7_10 ck_X7 sh_0 rfl ?_
  refine zw_getI X dX7_chancesToCough_17 fl_X7_72 ck_X5 sh_1 rfl ?_
  refine zw_istore_3 X dX7_chancesToCough_20 ?_
  refine zloop (α := Int32 × St) (S := fun n a => ∀ (v21_2 : Int32) (s21 : St) (v21_3 : Int32), v21_2 = a.1 → s21 = a.2 → v21_3 = σ 1 1 + nI n → ZW g 21 [some (.ref 0), some (.int c), some (.int v21_2), some (.int v21_3)] [] s21) (N := (cnt (σ 1 1) (σ 1 0))) (f := (X_chF σ c)) (a0 := ((0, tcopy σ 7 1) : Int32 × St)) (fun n21 a21 hn21 ha21 ih21 v21_2 s21 v21_3 hv21_2 hs21 hv21_3 => ?_) (fun a21 ha21 v21_2 s21 v21_3 hv21_2 hs21 hv21_3 => ?_) _ _ _ rfl rfl (by rw [tcopy71_1, nI_0, Int32.add_zero])
  · subst hv21_2 hs21 hv21_3
    have e1 : (a21.2) 1 = σ 1 := by rw [ha21]; exact chan_1 _ _ _
    refine zw_iload_3 X dX7_chancesToCough_21 ?_
    refine zw_aload_0 X dX7_chancesToCough_22 ?_
    refine zw_getR X dX7_chancesToCough_23 fl_X7_10 ck_X7 sh_0 rfl ?_
    refine zw_getI X dX7_chancesToCough_26 fl_X7_68 ck_X5 sh_1 rfl ?_
    refine zw_icmpge_f (tgt := 76) X dX7_chancesToCough_29 (by decide) (by rw [e1]; exact (cnt_lt (Nat.le_of_lt hn21)).mpr hn21) ?_
    refine zw_aload_0 X dX7_chancesToCough_32 ?_
    refine zw_getR X dX7_chancesToCough_33 fl_X7_16 ck_X7 sh_0 rfl ?_
    refine zw_iload_1 X dX7_chancesToCough_36 ?_
    refine zw_cV_ii X dX7_chancesToCough_37 lk_X7_142 ok_MX5_holderOf vi_MX5_holderOf rm_X7_chancesToCough_X5_holderOf sh_7 rfl (Nat.le_of_ble_eq_true rfl) (t_X5_holderOf isT_7) ?_
    refine zw_bipush (v := -6) X dX7_chancesToCough_40 bk_m6 ?_
    refine zw_icmpeq (tgt := 62) X dX7_chancesToCough_42 (by decide) (fun c_42 => ?_) (fun c_42 => ?_)
    · refine zw_aload_0 X dX7_chancesToCough_62 ?_
      refine zw_getR X dX7_chancesToCough_63 fl_X7_16 ck_X7 sh_0 rfl ?_
      refine zw_cV_ni X dX7_chancesToCough_66 lk_X7_152 ok_MX5_passMinute vi_MX5_passMinute rm_X7_chancesToCough_X5_passMinute sh_7 rfl (Nat.le_of_ble_eq_true rfl) (t_X5_passMinute isT_7) ?_
      refine zw_pop_i X dX7_chancesToCough_69 ?_
      refine zw_iinc_3_p1 X dX7_chancesToCough_70 ?_
      refine zw_goto (tgt := 21) X dX7_chancesToCough_73 (by decide) ?_
      exact ih21 _ _ _ (by first | (simp only [X_chF, eq_true c_42, decide_true, decide_false, Bool.and_true, Bool.true_and, Bool.and_false, Bool.false_and, Bool.or_true, Bool.true_or, Bool.or_false, Bool.false_or, Bool.not_true, Bool.not_false, if_true, if_false, ite_true, ite_false, Bool.false_eq_true, not_true_eq_false, not_false_eq_true, bI_t, bI_f, decide_eq_true_eq, reduceCtorEq]; done) | (simp [X_chF, eq_true c_42]; done) | simp_all) (by first | (simp only [X_chF, eq_true c_42, decide_true, decide_false, Bool.and_true, Bool.true_and, Bool.and_false, Bool.false_and, Bool.or_true, Bool.true_or, Bool.or_false, Bool.false_or, Bool.not_true, Bool.not_false, if_true, if_false, ite_true, ite_false, Bool.false_eq_true, not_true_eq_false, not_false_eq_true, bI_t, bI_f, decide_eq_true_eq, reduceCtorEq]; done) | (simp [X_chF, eq_true c_42]; done) | simp_all) (add_nI _ n21)
    · refine zw_iload_2 X dX7_chancesToCough_45 ?_
      refine zw_aload_0 X dX7_chancesToCough_46 ?_
      refine zw_getR X dX7_chancesToCough_47 fl_X7_16 ck_X7 sh_0 rfl ?_
      refine zw_iload_1 X dX7_chancesToCough_50 ?_
      refine zw_iload_3 X dX7_chancesToCough_51 ?_
      refine zw_cV_iii X dX7_chancesToCough_52 lk_X7_199 ok_MX5_ridersOf vi_MX5_ridersOf rm_X7_chancesToCough_X5_ridersOf sh_7 rfl (Nat.le_of_ble_eq_true rfl) (t_X5_ridersOf isT_7) ?_
      refine zw_cS_ii X dX7_chancesToCough_55 lk_X7_261 ok_MJ6_bitCount st_MJ6_bitCount rm_X7_chancesToCough_J6_bitCount (Nat.le_of_ble_eq_true rfl) t_J6_bitCount ?_
      refine zw_iconst (v := 1) X dX7_chancesToCough_58 ik_1 ?_
      refine zw_isub X dX7_chancesToCough_59 ?_
      refine zw_iadd X dX7_chancesToCough_60 ?_
      refine zw_istore_2 X dX7_chancesToCough_61 ?_
      refine zw_aload_0 X dX7_chancesToCough_62 ?_
      refine zw_getR X dX7_chancesToCough_63 fl_X7_16 ck_X7 sh_0 rfl ?_
      refine zw_cV_ni X dX7_chancesToCough_66 lk_X7_152 ok_MX5_passMinute vi_MX5_passMinute rm_X7_chancesToCough_X5_passMinute sh_7 rfl (Nat.le_of_ble_eq_true rfl) (t_X5_passMinute isT_7) ?_
      refine zw_pop_i X dX7_chancesToCough_69 ?_
      refine zw_iinc_3_p1 X dX7_chancesToCough_70 ?_
      refine zw_goto (tgt := 21) X dX7_chancesToCough_73 (by decide) ?_
      exact ih21 _ _ _ (by first | (simp only [X_chF, c_42, decide_true, decide_false, Bool.and_true, Bool.true_and, Bool.and_false, Bool.false_and, Bool.or_true, Bool.true_or, Bool.or_false, Bool.false_or, Bool.not_true, Bool.not_false, if_true, if_false, ite_true, ite_false, Bool.false_eq_true, not_true_eq_false, not_false_eq_true, bI_t, bI_f, decide_eq_true_eq, reduceCtorEq]; done) | (simp [X_chF, c_42]; done) | simp_all) (by first | (simp only [X_chF, c_42, decide_true, decide_false, Bool.and_true, Bool.true_and, Bool.and_false, Bool.false_and, Bool.or_true, Bool.true_or, Bool.or_false, Bool.false_or, Bool.not_true, Bool.not_false, if_true, if_false, ite_true, ite_false, Bool.false_eq_true, not_true_eq_false, not_false_eq_true, bI_t, bI_f, decide_eq_true_eq, reduceCtorEq]; done) | (simp [X_chF, c_42]; done) | simp_all) (add_nI _ n21)
  · subst hv21_2 hs21 hv21_3
    have e1 : (a21.2) 1 = σ 1 := by rw [ha21]; exact chan_1 _ _ _
    refine zw_iload_3 X dX7_chancesToCough_21 ?_
    refine zw_aload_0 X dX7_chancesToCough_22 ?_
    refine zw_getR X dX7_chancesToCough_23 fl_X7_10 ck_X7 sh_0 rfl ?_
    refine zw_getI X dX7_chancesToCough_26 fl_X7_68 ck_X5 sh_1 rfl ?_
    refine zw_icmpge_t (tgt := 76) X dX7_chancesToCough_29 (by decide) (by rw [e1]; exact fun h => Nat.lt_irrefl _ ((cnt_lt (Nat.le_refl _)).mp h)) ?_
    refine zw_iload_2 X dX7_chancesToCough_76 ?_
    exact zw_iret X F dX7_chancesToCough_77 rfl (by rw [X_chA, ← ha21]) (by rw [X_chA, ← ha21])
set_option maxRecDepth 20000 in
set_option maxHeartbeats 4000000 in
theorem t_X7_tenthsInLowestTerms {σ : St} {u p : Int32} : Ct MX7_tenthsInLowestTerms [.int u, .int p] σ (some (.int (X_ten u p))) (σ) := by
  refine ct_of (ls0 := [some (.int u), some (.int p), none, none]) ok_MX7_tenthsInLowestTerms rfl (Nat.le_of_ble_eq_true rfl) rfl ?_
  intro g X F
  refine zw_iload_0 X dX7_tenthsInLowestTerms_0 ?_
  refine zw_istore_2 X dX7_tenthsInLowestTerms_1 ?_
  refine zw_bipush (v := 10) X dX7_tenthsInLowestTerms_2 bk_10 ?_
  refine zw_istore_3 X dX7_tenthsInLowestTerms_4 ?_
  refine zw_iload_2 X dX7_tenthsInLowestTerms_5 ?_
  refine zw_iconst (v := 2) X dX7_tenthsInLowestTerms_6 ik_2 ?_
  refine zw_irem X dX7_tenthsInLowestTerms_7 (by decide) ?_
  refine zw_ifne (tgt := 19) X dX7_tenthsInLowestTerms_8 (by decide) (fun c_8 => ?_) (fun c_8 => ?_)
  · refine zw_iload_2 X dX7_tenthsInLowestTerms_19 ?_
    refine zw_iconst (v := 5) X dX7_tenthsInLowestTerms_20 ik_5 ?_
    refine zw_irem X dX7_tenthsInLowestTerms_21 (by decide) ?_
    refine zw_ifne (tgt := 33) X dX7_tenthsInLowestTerms_22 (by decide) (fun c_22 => ?_) (fun c_22 => ?_)
    · refine zw_iload_1 X dX7_tenthsInLowestTerms_33 ?_
      refine zw_ifne (tgt := 41) X dX7_tenthsInLowestTerms_34 (by decide) (fun c_34 => ?_) (fun c_34 => ?_)
      · refine zw_iload_3 X dX7_tenthsInLowestTerms_41 ?_
        exact zw_iret X F dX7_tenthsInLowestTerms_42 rfl (by first | (simp only [X_ten, X_tu, X_tl, rem, c_8, c_22, c_34, decide_true, decide_false, Bool.and_true, Bool.true_and, Bool.and_false, Bool.false_and, Bool.or_true, Bool.true_or, Bool.or_false, Bool.false_or, Bool.not_true, Bool.not_false, if_true, if_false, ite_true, ite_false, Bool.false_eq_true, not_true_eq_false, not_false_eq_true, bI_t, bI_f, decide_eq_true_eq, reduceCtorEq]; done) | (simp [X_ten, X_tu, X_tl, rem, c_8, c_22, c_34]; done) | simp_all) (rfl)
      · refine zw_iload_2 X dX7_tenthsInLowestTerms_37 ?_
        refine zw_goto (tgt := 42) X dX7_tenthsInLowestTerms_38 (by decide) ?_
        exact zw_iret X F dX7_tenthsInLowestTerms_42 rfl (by first | (simp only [X_ten, X_tu, X_tl, rem, c_8, c_22, eq_true c_34, decide_true, decide_false, Bool.and_true, Bool.true_and, Bool.and_false, Bool.false_and, Bool.or_true, Bool.true_or, Bool.or_false, Bool.false_or, Bool.not_true, Bool.not_false, if_true, if_false, ite_true, ite_false, Bool.false_eq_true, not_true_eq_false, not_false_eq_true, bI_t, bI_f, decide_eq_true_eq, reduceCtorEq]; done) | (simp [X_ten, X_tu, X_tl, rem, c_8, c_22, eq_true c_34]; done) | simp_all) (rfl)
    · refine zw_iload_2 X dX7_tenthsInLowestTerms_25 ?_
      refine zw_iconst (v := 5) X dX7_tenthsInLowestTerms_26 ik_5 ?_
      refine zw_idiv X dX7_tenthsInLowestTerms_27 (by decide) ?_
      refine zw_istore_2 X dX7_tenthsInLowestTerms_28 ?_
      refine zw_iload_3 X dX7_tenthsInLowestTerms_29 ?_
      refine zw_iconst (v := 5) X dX7_tenthsInLowestTerms_30 ik_5 ?_
      refine zw_idiv X dX7_tenthsInLowestTerms_31 (by decide) ?_
      refine zw_istore_3 X dX7_tenthsInLowestTerms_32 ?_
      refine zw_iload_1 X dX7_tenthsInLowestTerms_33 ?_
      refine zw_ifne (tgt := 41) X dX7_tenthsInLowestTerms_34 (by decide) (fun c_34 => ?_) (fun c_34 => ?_)
      · refine zw_iload_3 X dX7_tenthsInLowestTerms_41 ?_
        exact zw_iret X F dX7_tenthsInLowestTerms_42 rfl (by first | (simp only [X_ten, X_tu, X_tl, rem, c_8, eq_true c_22, c_34, decide_true, decide_false, Bool.and_true, Bool.true_and, Bool.and_false, Bool.false_and, Bool.or_true, Bool.true_or, Bool.or_false, Bool.false_or, Bool.not_true, Bool.not_false, if_true, if_false, ite_true, ite_false, Bool.false_eq_true, not_true_eq_false, not_false_eq_true, bI_t, bI_f, decide_eq_true_eq, reduceCtorEq]; done) | (simp [X_ten, X_tu, X_tl, rem, c_8, eq_true c_22, c_34]; done) | simp_all) (rfl)
      · refine zw_iload_2 X dX7_tenthsInLowestTerms_37 ?_
        refine zw_goto (tgt := 42) X dX7_tenthsInLowestTerms_38 (by decide) ?_
        exact zw_iret X F dX7_tenthsInLowestTerms_42 rfl (by first | (simp only [X_ten, X_tu, X_tl, rem, c_8, eq_true c_22, eq_true c_34, decide_true, decide_false, Bool.and_true, Bool.true_and, Bool.and_false, Bool.false_and, Bool.or_true, Bool.true_or, Bool.or_false, Bool.false_or, Bool.not_true, Bool.not_false, if_true, if_false, ite_true, ite_false, Bool.false_eq_true, not_true_eq_false, not_false_eq_true, bI_t, bI_f, decide_eq_true_eq, reduceCtorEq]; done) | (simp [X_ten, X_tu, X_tl, rem, c_8, eq_true c_22, eq_true c_34]; done) | simp_all) (rfl)
  · refine zw_iload_2 X dX7_tenthsInLowestTerms_11 ?_
    refine zw_iconst (v := 2) X dX7_tenthsInLowestTerms_12 ik_2 ?_
    refine zw_idiv X dX7_tenthsInLowestTerms_13 (by decide) ?_
    refine zw_istore_2 X dX7_tenthsInLowestTerms_14 ?_
    refine zw_iload_3 X dX7_tenthsInLowestTerms_15 ?_
    refine zw_iconst (v := 2) X dX7_tenthsInLowestTerms_16 ik_2 ?_
    refine zw_idiv X dX7_tenthsInLowestTerms_17 (by decide) ?_
    refine zw_istore_3 X dX7_tenthsInLowestTerms_18 ?_
    refine zw_iload_2 X dX7_tenthsInLowestTerms_19 ?_
    refine zw_iconst (v := 5) X dX7_tenthsInLowestTerms_20 ik_5 ?_
    refine zw_irem X dX7_tenthsInLowestTerms_21 (by decide) ?_
    refine zw_ifne (tgt := 33) X dX7_tenthsInLowestTerms_22 (by decide) (fun c_22 => ?_) (fun c_22 => ?_)
    · refine zw_iload_1 X dX7_tenthsInLowestTerms_33 ?_
      refine zw_ifne (tgt := 41) X dX7_tenthsInLowestTerms_34 (by decide) (fun c_34 => ?_) (fun c_34 => ?_)
      · refine zw_iload_3 X dX7_tenthsInLowestTerms_41 ?_
        exact zw_iret X F dX7_tenthsInLowestTerms_42 rfl (by first | (simp only [X_ten, X_tu, X_tl, rem, eq_true c_8, c_22, c_34, decide_true, decide_false, Bool.and_true, Bool.true_and, Bool.and_false, Bool.false_and, Bool.or_true, Bool.true_or, Bool.or_false, Bool.false_or, Bool.not_true, Bool.not_false, if_true, if_false, ite_true, ite_false, Bool.false_eq_true, not_true_eq_false, not_false_eq_true, bI_t, bI_f, decide_eq_true_eq, reduceCtorEq]; done) | (simp [X_ten, X_tu, X_tl, rem, eq_true c_8, c_22, c_34]; done) | simp_all) (rfl)
      · refine zw_iload_2 X dX7_tenthsInLowestTerms_37 ?_
        refine zw_goto (tgt := 42) X dX7_tenthsInLowestTerms_38 (by decide) ?_
        exact zw_iret X F dX7_tenthsInLowestTerms_42 rfl (by first | (simp only [X_ten, X_tu, X_tl, rem, eq_true c_8, c_22, eq_true c_34, decide_true, decide_false, Bool.and_true, Bool.true_and, Bool.and_false, Bool.false_and, Bool.or_true, Bool.true_or, Bool.or_false, Bool.false_or, Bool.not_true, Bool.not_false, if_true, if_false, ite_true, ite_false, Bool.false_eq_true, not_true_eq_false, not_false_eq_true, bI_t, bI_f, decide_eq_true_eq, reduceCtorEq]; done) | (simp [X_ten, X_tu, X_tl, rem, eq_true c_8, c_22, eq_true c_34]; done) | simp_all) (rfl)
    · refine zw_iload_2 X dX7_tenthsInLowestTerms_25 ?_
      refine zw_iconst (v := 5) X dX7_tenthsInLowestTerms_26 ik_5 ?_
      refine zw_idiv X dX7_tenthsInLowestTerms_27 (by decide) ?_
      refine zw_istore_2 X dX7_tenthsInLowestTerms_28 ?_
      refine zw_iload_3 X dX7_tenthsInLowestTerms_29 ?_
      refine zw_iconst (v := 5) X dX7_tenthsInLowestTerms_30 ik_5 ?_
      refine zw_idiv X dX7_tenthsInLowestTerms_31 (by decide) ?_
      refine zw_istore_3 X dX7_tenthsInLowestTerms_32 ?_
      refine zw_iload_1 X dX7_tenthsInLowestTerms_33 ?_
      refine zw_ifne (tgt := 41) X dX7_tenthsInLowestTerms_34 (by decide) (fun c_34 => ?_) (fun c_34 => ?_)
      · refine zw_iload_3 X dX7_tenthsInLowestTerms_41 ?_
        exact zw_iret X F dX7_tenthsInLowestTerms_42 rfl (by first | (simp only [X_ten, X_tu, X_tl, rem, eq_true c_8, eq_true c_22, c_34, decide_true, decide_false, Bool.and_true, Bool.true_and, Bool.and_false, Bool.false_and, Bool.or_true, Bool.true_or, Bool.or_false, Bool.false_or, Bool.not_true, Bool.not_false, if_true, if_false, ite_true, ite_false, Bool.false_eq_true, not_true_eq_false, not_false_eq_true, bI_t, bI_f, decide_eq_true_eq, reduceCtorEq]; done) | (simp [X_ten, X_tu, X_tl, rem, eq_true c_8, eq_true c_22, c_34]; done) | simp_all) (rfl)
      · refine zw_iload_2 X dX7_tenthsInLowestTerms_37 ?_
        refine zw_goto (tgt := 42) X dX7_tenthsInLowestTerms_38 (by decide) ?_
        exact zw_iret X F dX7_tenthsInLowestTerms_42 rfl (by first | (simp only [X_ten, X_tu, X_tl, rem, eq_true c_8, eq_true c_22, eq_true c_34, decide_true, decide_false, Bool.and_true, Bool.true_and, Bool.and_false, Bool.false_and, Bool.or_true, Bool.true_or, Bool.or_false, Bool.false_or, Bool.not_true, Bool.not_false, if_true, if_false, ite_true, ite_false, Bool.false_eq_true, not_true_eq_false, not_false_eq_true, bI_t, bI_f, decide_eq_true_eq, reduceCtorEq]; done) | (simp [X_ten, X_tu, X_tl, rem, eq_true c_8, eq_true c_22, eq_true c_34]; done) | simp_all) (rfl)
set_option maxRecDepth 20000 in
set_option maxHeartbeats 4000000 in
theorem t_X7_coughs {σ : St} {c t p : Int32} : Ct MX7_coughs [.ref 0, .int c, .int t, .int p] σ (some (.long (X_cou σ c t p).1)) ((X_cou σ c t p).2) := by
  refine ct_of (ls0 := [some (.ref 0), some (.int c), some (.int t), some (.int p)]) ok_MX7_coughs rfl (Nat.le_of_ble_eq_true rfl) rfl ?_
  intro g X F
  refine zw_iload_1 X dX7_coughs_0 ?_
  refine zw_cS_ii X dX7_coughs_1 lk_X7_97 ok_MX7_isCompartment st_MX7_isCompartment rm_X7_coughs_X7_isCompartment (Nat.le_of_ble_eq_true rfl) t_X7_isCompartment ?_
  refine zw_ifneB (tgt := 11) X dX7_coughs_4 (by decide) (fun c_4 => ?_) (fun c_4 => ?_)
  · refine zw_iload_2 X dX7_coughs_11 ?_
    refine zw_iconst (v := 0) X dX7_coughs_12 ik_0 ?_
    refine zw_bipush (v := 10) X dX7_coughs_13 bk_10 ?_
    refine zw_cS_iiii X dX7_coughs_15 lk_X7_64 ok_MX7_isWithin st_MX7_isWithin rm_X7_coughs_X7_isWithin (Nat.le_of_ble_eq_true rfl) t_X7_isWithin ?_
    refine zw_ifeqB (tgt := 30) X dX7_coughs_18 (by decide) (fun c_18 => ?_) (fun c_18 => ?_)
    · refine zw_ldc2 X dX7_coughs_30 kl_X7_217 ?_
      exact zw_lret X F dX7_coughs_33 rfl (by first | (simp only [X_cou, c_4, c_18, decide_true, decide_false, Bool.and_true, Bool.true_and, Bool.and_false, Bool.false_and, Bool.or_true, Bool.true_or, Bool.or_false, Bool.false_or, Bool.not_true, Bool.not_false, if_true, if_false, ite_true, ite_false, Bool.false_eq_true, not_true_eq_false, not_false_eq_true, bI_t, bI_f, decide_eq_true_eq, reduceCtorEq]; done) | (simp [X_cou, c_4, c_18]; done) | simp_all) (by first | (simp only [X_cou, c_4, c_18, decide_true, decide_false, Bool.and_true, Bool.true_and, Bool.and_false, Bool.false_and, Bool.or_true, Bool.true_or, Bool.or_false, Bool.false_or, Bool.not_true, Bool.not_false, if_true, if_false, ite_true, ite_false, Bool.false_eq_true, not_true_eq_false, not_false_eq_true, bI_t, bI_f, decide_eq_true_eq, reduceCtorEq]; done) | (simp [X_cou, c_4, c_18]; done) | simp_all)
    · refine zw_iload_3 X dX7_coughs_21 ?_
      refine zw_iconst (v := 0) X dX7_coughs_22 ik_0 ?_
      refine zw_iconst (v := 1) X dX7_coughs_23 ik_1 ?_
      refine zw_cS_iiii X dX7_coughs_24 lk_X7_64 ok_MX7_isWithin st_MX7_isWithin rm_X7_coughs_X7_isWithin (Nat.le_of_ble_eq_true rfl) t_X7_isWithin ?_
      refine zw_ifneB (tgt := 34) X dX7_coughs_27 (by decide) (fun c_27 => ?_) (fun c_27 => ?_)
      · refine zw_aload_0 X dX7_coughs_34 ?_
        refine zw_getR X dX7_coughs_35 fl_X7_10 ck_X7 sh_0 rfl ?_
        refine zw_getI X dX7_coughs_38 fl_X7_107 ck_X5 sh_1 rfl ?_
        refine zw_iload_2 X dX7_coughs_41 ?_
        refine zw_imul X dX7_coughs_42 ?_
        refine zw_aload_0 X dX7_coughs_43 ?_
        refine zw_iload_1 X dX7_coughs_44 ?_
        refine zw_cV_ii X dX7_coughs_45 lk_X7_219 ok_MX7_chancesToCough vi_MX7_chancesToCough rm_X7_coughs_X7_chancesToCough sh_0 rfl (Nat.le_of_ble_eq_true rfl) t_X7_chancesToCough ?_
        refine zw_imul X dX7_coughs_48 ?_
        refine zw_iload_3 X dX7_coughs_49 ?_
        refine zw_cS_iii X dX7_coughs_50 lk_X7_222 ok_MX7_tenthsInLowestTerms st_MX7_tenthsInLowestTerms rm_X7_coughs_X7_tenthsInLowestTerms (Nat.le_of_ble_eq_true rfl) t_X7_tenthsInLowestTerms ?_
        refine zw_i2l X dX7_coughs_53 ?_
        exact zw_lret X F dX7_coughs_54 rfl (by first | (simp only [X_cou, c_4, c_18, c_27, decide_true, decide_false, Bool.and_true, Bool.true_and, Bool.and_false, Bool.false_and, Bool.or_true, Bool.true_or, Bool.or_false, Bool.false_or, Bool.not_true, Bool.not_false, if_true, if_false, ite_true, ite_false, Bool.false_eq_true, not_true_eq_false, not_false_eq_true, bI_t, bI_f, decide_eq_true_eq, reduceCtorEq]; done) | (simp [X_cou, c_4, c_18, c_27]; done) | simp_all) (by first | (simp only [X_cou, c_4, c_18, c_27, decide_true, decide_false, Bool.and_true, Bool.true_and, Bool.and_false, Bool.false_and, Bool.or_true, Bool.true_or, Bool.or_false, Bool.false_or, Bool.not_true, Bool.not_false, if_true, if_false, ite_true, ite_false, Bool.false_eq_true, not_true_eq_false, not_false_eq_true, bI_t, bI_f, decide_eq_true_eq, reduceCtorEq]; done) | (simp [X_cou, c_4, c_18, c_27]; done) | simp_all)
      · refine zw_ldc2 X dX7_coughs_30 kl_X7_217 ?_
        exact zw_lret X F dX7_coughs_33 rfl (by first | (simp only [X_cou, c_4, c_18, c_27, decide_true, decide_false, Bool.and_true, Bool.true_and, Bool.and_false, Bool.false_and, Bool.or_true, Bool.true_or, Bool.or_false, Bool.false_or, Bool.not_true, Bool.not_false, if_true, if_false, ite_true, ite_false, Bool.false_eq_true, not_true_eq_false, not_false_eq_true, bI_t, bI_f, decide_eq_true_eq, reduceCtorEq]; done) | (simp [X_cou, c_4, c_18, c_27]; done) | simp_all) (by first | (simp only [X_cou, c_4, c_18, c_27, decide_true, decide_false, Bool.and_true, Bool.true_and, Bool.and_false, Bool.false_and, Bool.or_true, Bool.true_or, Bool.or_false, Bool.false_or, Bool.not_true, Bool.not_false, if_true, if_false, ite_true, ite_false, Bool.false_eq_true, not_true_eq_false, not_false_eq_true, bI_t, bI_f, decide_eq_true_eq, reduceCtorEq]; done) | (simp [X_cou, c_4, c_18, c_27]; done) | simp_all)
  · refine zw_ldc2 X dX7_coughs_7 kl_X7_215 ?_
    exact zw_lret X F dX7_coughs_10 rfl (by first | (simp only [X_cou, c_4, decide_true, decide_false, Bool.and_true, Bool.true_and, Bool.and_false, Bool.false_and, Bool.or_true, Bool.true_or, Bool.or_false, Bool.false_or, Bool.not_true, Bool.not_false, if_true, if_false, ite_true, ite_false, Bool.false_eq_true, not_true_eq_false, not_false_eq_true, bI_t, bI_f, decide_eq_true_eq, reduceCtorEq]; done) | (simp [X_cou, c_4]; done) | simp_all) (by first | (simp only [X_cou, c_4, decide_true, decide_false, Bool.and_true, Bool.true_and, Bool.and_false, Bool.false_and, Bool.or_true, Bool.true_or, Bool.or_false, Bool.false_or, Bool.not_true, Bool.not_false, if_true, if_false, ite_true, ite_false, Bool.false_eq_true, not_true_eq_false, not_false_eq_true, bI_t, bI_f, decide_eq_true_eq, reduceCtorEq]; done) | (simp [X_cou, c_4]; done) | simp_all)
set_option maxRecDepth 20000 in
set_option maxHeartbeats 4000000 in
theorem t_X7_year {σ : St} {s m w : Int32} : Ct MX7_year [.ref 0, .int s, .int m, .int w] σ (some (.int (X_year σ s m w).1)) ((X_year σ s m w).2) := by
  refine ct_of (ls0 := [some (.ref 0), some (.int s), some (.int m), some (.int w), none, none]) ok_MX7_year rfl (Nat.le_of_ble_eq_true rfl) rfl ?_
  intro g X F
  refine zw_iload_1 X dX7_year_0 ?_
  refine zw_iconst (v := 0) X dX7_year_1 ik_0 ?_
  refine zw_sipush (v := 9999) X dX7_year_2 sk_9999 ?_
  refine zw_cS_iiii X dX7_year_5 lk_X7_64 ok_MX7_isWithin st_MX7_isWithin rm_X7_year_X7_isWithin (Nat.le_of_ble_eq_true rfl) t_X7_isWithin ?_
  refine zw_ifeqB (tgt := 30) X dX7_year_8 (by decide) (fun c_8 => ?_) (fun c_8 => ?_)
  · refine zw_bipush (v := -2) X dX7_year_30 bk_m2 ?_
    exact zw_iret X F dX7_year_32 rfl (by first | (simp only [X_year, c_8, decide_true, decide_false, Bool.and_true, Bool.true_and, Bool.and_false, Bool.false_and, Bool.or_true, Bool.true_or, Bool.or_false, Bool.false_or, Bool.not_true, Bool.not_false, if_true, if_false, ite_true, ite_false, Bool.false_eq_true, not_true_eq_false, not_false_eq_true, bI_t, bI_f, decide_eq_true_eq, reduceCtorEq]; done) | (simp [X_year, c_8]; done) | simp_all) (by first | (simp only [X_year, c_8, decide_true, decide_false, Bool.and_true, Bool.true_and, Bool.and_false, Bool.false_and, Bool.or_true, Bool.true_or, Bool.or_false, Bool.false_or, Bool.not_true, Bool.not_false, if_true, if_false, ite_true, ite_false, Bool.false_eq_true, not_true_eq_false, not_false_eq_true, bI_t, bI_f, decide_eq_true_eq, reduceCtorEq]; done) | (simp [X_year, c_8]; done) | simp_all)
  · refine zw_iload_2 X dX7_year_11 ?_
    refine zw_iconst (v := 1) X dX7_year_12 ik_1 ?_
    refine zw_bipush (v := 99) X dX7_year_13 bk_99 ?_
    refine zw_cS_iiii X dX7_year_15 lk_X7_64 ok_MX7_isWithin st_MX7_isWithin rm_X7_year_X7_isWithin (Nat.le_of_ble_eq_true rfl) t_X7_isWithin ?_
    refine zw_ifeqB (tgt := 30) X dX7_year_18 (by decide) (fun c_18 => ?_) (fun c_18 => ?_)
    · refine zw_bipush (v := -2) X dX7_year_30 bk_m2 ?_
      exact zw_iret X F dX7_year_32 rfl (by first | (simp only [X_year, c_8, c_18, decide_true, decide_false, Bool.and_true, Bool.true_and, Bool.and_false, Bool.false_and, Bool.or_true, Bool.true_or, Bool.or_false, Bool.false_or, Bool.not_true, Bool.not_false, if_true, if_false, ite_true, ite_false, Bool.false_eq_true, not_true_eq_false, not_false_eq_true, bI_t, bI_f, decide_eq_true_eq, reduceCtorEq]; done) | (simp [X_year, c_8, c_18]; done) | simp_all) (by first | (simp only [X_year, c_8, c_18, decide_true, decide_false, Bool.and_true, Bool.true_and, Bool.and_false, Bool.false_and, Bool.or_true, Bool.true_or, Bool.or_false, Bool.false_or, Bool.not_true, Bool.not_false, if_true, if_false, ite_true, ite_false, Bool.false_eq_true, not_true_eq_false, not_false_eq_true, bI_t, bI_f, decide_eq_true_eq, reduceCtorEq]; done) | (simp [X_year, c_8, c_18]; done) | simp_all)
    · refine zw_iload_3 X dX7_year_21 ?_
      refine zw_iconst (v := 0) X dX7_year_22 ik_0 ?_
      refine zw_iconst (v := 2) X dX7_year_23 ik_2 ?_
      refine zw_cS_iiii X dX7_year_24 lk_X7_64 ok_MX7_isWithin st_MX7_isWithin rm_X7_year_X7_isWithin (Nat.le_of_ble_eq_true rfl) t_X7_isWithin ?_
      refine zw_ifneB (tgt := 33) X dX7_year_27 (by decide) (fun c_27 => ?_) (fun c_27 => ?_)
      · refine zw_aload_0 X dX7_year_33 ?_
        refine zw_getR X dX7_year_34 fl_X7_16 ck_X7 sh_0 rfl ?_
        refine zw_aload_0 X dX7_year_37 ?_
        refine zw_getR X dX7_year_38 fl_X7_10 ck_X7 sh_0 rfl ?_
        refine zw_cV_rv X dX7_year_41 lk_X7_132 ok_MX5_copyFrom vi_MX5_copyFrom rm_X7_year_X5_copyFrom sh_7 rfl (Nat.le_of_ble_eq_true rfl) (t_X5_copyFrom isT_7 isT_1) ?_
        refine zw_iload_1 X dX7_year_44 ?_
        refine zw_istore_4 X dX7_year_45 ?_
        refine zw_iconst (v := 0) X dX7_year_47 ik_0 ?_
        refine zw_istore_5 X dX7_year_48 ?_
        refine zloop (α := Int32 × St) (S := fun n a => ∀ (v50_4 : Int32) (s50 : St) (v50_5 : Int32), v50_4 = a.1 → s50 = a.2 → v50_5 = nI n → ZW g 50 [some (.ref 0), some (.int s), some (.int m), some (.int w), some (.int v50_4), some (.int v50_5)] [] s50) (N := (clN m)) (f := X_yF) (a0 := ((s, tcopy σ 7 1) : Int32 × St)) (fun n50 a50 hn50 ha50 ih50 v50_4 s50 v50_5 hv50_4 hs50 hv50_5 => ?_) (fun a50 ha50 v50_4 s50 v50_5 hv50_4 hs50 hv50_5 => ?_) _ _ _ rfl rfl rfl
        · subst hv50_4 hs50 hv50_5
          refine zw_iload_5 X dX7_year_50 ?_
          refine zw_iload_2 X dX7_year_52 ?_
          refine zw_icmpge_f (tgt := 84) X dX7_year_53 (by decide) ((clN_lt (Nat.le_of_lt hn50)).mpr hn50) ?_
          refine zw_bipush (v := 75) X dX7_year_56 bk_75 ?_
          refine zw_iload_4 X dX7_year_58 ?_
          refine zw_imul X dX7_year_60 ?_
          refine zw_bipush (v := 74) X dX7_year_61 bk_74 ?_
          refine zw_iadd X dX7_year_63 ?_
          refine zw_ldc X dX7_year_64 kc_X7_225 ?_
          refine zw_irem X dX7_year_66 (by decide) ?_
          refine zw_istore_4 X dX7_year_67 ?_
          refine zw_aload_0 X dX7_year_69 ?_
          refine zw_getR X dX7_year_70 fl_X7_16 ck_X7 sh_0 rfl ?_
          refine zw_iload_4 X dX7_year_73 ?_
          refine zw_cV_iv X dX7_year_75 lk_X7_226 ok_MX5_doDrawn vi_MX5_doDrawn rm_X7_year_X5_doDrawn sh_7 rfl (Nat.le_of_ble_eq_true rfl) (t_X5_doDrawn isT_7) ?_
          refine zw_iinc_5_p1 X dX7_year_78 ?_
          refine zw_goto (tgt := 50) X dX7_year_81 (by decide) ?_
          exact ih50 _ _ _ (by first | (simp only [X_yF, rem, c_8, c_18, c_27, decide_true, decide_false, Bool.and_true, Bool.true_and, Bool.and_false, Bool.false_and, Bool.or_true, Bool.true_or, Bool.or_false, Bool.false_or, Bool.not_true, Bool.not_false, if_true, if_false, ite_true, ite_false, Bool.false_eq_true, not_true_eq_false, not_false_eq_true, bI_t, bI_f, decide_eq_true_eq, reduceCtorEq]; done) | (simp [X_yF, rem, c_8, c_18, c_27]; done) | simp_all) (by first | (simp only [X_yF, rem, c_8, c_18, c_27, decide_true, decide_false, Bool.and_true, Bool.true_and, Bool.and_false, Bool.false_and, Bool.or_true, Bool.true_or, Bool.or_false, Bool.false_or, Bool.not_true, Bool.not_false, if_true, if_false, ite_true, ite_false, Bool.false_eq_true, not_true_eq_false, not_false_eq_true, bI_t, bI_f, decide_eq_true_eq, reduceCtorEq]; done) | (simp [X_yF, rem, c_8, c_18, c_27]; done) | simp_all) (nI_1 n50)
        · subst hv50_4 hs50 hv50_5
          refine zw_iload_5 X dX7_year_50 ?_
          refine zw_iload_2 X dX7_year_52 ?_
          refine zw_icmpge_t (tgt := 84) X dX7_year_53 (by decide) (fun h => Nat.lt_irrefl _ ((clN_lt (Nat.le_refl _)).mp h)) ?_
          refine zw_iload_3 X dX7_year_84 ?_
          refine zw_ifne (tgt := 104) X dX7_year_85 (by decide) (fun c_85 => ?_) (fun c_85 => ?_)
          · refine zw_iload_3 X dX7_year_104 ?_
            refine zw_iconst (v := 1) X dX7_year_105 ik_1 ?_
            refine zw_icmpne (tgt := 119) X dX7_year_106 (by decide) (fun c_106 => ?_) (fun c_106 => ?_)
            · refine zw_aload_0 X dX7_year_119 ?_
              refine zw_getR X dX7_year_120 fl_X7_16 ck_X7 sh_0 rfl ?_
              refine zw_getI X dX7_year_123 fl_X7_72 ck_X5 sh_7 rfl ?_
              exact zw_iret X F dX7_year_126 rfl (by simp only [X_year, X_yA, ← ha50, c_8, c_18, c_27, c_85, c_106, decide_true, decide_false, Bool.and_true, Bool.true_and, Bool.and_false, Bool.false_and, Bool.or_true, Bool.true_or, Bool.or_false, Bool.false_or, Bool.not_true, Bool.not_false, if_true, if_false, ite_true, ite_false, Bool.false_eq_true, not_true_eq_false, not_false_eq_true, bI_t, bI_f, decide_eq_true_eq, reduceCtorEq]) (by simp only [X_year, X_yA, ← ha50, c_8, c_18, c_27, c_85, c_106, decide_true, decide_false, Bool.and_true, Bool.true_and, Bool.and_false, Bool.false_and, Bool.or_true, Bool.true_or, Bool.or_false, Bool.false_or, Bool.not_true, Bool.not_false, if_true, if_false, ite_true, ite_false, Bool.false_eq_true, not_true_eq_false, not_false_eq_true, bI_t, bI_f, decide_eq_true_eq, reduceCtorEq])
            · refine zw_aload_0 X dX7_year_109 ?_
              refine zw_getR X dX7_year_110 fl_X7_16 ck_X7 sh_0 rfl ?_
              refine zw_getI X dX7_year_113 fl_X7_139 ck_X5 sh_7 rfl ?_
              refine zw_goto (tgt := 126) X dX7_year_116 (by decide) ?_
              exact zw_iret X F dX7_year_126 rfl (by simp only [X_year, X_yA, ← ha50, c_8, c_18, c_27, c_85, eq_true c_106, decide_true, decide_false, Bool.and_true, Bool.true_and, Bool.and_false, Bool.false_and, Bool.or_true, Bool.true_or, Bool.or_false, Bool.false_or, Bool.not_true, Bool.not_false, if_true, if_false, ite_true, ite_false, Bool.false_eq_true, not_true_eq_false, not_false_eq_true, bI_t, bI_f, decide_eq_true_eq, reduceCtorEq]) (by simp only [X_year, X_yA, ← ha50, c_8, c_18, c_27, c_85, eq_true c_106, decide_true, decide_false, Bool.and_true, Bool.true_and, Bool.and_false, Bool.false_and, Bool.or_true, Bool.true_or, Bool.or_false, Bool.false_or, Bool.not_true, Bool.not_false, if_true, if_false, ite_true, ite_false, Bool.false_eq_true, not_true_eq_false, not_false_eq_true, bI_t, bI_f, decide_eq_true_eq, reduceCtorEq])
          · refine zw_aload_0 X dX7_year_88 ?_
            refine zw_getR X dX7_year_89 fl_X7_16 ck_X7 sh_0 rfl ?_
            refine zw_getI X dX7_year_92 fl_X7_136 ck_X5 sh_7 rfl ?_
            refine zw_aload_0 X dX7_year_95 ?_
            refine zw_getR X dX7_year_96 fl_X7_10 ck_X7 sh_0 rfl ?_
            refine zw_getI X dX7_year_99 fl_X7_136 ck_X5 sh_1 rfl ?_
            refine zw_isub X dX7_year_102 ?_
            exact zw_iret X F dX7_year_103 rfl (by simp only [X_year, X_yA, ← ha50, c_8, c_18, c_27, eq_true c_85, decide_true, decide_false, Bool.and_true, Bool.true_and, Bool.and_false, Bool.false_and, Bool.or_true, Bool.true_or, Bool.or_false, Bool.false_or, Bool.not_true, Bool.not_false, if_true, if_false, ite_true, ite_false, Bool.false_eq_true, not_true_eq_false, not_false_eq_true, bI_t, bI_f, decide_eq_true_eq, reduceCtorEq]) (by simp only [X_year, X_yA, ← ha50, c_8, c_18, c_27, eq_true c_85, decide_true, decide_false, Bool.and_true, Bool.true_and, Bool.and_false, Bool.false_and, Bool.or_true, Bool.true_or, Bool.or_false, Bool.false_or, Bool.not_true, Bool.not_false, if_true, if_false, ite_true, ite_false, Bool.false_eq_true, not_true_eq_false, not_false_eq_true, bI_t, bI_f, decide_eq_true_eq, reduceCtorEq])
      · refine zw_bipush (v := -2) X dX7_year_30 bk_m2 ?_
        exact zw_iret X F dX7_year_32 rfl (by first | (simp only [X_year, c_8, c_18, c_27, decide_true, decide_false, Bool.and_true, Bool.true_and, Bool.and_false, Bool.false_and, Bool.or_true, Bool.true_or, Bool.or_false, Bool.false_or, Bool.not_true, Bool.not_false, if_true, if_false, ite_true, ite_false, Bool.false_eq_true, not_true_eq_false, not_false_eq_true, bI_t, bI_f, decide_eq_true_eq, reduceCtorEq]; done) | (simp [X_year, c_8, c_18, c_27]; done) | simp_all) (by first | (simp only [X_year, c_8, c_18, c_27, decide_true, decide_false, Bool.and_true, Bool.true_and, Bool.and_false, Bool.false_and, Bool.or_true, Bool.true_or, Bool.or_false, Bool.false_or, Bool.not_true, Bool.not_false, if_true, if_false, ite_true, ite_false, Bool.false_eq_true, not_true_eq_false, not_false_eq_true, bI_t, bI_f, decide_eq_true_eq, reduceCtorEq]; done) | (simp [X_year, c_8, c_18, c_27]; done) | simp_all)
set_option maxRecDepth 20000 in
set_option maxHeartbeats 4000000 in
theorem t_X7_imageAt0 {σ : St} {n : Int32} (hn : n = 0) : Ct MX7_imageAt [.ref 0, .int n] σ (some (.ref 22)) (σ) := by
  refine ct_of (ls0 := [some (.ref 0), some (.int n)]) ok_MX7_imageAt rfl (Nat.le_of_ble_eq_true rfl) rfl ?_
  intro g X F
  refine zw_iload_1 X dX7_imageAt_0 ?_
  refine zw_ifne_f (tgt := 11) X dX7_imageAt_1 (by decide) hn ?_
  refine zw_aload_0 X dX7_imageAt_4 ?_
  refine zw_getR X dX7_imageAt_5 fl_X7_57 ck_X7 sh_0 rfl ?_
  refine zw_goto (tgt := 15) X dX7_imageAt_8 (by decide) ?_
  exact zw_aret X F dX7_imageAt_15 rfl (rfl)
set_option maxRecDepth 20000 in
set_option maxHeartbeats 4000000 in
theorem t_X7_imageAt1 {σ : St} {n : Int32} (hn : ¬ n = 0) : Ct MX7_imageAt [.ref 0, .int n] σ (some (.ref 32)) (σ) := by
  refine ct_of (ls0 := [some (.ref 0), some (.int n)]) ok_MX7_imageAt rfl (Nat.le_of_ble_eq_true rfl) rfl ?_
  intro g X F
  refine zw_iload_1 X dX7_imageAt_0 ?_
  refine zw_ifne_t (tgt := 11) X dX7_imageAt_1 (by decide) hn ?_
  refine zw_aload_0 X dX7_imageAt_11 ?_
  refine zw_getR X dX7_imageAt_12 fl_X7_61 ck_X7 sh_0 rfl ?_
  exact zw_aret X F dX7_imageAt_15 rfl (rfl)
set_option maxRecDepth 20000 in
set_option maxHeartbeats 4000000 in
theorem t_X7_image {σ : St} {n : Int32} : Ct MX7_image [.ref 0, .int n] σ (some (.int (X_img σ n).1)) (X_img σ n).2 := by
  refine ct_of (ls0 := [some (.ref 0), some (.int n)]) ok_MX7_image rfl (Nat.le_of_ble_eq_true rfl) rfl ?_
  intro g X F
  refine zw_iload_1 X dX7_image_0 ?_
  refine zw_iconst (v := 0) X dX7_image_1 ik_0 ?_
  refine zw_iconst (v := 1) X dX7_image_2 ik_1 ?_
  refine zw_cS_iiii X dX7_image_3 lk_X7_64 ok_MX7_isWithin st_MX7_isWithin rm_X7_image_X7_isWithin (Nat.le_of_ble_eq_true rfl) t_X7_isWithin ?_
  refine zw_ifneB (tgt := 12) X dX7_image_6 (by decide) (fun c_6 => ?_) (fun c_6 => ?_)
  · by_cases hn : n = 0
    · refine zw_aload_0 X dX7_image_12 ?_
      refine zw_iload_1 X dX7_image_13 ?_
      refine zw_cV_ir X dX7_image_14 lk_X7_230 ok_MX7_imageAt vi_MX7_imageAt rm_X7_image_X7_imageAt sh_0 rfl (Nat.le_of_ble_eq_true rfl) (t_X7_imageAt0 hn) ?_
      refine zw_aload_0 X dX7_image_17 ?_
      refine zw_getR X dX7_image_18 fl_X7_10 ck_X7 sh_0 rfl ?_
      refine zw_aload_0 X dX7_image_21 ?_
      refine zw_getR X dX7_image_22 fl_X7_36 ck_X7 sh_0 rfl ?_
      refine zw_cV_rrv X dX7_image_25 lk_X7_234 ok_MX0_keep vi_MX0_keep rm_X7_image_X0_keep sh_22 rfl (Nat.le_of_ble_eq_true rfl) (t_X0_keep isI_22) ?_
      refine zw_iconst (v := 1) X dX7_image_28 ik_1 ?_
      exact zw_iret X F dX7_image_29 rfl (by first | (simp only [X_img, c_6, eq_true hn, decide_true, decide_false, Bool.and_true, Bool.true_and, Bool.and_false, Bool.false_and, Bool.or_true, Bool.true_or, Bool.or_false, Bool.false_or, Bool.not_true, Bool.not_false, if_true, if_false, ite_true, ite_false, Bool.false_eq_true, not_true_eq_false, not_false_eq_true, bI_t, bI_f, decide_eq_true_eq, reduceCtorEq]; done) | (simp [X_img, c_6, eq_true hn]; done) | simp_all) (by first | (simp only [X_img, c_6, eq_true hn, decide_true, decide_false, Bool.and_true, Bool.true_and, Bool.and_false, Bool.false_and, Bool.or_true, Bool.true_or, Bool.or_false, Bool.false_or, Bool.not_true, Bool.not_false, if_true, if_false, ite_true, ite_false, Bool.false_eq_true, not_true_eq_false, not_false_eq_true, bI_t, bI_f, decide_eq_true_eq, reduceCtorEq]; done) | (simp [X_img, c_6, eq_true hn]; done) | simp_all)
    · refine zw_aload_0 X dX7_image_12 ?_
      refine zw_iload_1 X dX7_image_13 ?_
      refine zw_cV_ir X dX7_image_14 lk_X7_230 ok_MX7_imageAt vi_MX7_imageAt rm_X7_image_X7_imageAt sh_0 rfl (Nat.le_of_ble_eq_true rfl) (t_X7_imageAt1 hn) ?_
      refine zw_aload_0 X dX7_image_17 ?_
      refine zw_getR X dX7_image_18 fl_X7_10 ck_X7 sh_0 rfl ?_
      refine zw_aload_0 X dX7_image_21 ?_
      refine zw_getR X dX7_image_22 fl_X7_36 ck_X7 sh_0 rfl ?_
      refine zw_cV_rrv X dX7_image_25 lk_X7_234 ok_MX0_keep vi_MX0_keep rm_X7_image_X0_keep sh_32 rfl (Nat.le_of_ble_eq_true rfl) (t_X0_keep isI_32) ?_
      refine zw_iconst (v := 1) X dX7_image_28 ik_1 ?_
      exact zw_iret X F dX7_image_29 rfl (by first | (simp only [X_img, c_6, hn, decide_true, decide_false, Bool.and_true, Bool.true_and, Bool.and_false, Bool.false_and, Bool.or_true, Bool.true_or, Bool.or_false, Bool.false_or, Bool.not_true, Bool.not_false, if_true, if_false, ite_true, ite_false, Bool.false_eq_true, not_true_eq_false, not_false_eq_true, bI_t, bI_f, decide_eq_true_eq, reduceCtorEq]; done) | (simp [X_img, c_6, hn]; done) | simp_all) (by first | (simp only [X_img, c_6, hn, decide_true, decide_false, Bool.and_true, Bool.true_and, Bool.and_false, Bool.false_and, Bool.or_true, Bool.true_or, Bool.or_false, Bool.false_or, Bool.not_true, Bool.not_false, if_true, if_false, ite_true, ite_false, Bool.false_eq_true, not_true_eq_false, not_false_eq_true, bI_t, bI_f, decide_eq_true_eq, reduceCtorEq]; done) | (simp [X_img, c_6, hn]; done) | simp_all)
  · refine zw_bipush (v := -2) X dX7_image_9 bk_m2 ?_
    exact zw_iret X F dX7_image_11 rfl (by first | (simp only [X_img, c_6, decide_true, decide_false, Bool.and_true, Bool.true_and, Bool.and_false, Bool.false_and, Bool.or_true, Bool.true_or, Bool.or_false, Bool.false_or, Bool.not_true, Bool.not_false, if_true, if_false, ite_true, ite_false, Bool.false_eq_true, not_true_eq_false, not_false_eq_true, bI_t, bI_f, decide_eq_true_eq, reduceCtorEq]; done) | (simp [X_img, c_6]; done) | simp_all) (by first | (simp only [X_img, c_6, decide_true, decide_false, Bool.and_true, Bool.true_and, Bool.and_false, Bool.false_and, Bool.or_true, Bool.true_or, Bool.or_false, Bool.false_or, Bool.not_true, Bool.not_false, if_true, if_false, ite_true, ite_false, Bool.false_eq_true, not_true_eq_false, not_false_eq_true, bI_t, bI_f, decide_eq_true_eq, reduceCtorEq]; done) | (simp [X_img, c_6]; done) | simp_all)
set_option maxRecDepth 20000 in
set_option maxHeartbeats 4000000 in
theorem t_X7_restore {σ : St} {n : Int32} : Ct MX7_restore [.ref 0, .int n] σ (some (.int (X_rest σ n).1)) (X_rest σ n).2 := by
  refine ct_of (ls0 := [some (.ref 0), some (.int n)]) ok_MX7_restore rfl (Nat.le_of_ble_eq_true rfl) rfl ?_
  intro g X F
  refine zw_iload_1 X dX7_restore_0 ?_
  refine zw_iconst (v := 0) X dX7_restore_1 ik_0 ?_
  refine zw_iconst (v := 1) X dX7_restore_2 ik_1 ?_
  refine zw_cS_iiii X dX7_restore_3 lk_X7_64 ok_MX7_isWithin st_MX7_isWithin rm_X7_restore_X7_isWithin (Nat.le_of_ble_eq_true rfl) t_X7_isWithin ?_
  refine zw_ifneB (tgt := 12) X dX7_restore_6 (by decide) (fun c_6 => ?_) (fun c_6 => ?_)
  · by_cases hn : n = 0
    · refine zw_aload_0 X dX7_restore_12 ?_
      refine zw_iload_1 X dX7_restore_13 ?_
      refine zw_cV_ir X dX7_restore_14 lk_X7_230 ok_MX7_imageAt vi_MX7_imageAt rm_X7_restore_X7_imageAt sh_0 rfl (Nat.le_of_ble_eq_true rfl) (t_X7_imageAt0 hn) ?_
      refine zw_aload_0 X dX7_restore_17 ?_
      refine zw_getR X dX7_restore_18 fl_X7_10 ck_X7 sh_0 rfl ?_
      refine zw_aload_0 X dX7_restore_21 ?_
      refine zw_getR X dX7_restore_22 fl_X7_36 ck_X7 sh_0 rfl ?_
      refine zw_cV_rri X dX7_restore_25 lk_X7_238 ok_MX0_bringBack vi_MX0_bringBack rm_X7_restore_X0_bringBack sh_22 rfl (Nat.le_of_ble_eq_true rfl) (t_X0_bringBack isI_22) ?_
      refine zw_ifeqB (tgt := 35) X dX7_restore_28 (by decide) (fun c_28 => ?_) (fun c_28 => ?_)
      · refine zw_bipush (v := -3) X dX7_restore_35 bk_m3 ?_
        exact zw_iret X F dX7_restore_37 rfl (by first | (simp only [X_rest, c_6, eq_true hn, c_28, decide_true, decide_false, Bool.and_true, Bool.true_and, Bool.and_false, Bool.false_and, Bool.or_true, Bool.true_or, Bool.or_false, Bool.false_or, Bool.not_true, Bool.not_false, if_true, if_false, ite_true, ite_false, Bool.false_eq_true, not_true_eq_false, not_false_eq_true, bI_t, bI_f, decide_eq_true_eq, reduceCtorEq]; done) | (simp [X_rest, c_6, eq_true hn, c_28]; done) | simp_all) (by first | (simp only [X_rest, c_6, eq_true hn, c_28, decide_true, decide_false, Bool.and_true, Bool.true_and, Bool.and_false, Bool.false_and, Bool.or_true, Bool.true_or, Bool.or_false, Bool.false_or, Bool.not_true, Bool.not_false, if_true, if_false, ite_true, ite_false, Bool.false_eq_true, not_true_eq_false, not_false_eq_true, bI_t, bI_f, decide_eq_true_eq, reduceCtorEq]; done) | (simp [X_rest, c_6, eq_true hn, c_28]; done) | simp_all)
      · refine zw_iconst (v := 1) X dX7_restore_31 ik_1 ?_
        refine zw_goto (tgt := 37) X dX7_restore_32 (by decide) ?_
        exact zw_iret X F dX7_restore_37 rfl (by first | (simp only [X_rest, c_6, eq_true hn, c_28, decide_true, decide_false, Bool.and_true, Bool.true_and, Bool.and_false, Bool.false_and, Bool.or_true, Bool.true_or, Bool.or_false, Bool.false_or, Bool.not_true, Bool.not_false, if_true, if_false, ite_true, ite_false, Bool.false_eq_true, not_true_eq_false, not_false_eq_true, bI_t, bI_f, decide_eq_true_eq, reduceCtorEq]; done) | (simp [X_rest, c_6, eq_true hn, c_28]; done) | simp_all) (by first | (simp only [X_rest, c_6, eq_true hn, c_28, decide_true, decide_false, Bool.and_true, Bool.true_and, Bool.and_false, Bool.false_and, Bool.or_true, Bool.true_or, Bool.or_false, Bool.false_or, Bool.not_true, Bool.not_false, if_true, if_false, ite_true, ite_false, Bool.false_eq_true, not_true_eq_false, not_false_eq_true, bI_t, bI_f, decide_eq_true_eq, reduceCtorEq]; done) | (simp [X_rest, c_6, eq_true hn, c_28]; done) | simp_all)
    · refine zw_aload_0 X dX7_restore_12 ?_
      refine zw_iload_1 X dX7_restore_13 ?_
      refine zw_cV_ir X dX7_restore_14 lk_X7_230 ok_MX7_imageAt vi_MX7_imageAt rm_X7_restore_X7_imageAt sh_0 rfl (Nat.le_of_ble_eq_true rfl) (t_X7_imageAt1 hn) ?_
      refine zw_aload_0 X dX7_restore_17 ?_
      refine zw_getR X dX7_restore_18 fl_X7_10 ck_X7 sh_0 rfl ?_
      refine zw_aload_0 X dX7_restore_21 ?_
      refine zw_getR X dX7_restore_22 fl_X7_36 ck_X7 sh_0 rfl ?_
      refine zw_cV_rri X dX7_restore_25 lk_X7_238 ok_MX0_bringBack vi_MX0_bringBack rm_X7_restore_X0_bringBack sh_32 rfl (Nat.le_of_ble_eq_true rfl) (t_X0_bringBack isI_32) ?_
      refine zw_ifeqB (tgt := 35) X dX7_restore_28 (by decide) (fun c_28 => ?_) (fun c_28 => ?_)
      · refine zw_bipush (v := -3) X dX7_restore_35 bk_m3 ?_
        exact zw_iret X F dX7_restore_37 rfl (by first | (simp only [X_rest, c_6, hn, c_28, decide_true, decide_false, Bool.and_true, Bool.true_and, Bool.and_false, Bool.false_and, Bool.or_true, Bool.true_or, Bool.or_false, Bool.false_or, Bool.not_true, Bool.not_false, if_true, if_false, ite_true, ite_false, Bool.false_eq_true, not_true_eq_false, not_false_eq_true, bI_t, bI_f, decide_eq_true_eq, reduceCtorEq]; done) | (simp [X_rest, c_6, hn, c_28]; done) | simp_all) (by first | (simp only [X_rest, c_6, hn, c_28, decide_true, decide_false, Bool.and_true, Bool.true_and, Bool.and_false, Bool.false_and, Bool.or_true, Bool.true_or, Bool.or_false, Bool.false_or, Bool.not_true, Bool.not_false, if_true, if_false, ite_true, ite_false, Bool.false_eq_true, not_true_eq_false, not_false_eq_true, bI_t, bI_f, decide_eq_true_eq, reduceCtorEq]; done) | (simp [X_rest, c_6, hn, c_28]; done) | simp_all)
      · refine zw_iconst (v := 1) X dX7_restore_31 ik_1 ?_
        refine zw_goto (tgt := 37) X dX7_restore_32 (by decide) ?_
        exact zw_iret X F dX7_restore_37 rfl (by first | (simp only [X_rest, c_6, hn, c_28, decide_true, decide_false, Bool.and_true, Bool.true_and, Bool.and_false, Bool.false_and, Bool.or_true, Bool.true_or, Bool.or_false, Bool.false_or, Bool.not_true, Bool.not_false, if_true, if_false, ite_true, ite_false, Bool.false_eq_true, not_true_eq_false, not_false_eq_true, bI_t, bI_f, decide_eq_true_eq, reduceCtorEq]; done) | (simp [X_rest, c_6, hn, c_28]; done) | simp_all) (by first | (simp only [X_rest, c_6, hn, c_28, decide_true, decide_false, Bool.and_true, Bool.true_and, Bool.and_false, Bool.false_and, Bool.or_true, Bool.true_or, Bool.or_false, Bool.false_or, Bool.not_true, Bool.not_false, if_true, if_false, ite_true, ite_false, Bool.false_eq_true, not_true_eq_false, not_false_eq_true, bI_t, bI_f, decide_eq_true_eq, reduceCtorEq]; done) | (simp [X_rest, c_6, hn, c_28]; done) | simp_all)
  · refine zw_bipush (v := -2) X dX7_restore_9 bk_m2 ?_
    exact zw_iret X F dX7_restore_11 rfl (by first | (simp only [X_rest, c_6, decide_true, decide_false, Bool.and_true, Bool.true_and, Bool.and_false, Bool.false_and, Bool.or_true, Bool.true_or, Bool.or_false, Bool.false_or, Bool.not_true, Bool.not_false, if_true, if_false, ite_true, ite_false, Bool.false_eq_true, not_true_eq_false, not_false_eq_true, bI_t, bI_f, decide_eq_true_eq, reduceCtorEq]; done) | (simp [X_rest, c_6]; done) | simp_all) (by first | (simp only [X_rest, c_6, decide_true, decide_false, Bool.and_true, Bool.true_and, Bool.and_false, Bool.false_and, Bool.or_true, Bool.true_or, Bool.or_false, Bool.false_or, Bool.not_true, Bool.not_false, if_true, if_false, ite_true, ite_false, Bool.false_eq_true, not_true_eq_false, not_false_eq_true, bI_t, bI_f, decide_eq_true_eq, reduceCtorEq]; done) | (simp [X_rest, c_6]; done) | simp_all)
set_option maxRecDepth 20000 in
set_option maxHeartbeats 4000000 in
theorem t_X7_toldOf {σ : St} {t w : Int32} : Ct MX7_toldOf [.ref 0, .int t, .int w] σ (some (.int (X_tof σ t w))) (σ) := by
  refine ct_of (ls0 := [some (.ref 0), some (.int t), some (.int w)]) ok_MX7_toldOf rfl (Nat.le_of_ble_eq_true rfl) rfl ?_
  intro g X F
  refine zw_iload_1 X dX7_toldOf_0 ?_
  refine zw_cS_ii X dX7_toldOf_1 lk_X7_86 ok_MX7_isTraveller st_MX7_isTraveller rm_X7_toldOf_X7_isTraveller (Nat.le_of_ble_eq_true rfl) t_X7_isTraveller ?_
  refine zw_ifneB (tgt := 10) X dX7_toldOf_4 (by decide) (fun c_4 => ?_) (fun c_4 => ?_)
  · refine zw_iload_2 X dX7_toldOf_10 ?_
    refine zw_tabN 5 X dX7_toldOf_11 (by decide) rfl (fun i hi hx => ?_) (fun hx => ?_)
    · have hi2 : i = 0 ∨ i = 1 ∨ i = 2 ∨ i = 3 ∨ i = 4 := by omega
      rcases hi2 with rfl | rfl | rfl | rfl | rfl
      · refine ⟨33, 44, rfl, by decide, ?_⟩
        have c_s11 : w = 0 := hx
        refine zw_aload_0 X dX7_toldOf_44 ?_
        refine zw_getR X dX7_toldOf_45 fl_X7_10 ck_X7 sh_0 rfl ?_
        refine zw_getR X dX7_toldOf_48 fl_X7_271 ck_X5 sh_1 rfl ?_
        refine zw_iload_1 X dX7_toldOf_51 ?_
        refine zw_iald X dX7_toldOf_52 sh_2 (isTr_in c_4) ?_
        exact zw_iret X F dX7_toldOf_53 rfl (by first | (simp only [X_tof, c_4, eq_true c_s11, c_s11, decide_true, decide_false, Bool.and_true, Bool.true_and, Bool.and_false, Bool.false_and, Bool.or_true, Bool.true_or, Bool.or_false, Bool.false_or, Bool.not_true, Bool.not_false, if_true, if_false, ite_true, ite_false, Bool.false_eq_true, not_true_eq_false, not_false_eq_true, bI_t, bI_f, decide_eq_true_eq, reduceCtorEq]; done) | (simp [X_tof, c_4, eq_true c_s11, c_s11]; done) | simp_all) (rfl)
      · refine ⟨43, 54, rfl, by decide, ?_⟩
        have c_s11 : w = 1 := hx
        refine zw_aload_0 X dX7_toldOf_54 ?_
        refine zw_getR X dX7_toldOf_55 fl_X7_10 ck_X7 sh_0 rfl ?_
        refine zw_getR X dX7_toldOf_58 fl_X7_274 ck_X5 sh_1 rfl ?_
        refine zw_iload_1 X dX7_toldOf_61 ?_
        refine zw_iald X dX7_toldOf_62 sh_3 (isTr_in c_4) ?_
        exact zw_iret X F dX7_toldOf_63 rfl (by first | (simp only [X_tof, c_4, eq_true c_s11, c_s11, decide_true, decide_false, Bool.and_true, Bool.true_and, Bool.and_false, Bool.false_and, Bool.or_true, Bool.true_or, Bool.or_false, Bool.false_or, Bool.not_true, Bool.not_false, if_true, if_false, ite_true, ite_false, Bool.false_eq_true, not_true_eq_false, not_false_eq_true, bI_t, bI_f, decide_eq_true_eq, reduceCtorEq]; done) | (simp [X_tof, c_4, eq_true c_s11, c_s11]; done) | simp_all) (rfl)
      · refine ⟨53, 64, rfl, by decide, ?_⟩
        have c_s11 : w = 2 := hx
        refine zw_aload_0 X dX7_toldOf_64 ?_
        refine zw_getR X dX7_toldOf_65 fl_X7_10 ck_X7 sh_0 rfl ?_
        refine zw_getR X dX7_toldOf_68 fl_X7_100 ck_X5 sh_1 rfl ?_
        refine zw_iload_1 X dX7_toldOf_71 ?_
        refine zw_iald X dX7_toldOf_72 sh_4 (isTr_in c_4) ?_
        exact zw_iret X F dX7_toldOf_73 rfl (by first | (simp only [X_tof, c_4, eq_true c_s11, c_s11, decide_true, decide_false, Bool.and_true, Bool.true_and, Bool.and_false, Bool.false_and, Bool.or_true, Bool.true_or, Bool.or_false, Bool.false_or, Bool.not_true, Bool.not_false, if_true, if_false, ite_true, ite_false, Bool.false_eq_true, not_true_eq_false, not_false_eq_true, bI_t, bI_f, decide_eq_true_eq, reduceCtorEq]; done) | (simp [X_tof, c_4, eq_true c_s11, c_s11]; done) | simp_all) (rfl)
      · refine ⟨63, 74, rfl, by decide, ?_⟩
        have c_s11 : w = 3 := hx
        refine zw_aload_0 X dX7_toldOf_74 ?_
        refine zw_getR X dX7_toldOf_75 fl_X7_10 ck_X7 sh_0 rfl ?_
        refine zw_getR X dX7_toldOf_78 fl_X7_104 ck_X5 sh_1 rfl ?_
        refine zw_iload_1 X dX7_toldOf_81 ?_
        refine zw_iald X dX7_toldOf_82 sh_5 (isTr_in c_4) ?_
        exact zw_iret X F dX7_toldOf_83 rfl (by first | (simp only [X_tof, c_4, eq_true c_s11, c_s11, decide_true, decide_false, Bool.and_true, Bool.true_and, Bool.and_false, Bool.false_and, Bool.or_true, Bool.true_or, Bool.or_false, Bool.false_or, Bool.not_true, Bool.not_false, if_true, if_false, ite_true, ite_false, Bool.false_eq_true, not_true_eq_false, not_false_eq_true, bI_t, bI_f, decide_eq_true_eq, reduceCtorEq]; done) | (simp [X_tof, c_4, eq_true c_s11, c_s11]; done) | simp_all) (rfl)
      · refine ⟨73, 84, rfl, by decide, ?_⟩
        have c_s11 : w = 4 := hx
        refine zw_aload_0 X dX7_toldOf_84 ?_
        refine zw_getR X dX7_toldOf_85 fl_X7_10 ck_X7 sh_0 rfl ?_
        refine zw_getR X dX7_toldOf_88 fl_X7_277 ck_X5 sh_1 rfl ?_
        refine zw_iload_1 X dX7_toldOf_91 ?_
        refine zw_iald X dX7_toldOf_92 sh_6 (isTr_in c_4) ?_
        exact zw_iret X F dX7_toldOf_93 rfl (by first | (simp only [X_tof, c_4, eq_true c_s11, c_s11, decide_true, decide_false, Bool.and_true, Bool.true_and, Bool.and_false, Bool.false_and, Bool.or_true, Bool.true_or, Bool.or_false, Bool.false_or, Bool.not_true, Bool.not_false, if_true, if_false, ite_true, ite_false, Bool.false_eq_true, not_true_eq_false, not_false_eq_true, bI_t, bI_f, decide_eq_true_eq, reduceCtorEq]; done) | (simp [X_tof, c_4, eq_true c_s11, c_s11]; done) | simp_all) (rfl)
    · refine ⟨94, by decide, ?_⟩
      have c_s11_0 : ¬ w = 0 := hx 0 (by decide)
      have c_s11_1 : ¬ w = 1 := hx 1 (by decide)
      have c_s11_2 : ¬ w = 2 := hx 2 (by decide)
      have c_s11_3 : ¬ w = 3 := hx 3 (by decide)
      have c_s11_4 : ¬ w = 4 := hx 4 (by decide)
      refine zw_bipush (v := -2) X dX7_toldOf_94 bk_m2 ?_
      exact zw_iret X F dX7_toldOf_96 rfl (by first | (simp only [X_tof, c_4, c_s11_0, c_s11_1, c_s11_2, c_s11_3, c_s11_4, decide_true, decide_false, Bool.and_true, Bool.true_and, Bool.and_false, Bool.false_and, Bool.or_true, Bool.true_or, Bool.or_false, Bool.false_or, Bool.not_true, Bool.not_false, if_true, if_false, ite_true, ite_false, Bool.false_eq_true, not_true_eq_false, not_false_eq_true, bI_t, bI_f, decide_eq_true_eq, reduceCtorEq]; done) | (simp [X_tof, c_4, c_s11_0, c_s11_1, c_s11_2, c_s11_3, c_s11_4]; done) | simp_all) (rfl)
  · refine zw_bipush (v := -2) X dX7_toldOf_7 bk_m2 ?_
    exact zw_iret X F dX7_toldOf_9 rfl (by first | (simp only [X_tof, c_4, decide_true, decide_false, Bool.and_true, Bool.true_and, Bool.and_false, Bool.false_and, Bool.or_true, Bool.true_or, Bool.or_false, Bool.false_or, Bool.not_true, Bool.not_false, if_true, if_false, ite_true, ite_false, Bool.false_eq_true, not_true_eq_false, not_false_eq_true, bI_t, bI_f, decide_eq_true_eq, reduceCtorEq]; done) | (simp [X_tof, c_4]; done) | simp_all) (rfl)
set_option maxRecDepth 20000 in
set_option maxHeartbeats 4000000 in
theorem t_X7_told {σ : St} {w : Int32} : Ct MX7_told [.ref 0, .int w] σ (some (.int ((X_told σ w).1))) ((X_told σ w).2) := by
  refine ct_of (ls0 := [some (.ref 0), some (.int w)]) ok_MX7_told rfl (Nat.le_of_ble_eq_true rfl) rfl ?_
  intro g X F
  refine zw_iload_1 X dX7_told_0 ?_
  refine zw_tabN 7 X dX7_told_1 (by decide) rfl (fun i hi hx => ?_) (fun hx => ?_)
  · have hi2 : i = 0 ∨ i = 1 ∨ i = 2 ∨ i = 3 ∨ i = 4 ∨ i = 5 ∨ i = 6 := by omega
    rcases hi2 with rfl | rfl | rfl | rfl | rfl | rfl | rfl
    · refine ⟨43, 44, rfl, by decide, ?_⟩
      have c_s1 : w = 0 := hx
      refine zw_aload_0 X dX7_told_44 ?_
      refine zw_getR X dX7_told_45 fl_X7_22 ck_X7 sh_0 rfl ?_
      refine zw_getI X dX7_told_48 fl_X7_113 ck_X1 sh_13 rfl ?_
      exact zw_iret X F dX7_told_51 rfl (by first | (simp only [X_told, rem, eq_true c_s1, c_s1, decide_true, decide_false, Bool.and_true, Bool.true_and, Bool.and_false, Bool.false_and, Bool.or_true, Bool.true_or, Bool.or_false, Bool.false_or, Bool.not_true, Bool.not_false, if_true, if_false, ite_true, ite_false, Bool.false_eq_true, not_true_eq_false, not_false_eq_true, bI_t, bI_f, decide_eq_true_eq, reduceCtorEq]; done) | (simp [X_told, rem, eq_true c_s1, c_s1]; done) | simp_all) (by first | (simp only [X_told, eq_true c_s1, c_s1, decide_true, decide_false, Bool.and_true, Bool.true_and, Bool.and_false, Bool.false_and, Bool.or_true, Bool.true_or, Bool.or_false, Bool.false_or, Bool.not_true, Bool.not_false, if_true, if_false, ite_true, ite_false, Bool.false_eq_true, not_true_eq_false, not_false_eq_true, bI_t, bI_f, decide_eq_true_eq, reduceCtorEq]; done) | (simp [X_told, eq_true c_s1, c_s1]; done) | simp_all)
    · refine ⟨51, 52, rfl, by decide, ?_⟩
      have c_s1 : w = 1 := hx
      refine zw_aload_0 X dX7_told_52 ?_
      refine zw_getR X dX7_told_53 fl_X7_10 ck_X7 sh_0 rfl ?_
      refine zw_getI X dX7_told_56 fl_X7_68 ck_X5 sh_1 rfl ?_
      exact zw_iret X F dX7_told_59 rfl (by first | (simp only [X_told, rem, eq_true c_s1, c_s1, decide_true, decide_false, Bool.and_true, Bool.true_and, Bool.and_false, Bool.false_and, Bool.or_true, Bool.true_or, Bool.or_false, Bool.false_or, Bool.not_true, Bool.not_false, if_true, if_false, ite_true, ite_false, Bool.false_eq_true, not_true_eq_false, not_false_eq_true, bI_t, bI_f, decide_eq_true_eq, reduceCtorEq]; done) | (simp [X_told, rem, eq_true c_s1, c_s1]; done) | simp_all) (by first | (simp only [X_told, eq_true c_s1, c_s1, decide_true, decide_false, Bool.and_true, Bool.true_and, Bool.and_false, Bool.false_and, Bool.or_true, Bool.true_or, Bool.or_false, Bool.false_or, Bool.not_true, Bool.not_false, if_true, if_false, ite_true, ite_false, Bool.false_eq_true, not_true_eq_false, not_false_eq_true, bI_t, bI_f, decide_eq_true_eq, reduceCtorEq]; done) | (simp [X_told, eq_true c_s1, c_s1]; done) | simp_all)
    · refine ⟨59, 60, rfl, by decide, ?_⟩
      have c_s1 : w = 2 := hx
      refine zw_aload_0 X dX7_told_60 ?_
      refine zw_getR X dX7_told_61 fl_X7_10 ck_X7 sh_0 rfl ?_
      refine zw_getI X dX7_told_64 fl_X7_72 ck_X5 sh_1 rfl ?_
      exact zw_iret X F dX7_told_67 rfl (by first | (simp only [X_told, rem, eq_true c_s1, c_s1, decide_true, decide_false, Bool.and_true, Bool.true_and, Bool.and_false, Bool.false_and, Bool.or_true, Bool.true_or, Bool.or_false, Bool.false_or, Bool.not_true, Bool.not_false, if_true, if_false, ite_true, ite_false, Bool.false_eq_true, not_true_eq_false, not_false_eq_true, bI_t, bI_f, decide_eq_true_eq, reduceCtorEq]; done) | (simp [X_told, rem, eq_true c_s1, c_s1]; done) | simp_all) (by first | (simp only [X_told, eq_true c_s1, c_s1, decide_true, decide_false, Bool.and_true, Bool.true_and, Bool.and_false, Bool.false_and, Bool.or_true, Bool.true_or, Bool.or_false, Bool.false_or, Bool.not_true, Bool.not_false, if_true, if_false, ite_true, ite_false, Bool.false_eq_true, not_true_eq_false, not_false_eq_true, bI_t, bI_f, decide_eq_true_eq, reduceCtorEq]; done) | (simp [X_told, eq_true c_s1, c_s1]; done) | simp_all)
    · refine ⟨67, 68, rfl, by decide, ?_⟩
      have c_s1 : w = 3 := hx
      refine zw_aload_0 X dX7_told_68 ?_
      refine zw_getR X dX7_told_69 fl_X7_10 ck_X7 sh_0 rfl ?_
      refine zw_getI X dX7_told_72 fl_X7_136 ck_X5 sh_1 rfl ?_
      exact zw_iret X F dX7_told_75 rfl (by first | (simp only [X_told, rem, eq_true c_s1, c_s1, decide_true, decide_false, Bool.and_true, Bool.true_and, Bool.and_false, Bool.false_and, Bool.or_true, Bool.true_or, Bool.or_false, Bool.false_or, Bool.not_true, Bool.not_false, if_true, if_false, ite_true, ite_false, Bool.false_eq_true, not_true_eq_false, not_false_eq_true, bI_t, bI_f, decide_eq_true_eq, reduceCtorEq]; done) | (simp [X_told, rem, eq_true c_s1, c_s1]; done) | simp_all) (by first | (simp only [X_told, eq_true c_s1, c_s1, decide_true, decide_false, Bool.and_true, Bool.true_and, Bool.and_false, Bool.false_and, Bool.or_true, Bool.true_or, Bool.or_false, Bool.false_or, Bool.not_true, Bool.not_false, if_true, if_false, ite_true, ite_false, Bool.false_eq_true, not_true_eq_false, not_false_eq_true, bI_t, bI_f, decide_eq_true_eq, reduceCtorEq]; done) | (simp [X_told, eq_true c_s1, c_s1]; done) | simp_all)
    · refine ⟨75, 76, rfl, by decide, ?_⟩
      have c_s1 : w = 4 := hx
      refine zw_aload_0 X dX7_told_76 ?_
      refine zw_getR X dX7_told_77 fl_X7_10 ck_X7 sh_0 rfl ?_
      refine zw_getI X dX7_told_80 fl_X7_107 ck_X5 sh_1 rfl ?_
      exact zw_iret X F dX7_told_83 rfl (by first | (simp only [X_told, rem, eq_true c_s1, c_s1, decide_true, decide_false, Bool.and_true, Bool.true_and, Bool.and_false, Bool.false_and, Bool.or_true, Bool.true_or, Bool.or_false, Bool.false_or, Bool.not_true, Bool.not_false, if_true, if_false, ite_true, ite_false, Bool.false_eq_true, not_true_eq_false, not_false_eq_true, bI_t, bI_f, decide_eq_true_eq, reduceCtorEq]; done) | (simp [X_told, rem, eq_true c_s1, c_s1]; done) | simp_all) (by first | (simp only [X_told, eq_true c_s1, c_s1, decide_true, decide_false, Bool.and_true, Bool.true_and, Bool.and_false, Bool.false_and, Bool.or_true, Bool.true_or, Bool.or_false, Bool.false_or, Bool.not_true, Bool.not_false, if_true, if_false, ite_true, ite_false, Bool.false_eq_true, not_true_eq_false, not_false_eq_true, bI_t, bI_f, decide_eq_true_eq, reduceCtorEq]; done) | (simp [X_told, eq_true c_s1, c_s1]; done) | simp_all)
    · refine ⟨83, 84, rfl, by decide, ?_⟩
      have c_s1 : w = 5 := hx
      refine zw_aload_0 X dX7_told_84 ?_
      refine zw_getR X dX7_told_85 fl_X7_36 ck_X7 sh_0 rfl ?_
      refine zw_getI X dX7_told_88 fl_X7_193 ck_X4 sh_16 rfl ?_
      exact zw_iret X F dX7_told_91 rfl (by first | (simp only [X_told, rem, eq_true c_s1, c_s1, decide_true, decide_false, Bool.and_true, Bool.true_and, Bool.and_false, Bool.false_and, Bool.or_true, Bool.true_or, Bool.or_false, Bool.false_or, Bool.not_true, Bool.not_false, if_true, if_false, ite_true, ite_false, Bool.false_eq_true, not_true_eq_false, not_false_eq_true, bI_t, bI_f, decide_eq_true_eq, reduceCtorEq]; done) | (simp [X_told, rem, eq_true c_s1, c_s1]; done) | simp_all) (by first | (simp only [X_told, eq_true c_s1, c_s1, decide_true, decide_false, Bool.and_true, Bool.true_and, Bool.and_false, Bool.false_and, Bool.or_true, Bool.true_or, Bool.or_false, Bool.false_or, Bool.not_true, Bool.not_false, if_true, if_false, ite_true, ite_false, Bool.false_eq_true, not_true_eq_false, not_false_eq_true, bI_t, bI_f, decide_eq_true_eq, reduceCtorEq]; done) | (simp [X_told, eq_true c_s1, c_s1]; done) | simp_all)
    · refine ⟨91, 92, rfl, by decide, ?_⟩
      have c_s1 : w = 6 := hx
      refine zw_aload_0 X dX7_told_92 ?_
      refine zw_getR X dX7_told_93 fl_X7_10 ck_X7 sh_0 rfl ?_
      refine zw_getI X dX7_told_96 fl_X7_79 ck_X5 sh_1 rfl ?_
      exact zw_iret X F dX7_told_99 rfl (by first | (simp only [X_told, rem, eq_true c_s1, c_s1, decide_true, decide_false, Bool.and_true, Bool.true_and, Bool.and_false, Bool.false_and, Bool.or_true, Bool.true_or, Bool.or_false, Bool.false_or, Bool.not_true, Bool.not_false, if_true, if_false, ite_true, ite_false, Bool.false_eq_true, not_true_eq_false, not_false_eq_true, bI_t, bI_f, decide_eq_true_eq, reduceCtorEq]; done) | (simp [X_told, rem, eq_true c_s1, c_s1]; done) | simp_all) (by first | (simp only [X_told, eq_true c_s1, c_s1, decide_true, decide_false, Bool.and_true, Bool.true_and, Bool.and_false, Bool.false_and, Bool.or_true, Bool.true_or, Bool.or_false, Bool.false_or, Bool.not_true, Bool.not_false, if_true, if_false, ite_true, ite_false, Bool.false_eq_true, not_true_eq_false, not_false_eq_true, bI_t, bI_f, decide_eq_true_eq, reduceCtorEq]; done) | (simp [X_told, eq_true c_s1, c_s1]; done) | simp_all)
  · refine ⟨100, by decide, ?_⟩
    have c_s1_0 : ¬ w = 0 := hx 0 (by decide)
    have c_s1_1 : ¬ w = 1 := hx 1 (by decide)
    have c_s1_2 : ¬ w = 2 := hx 2 (by decide)
    have c_s1_3 : ¬ w = 3 := hx 3 (by decide)
    have c_s1_4 : ¬ w = 4 := hx 4 (by decide)
    have c_s1_5 : ¬ w = 5 := hx 5 (by decide)
    have c_s1_6 : ¬ w = 6 := hx 6 (by decide)
    refine zw_aload_0 X dX7_told_100 ?_
    refine zw_iload_1 X dX7_told_101 ?_
    refine zw_bipush (v := 10) X dX7_told_102 bk_10 ?_
    refine zw_idiv X dX7_told_104 (by decide) ?_
    refine zw_iconst (v := 1) X dX7_told_105 ik_1 ?_
    refine zw_isub X dX7_told_106 ?_
    refine zw_iload_1 X dX7_told_107 ?_
    refine zw_bipush (v := 10) X dX7_told_108 bk_10 ?_
    refine zw_irem X dX7_told_110 (by decide) ?_
    refine zw_cV_iii X dX7_told_111 lk_X7_242 ok_MX7_toldOf vi_MX7_toldOf rm_X7_told_X7_toldOf sh_0 rfl (Nat.le_of_ble_eq_true rfl) t_X7_toldOf ?_
    exact zw_iret X F dX7_told_114 rfl (by first | (simp only [X_told, rem, c_s1_0, c_s1_1, c_s1_2, c_s1_3, c_s1_4, c_s1_5, c_s1_6, decide_true, decide_false, Bool.and_true, Bool.true_and, Bool.and_false, Bool.false_and, Bool.or_true, Bool.true_or, Bool.or_false, Bool.false_or, Bool.not_true, Bool.not_false, if_true, if_false, ite_true, ite_false, Bool.false_eq_true, not_true_eq_false, not_false_eq_true, bI_t, bI_f, decide_eq_true_eq, reduceCtorEq]; done) | (simp [X_told, rem, c_s1_0, c_s1_1, c_s1_2, c_s1_3, c_s1_4, c_s1_5, c_s1_6]; done) | simp_all) (by first | (simp only [X_told, c_s1_0, c_s1_1, c_s1_2, c_s1_3, c_s1_4, c_s1_5, c_s1_6, decide_true, decide_false, Bool.and_true, Bool.true_and, Bool.and_false, Bool.false_and, Bool.or_true, Bool.true_or, Bool.or_false, Bool.false_or, Bool.not_true, Bool.not_false, if_true, if_false, ite_true, ite_false, Bool.false_eq_true, not_true_eq_false, not_false_eq_true, bI_t, bI_f, decide_eq_true_eq, reduceCtorEq]; done) | (simp [X_told, c_s1_0, c_s1_1, c_s1_2, c_s1_3, c_s1_4, c_s1_5, c_s1_6]; done) | simp_all)
