section
-- ===== PART A: goes FIRST, ahead of the names: the tables' words, and 'selects' of the private methods out of them =====
/-- a private method of a class that the tables say can be made, by its rows of tables_1 -/
def lw_okq (q : MethodName × Nat) : Prop := (q.1.cls ≠ "java/lang/invoke/MethodHandle" ∧ q.1.cls ≠ "java/lang/invoke/VarHandle") ∧ Cond.instantiable q.1.cls q.2 ∈ tables_1 ∧ Cond.privateMethod q.1 ∈ tables_1 ∧ Cond.instanceMethod q.1 ∈ tables_1
theorem lw_p0 : lw_okq (⟨"SilenceMinute$Pad", "follow", "(II)I"⟩, 2) := ⟨⟨by decide +kernel, by decide +kernel⟩, List.mem_of_getElem? (i := 73) (by decide +kernel), List.mem_of_getElem? (i := 288) (by decide +kernel), List.mem_of_getElem? (i := 289) (by decide +kernel)⟩
theorem lw_p1 : lw_okq (⟨"SilenceMinute", "padCanBe", "()Z"⟩, 9) := ⟨⟨by decide +kernel, by decide +kernel⟩, List.mem_of_getElem? (i := 13) (by decide +kernel), List.mem_of_getElem? (i := 305) (by decide +kernel), List.mem_of_getElem? (i := 306) (by decide +kernel)⟩
theorem lw_p2 : lw_okq (⟨"SilenceMinute$Train", "payGuard", "(II)V"⟩, 11) := ⟨⟨by decide +kernel, by decide +kernel⟩, List.mem_of_getElem? (i := 21) (by decide +kernel), List.mem_of_getElem? (i := 329) (by decide +kernel), List.mem_of_getElem? (i := 330) (by decide +kernel)⟩
theorem lw_p3 : lw_okq (⟨"SilenceMinute", "letAllMinutesPass", "()V"⟩, 9) := ⟨⟨by decide +kernel, by decide +kernel⟩, List.mem_of_getElem? (i := 13) (by decide +kernel), List.mem_of_getElem? (i := 397) (by decide +kernel), List.mem_of_getElem? (i := 398) (by decide +kernel)⟩
theorem lw_p4 : lw_okq (⟨"SilenceMinute", "keepsSilence", "(II)Z"⟩, 9) := ⟨⟨by decide +kernel, by decide +kernel⟩, List.mem_of_getElem? (i := 13) (by decide +kernel), List.mem_of_getElem? (i := 414) (by decide +kernel), List.mem_of_getElem? (i := 415) (by decide +kernel)⟩
theorem lw_p5 : lw_okq (⟨"SilenceMinute", "paidInTrial", "(I)I"⟩, 9) := ⟨⟨by decide +kernel, by decide +kernel⟩, List.mem_of_getElem? (i := 13) (by decide +kernel), List.mem_of_getElem? (i := 425) (by decide +kernel), List.mem_of_getElem? (i := 426) (by decide +kernel)⟩
theorem lw_p6 : lw_okq (⟨"SilenceMinute$Seating", "waysInAll", "()I"⟩, 4) := ⟨⟨by decide +kernel, by decide +kernel⟩, List.mem_of_getElem? (i := 120) (by decide +kernel), List.mem_of_getElem? (i := 449) (by decide +kernel), List.mem_of_getElem? (i := 450) (by decide +kernel)⟩
theorem lw_p7 : lw_okq (⟨"SilenceMinute$Seating", "isRider", "(I)Z"⟩, 4) := ⟨⟨by decide +kernel, by decide +kernel⟩, List.mem_of_getElem? (i := 120) (by decide +kernel), List.mem_of_getElem? (i := 453) (by decide +kernel), List.mem_of_getElem? (i := 454) (by decide +kernel)⟩
theorem lw_p8 : lw_okq (⟨"SilenceMinute$Seating", "spread", "(I)V"⟩, 4) := ⟨⟨by decide +kernel, by decide +kernel⟩, List.mem_of_getElem? (i := 120) (by decide +kernel), List.mem_of_getElem? (i := 457) (by decide +kernel), List.mem_of_getElem? (i := 458) (by decide +kernel)⟩
theorem lw_p9 : lw_okq (⟨"SilenceMinute$Seating", "twosInOneCompartment", "()I"⟩, 4) := ⟨⟨by decide +kernel, by decide +kernel⟩, List.mem_of_getElem? (i := 120) (by decide +kernel), List.mem_of_getElem? (i := 461) (by decide +kernel), List.mem_of_getElem? (i := 462) (by decide +kernel)⟩
theorem lw_p10 : lw_okq (⟨"SilenceMinute$Seating", "digitsAsNumber", "()I"⟩, 4) := ⟨⟨by decide +kernel, by decide +kernel⟩, List.mem_of_getElem? (i := 120) (by decide +kernel), List.mem_of_getElem? (i := 465) (by decide +kernel), List.mem_of_getElem? (i := 466) (by decide +kernel)⟩
theorem lw_p11 : lw_okq (⟨"SilenceMinute", "topPayer", "()I"⟩, 9) := ⟨⟨by decide +kernel, by decide +kernel⟩, List.mem_of_getElem? (i := 13) (by decide +kernel), List.mem_of_getElem? (i := 485) (by decide +kernel), List.mem_of_getElem? (i := 486) (by decide +kernel)⟩
theorem lw_p12 : lw_okq (⟨"SilenceMinute", "paidByCompartment", "(I)I"⟩, 9) := ⟨⟨by decide +kernel, by decide +kernel⟩, List.mem_of_getElem? (i := 13) (by decide +kernel), List.mem_of_getElem? (i := 489) (by decide +kernel), List.mem_of_getElem? (i := 490) (by decide +kernel)⟩
theorem lw_p13 : lw_okq (⟨"SilenceMinute$Sale", "leaveOff", "(I)V"⟩, 3) := ⟨⟨by decide +kernel, by decide +kernel⟩, List.mem_of_getElem? (i := 141) (by decide +kernel), List.mem_of_getElem? (i := 544) (by decide +kernel), List.mem_of_getElem? (i := 545) (by decide +kernel)⟩
theorem lw_p14 : lw_okq (⟨"SilenceMinute$Sale", "valueFor", "(II)I"⟩, 3) := ⟨⟨by decide +kernel, by decide +kernel⟩, List.mem_of_getElem? (i := 141) (by decide +kernel), List.mem_of_getElem? (i := 555) (by decide +kernel), List.mem_of_getElem? (i := 556) (by decide +kernel)⟩
theorem lw_p15 : lw_okq (⟨"SilenceMinute", "chancesToCough", "(I)I"⟩, 9) := ⟨⟨by decide +kernel, by decide +kernel⟩, List.mem_of_getElem? (i := 13) (by decide +kernel), List.mem_of_getElem? (i := 565) (by decide +kernel), List.mem_of_getElem? (i := 566) (by decide +kernel)⟩
def lw_privs_1 : List (MethodName × Nat) := [(⟨"SilenceMinute$Pad", "follow", "(II)I"⟩, 2), (⟨"SilenceMinute", "padCanBe", "()Z"⟩, 9), (⟨"SilenceMinute$Train", "payGuard", "(II)V"⟩, 11), (⟨"SilenceMinute", "letAllMinutesPass", "()V"⟩, 9), (⟨"SilenceMinute", "keepsSilence", "(II)Z"⟩, 9), (⟨"SilenceMinute", "paidInTrial", "(I)I"⟩, 9), (⟨"SilenceMinute$Seating", "waysInAll", "()I"⟩, 4), (⟨"SilenceMinute$Seating", "isRider", "(I)Z"⟩, 4), (⟨"SilenceMinute$Seating", "spread", "(I)V"⟩, 4), (⟨"SilenceMinute$Seating", "twosInOneCompartment", "()I"⟩, 4), (⟨"SilenceMinute$Seating", "digitsAsNumber", "()I"⟩, 4), (⟨"SilenceMinute", "topPayer", "()I"⟩, 9), (⟨"SilenceMinute", "paidByCompartment", "(I)I"⟩, 9), (⟨"SilenceMinute$Sale", "leaveOff", "(I)V"⟩, 3), (⟨"SilenceMinute$Sale", "valueFor", "(II)I"⟩, 3), (⟨"SilenceMinute", "chancesToCough", "(I)I"⟩, 9)]
theorem lw_r1 : ∀ q ∈ lw_privs_1, lw_okq q := List.forall_mem_cons.mpr ⟨lw_p0, List.forall_mem_cons.mpr ⟨lw_p1, List.forall_mem_cons.mpr ⟨lw_p2, List.forall_mem_cons.mpr ⟨lw_p3, List.forall_mem_cons.mpr ⟨lw_p4, List.forall_mem_cons.mpr ⟨lw_p5, List.forall_mem_cons.mpr ⟨lw_p6, List.forall_mem_cons.mpr ⟨lw_p7, List.forall_mem_cons.mpr ⟨lw_p8, List.forall_mem_cons.mpr ⟨lw_p9, List.forall_mem_cons.mpr ⟨lw_p10, List.forall_mem_cons.mpr ⟨lw_p11, List.forall_mem_cons.mpr ⟨lw_p12, List.forall_mem_cons.mpr ⟨lw_p13, List.forall_mem_cons.mpr ⟨lw_p14, List.forall_mem_cons.mpr ⟨lw_p15, fun _ h => absurd h List.not_mem_nil⟩⟩⟩⟩⟩⟩⟩⟩⟩⟩⟩⟩⟩⟩⟩⟩
theorem lw_p16 : lw_okq (⟨"SilenceMinute", "imageAt", "(I)LSilenceMinute$Image;"⟩, 9) := ⟨⟨by decide +kernel, by decide +kernel⟩, List.mem_of_getElem? (i := 13) (by decide +kernel), List.mem_of_getElem? (i := 588) (by decide +kernel), List.mem_of_getElem? (i := 589) (by decide +kernel)⟩
theorem lw_p17 : lw_okq (⟨"SilenceMinute", "toldOf", "(II)I"⟩, 9) := ⟨⟨by decide +kernel, by decide +kernel⟩, List.mem_of_getElem? (i := 13) (by decide +kernel), List.mem_of_getElem? (i := 613) (by decide +kernel), List.mem_of_getElem? (i := 614) (by decide +kernel)⟩
theorem lw_p18 : lw_okq (⟨"SilenceMinuteModel", "rides", "(II)Z"⟩, 27) := ⟨⟨by decide +kernel, by decide +kernel⟩, List.mem_of_getElem? (i := 617) (by decide +kernel), List.mem_of_getElem? (i := 727) (by decide +kernel), List.mem_of_getElem? (i := 728) (by decide +kernel)⟩
theorem lw_p19 : lw_okq (⟨"SilenceMinuteModel", "faultOf", "()I"⟩, 27) := ⟨⟨by decide +kernel, by decide +kernel⟩, List.mem_of_getElem? (i := 617) (by decide +kernel), List.mem_of_getElem? (i := 758) (by decide +kernel), List.mem_of_getElem? (i := 759) (by decide +kernel)⟩
theorem lw_p20 : lw_okq (⟨"SilenceMinuteModel", "goRides", "()I"⟩, 27) := ⟨⟨by decide +kernel, by decide +kernel⟩, List.mem_of_getElem? (i := 617) (by decide +kernel), List.mem_of_getElem? (i := 772) (by decide +kernel), List.mem_of_getElem? (i := 773) (by decide +kernel)⟩
theorem lw_p21 : lw_okq (⟨"SilenceMinuteModel", "asNow", "()V"⟩, 27) := ⟨⟨by decide +kernel, by decide +kernel⟩, List.mem_of_getElem? (i := 617) (by decide +kernel), List.mem_of_getElem? (i := 776) (by decide +kernel), List.mem_of_getElem? (i := 777) (by decide +kernel)⟩
theorem lw_p22 : lw_okq (⟨"SilenceMinuteModel", "pass", "()V"⟩, 27) := ⟨⟨by decide +kernel, by decide +kernel⟩, List.mem_of_getElem? (i := 617) (by decide +kernel), List.mem_of_getElem? (i := 780) (by decide +kernel), List.mem_of_getElem? (i := 781) (by decide +kernel)⟩
theorem lw_p23 : lw_okq (⟨"SilenceMinuteModel", "holder", "(I)I"⟩, 27) := ⟨⟨by decide +kernel, by decide +kernel⟩, List.mem_of_getElem? (i := 617) (by decide +kernel), List.mem_of_getElem? (i := 784) (by decide +kernel), List.mem_of_getElem? (i := 785) (by decide +kernel)⟩
theorem lw_p24 : lw_okq (⟨"SilenceMinuteModel", "isTunnel", "(I)Z"⟩, 27) := ⟨⟨by decide +kernel, by decide +kernel⟩, List.mem_of_getElem? (i := 617) (by decide +kernel), List.mem_of_getElem? (i := 788) (by decide +kernel), List.mem_of_getElem? (i := 789) (by decide +kernel)⟩
theorem lw_p25 : lw_okq (⟨"SilenceMinuteModel", "whyNot", "(II)I"⟩, 27) := ⟨⟨by decide +kernel, by decide +kernel⟩, List.mem_of_getElem? (i := 617) (by decide +kernel), List.mem_of_getElem? (i := 795) (by decide +kernel), List.mem_of_getElem? (i := 796) (by decide +kernel)⟩
theorem lw_p26 : lw_okq (⟨"SilenceMinuteModel", "ridesNow", "(I)Z"⟩, 27) := ⟨⟨by decide +kernel, by decide +kernel⟩, List.mem_of_getElem? (i := 617) (by decide +kernel), List.mem_of_getElem? (i := 799) (by decide +kernel), List.mem_of_getElem? (i := 800) (by decide +kernel)⟩
theorem lw_p27 : lw_okq (⟨"SilenceMinuteModel", "maySpeak", "(I)Z"⟩, 27) := ⟨⟨by decide +kernel, by decide +kernel⟩, List.mem_of_getElem? (i := 617) (by decide +kernel), List.mem_of_getElem? (i := 803) (by decide +kernel), List.mem_of_getElem? (i := 804) (by decide +kernel)⟩
theorem lw_p28 : lw_okq (⟨"SilenceMinuteModel", "cough", "(I)V"⟩, 27) := ⟨⟨by decide +kernel, by decide +kernel⟩, List.mem_of_getElem? (i := 617) (by decide +kernel), List.mem_of_getElem? (i := 807) (by decide +kernel), List.mem_of_getElem? (i := 808) (by decide +kernel)⟩
theorem lw_p29 : lw_okq (⟨"SilenceMinuteModel", "barOfRides", "()I"⟩, 27) := ⟨⟨by decide +kernel, by decide +kernel⟩, List.mem_of_getElem? (i := 617) (by decide +kernel), List.mem_of_getElem? (i := 815) (by decide +kernel), List.mem_of_getElem? (i := 816) (by decide +kernel)⟩
theorem lw_p30 : lw_okq (⟨"SilenceMinuteModel", "toEnd", "()V"⟩, 27) := ⟨⟨by decide +kernel, by decide +kernel⟩, List.mem_of_getElem? (i := 617) (by decide +kernel), List.mem_of_getElem? (i := 839) (by decide +kernel), List.mem_of_getElem? (i := 840) (by decide +kernel)⟩
theorem lw_p31 : lw_okq (⟨"SilenceMinuteModel", "ridesAtAll", "(I)Z"⟩, 27) := ⟨⟨by decide +kernel, by decide +kernel⟩, List.mem_of_getElem? (i := 617) (by decide +kernel), List.mem_of_getElem? (i := 855) (by decide +kernel), List.mem_of_getElem? (i := 856) (by decide +kernel)⟩
def lw_privs_2 : List (MethodName × Nat) := [(⟨"SilenceMinute", "imageAt", "(I)LSilenceMinute$Image;"⟩, 9), (⟨"SilenceMinute", "toldOf", "(II)I"⟩, 9), (⟨"SilenceMinuteModel", "rides", "(II)Z"⟩, 27), (⟨"SilenceMinuteModel", "faultOf", "()I"⟩, 27), (⟨"SilenceMinuteModel", "goRides", "()I"⟩, 27), (⟨"SilenceMinuteModel", "asNow", "()V"⟩, 27), (⟨"SilenceMinuteModel", "pass", "()V"⟩, 27), (⟨"SilenceMinuteModel", "holder", "(I)I"⟩, 27), (⟨"SilenceMinuteModel", "isTunnel", "(I)Z"⟩, 27), (⟨"SilenceMinuteModel", "whyNot", "(II)I"⟩, 27), (⟨"SilenceMinuteModel", "ridesNow", "(I)Z"⟩, 27), (⟨"SilenceMinuteModel", "maySpeak", "(I)Z"⟩, 27), (⟨"SilenceMinuteModel", "cough", "(I)V"⟩, 27), (⟨"SilenceMinuteModel", "barOfRides", "()I"⟩, 27), (⟨"SilenceMinuteModel", "toEnd", "()V"⟩, 27), (⟨"SilenceMinuteModel", "ridesAtAll", "(I)Z"⟩, 27)]
theorem lw_r2 : ∀ q ∈ lw_privs_2, lw_okq q := List.forall_mem_cons.mpr ⟨lw_p16, List.forall_mem_cons.mpr ⟨lw_p17, List.forall_mem_cons.mpr ⟨lw_p18, List.forall_mem_cons.mpr ⟨lw_p19, List.forall_mem_cons.mpr ⟨lw_p20, List.forall_mem_cons.mpr ⟨lw_p21, List.forall_mem_cons.mpr ⟨lw_p22, List.forall_mem_cons.mpr ⟨lw_p23, List.forall_mem_cons.mpr ⟨lw_p24, List.forall_mem_cons.mpr ⟨lw_p25, List.forall_mem_cons.mpr ⟨lw_p26, List.forall_mem_cons.mpr ⟨lw_p27, List.forall_mem_cons.mpr ⟨lw_p28, List.forall_mem_cons.mpr ⟨lw_p29, List.forall_mem_cons.mpr ⟨lw_p30, List.forall_mem_cons.mpr ⟨lw_p31, fun _ h => absurd h List.not_mem_nil⟩⟩⟩⟩⟩⟩⟩⟩⟩⟩⟩⟩⟩⟩⟩⟩
theorem lw_p32 : lw_okq (⟨"SilenceMinuteModel", "rideAtOnce", "(II)Z"⟩, 27) := ⟨⟨by decide +kernel, by decide +kernel⟩, List.mem_of_getElem? (i := 617) (by decide +kernel), List.mem_of_getElem? (i := 859) (by decide +kernel), List.mem_of_getElem? (i := 860) (by decide +kernel)⟩
theorem lw_p33 : lw_okq (⟨"SilenceMinuteModel", "goWord", "(III)I"⟩, 27) := ⟨⟨by decide +kernel, by decide +kernel⟩, List.mem_of_getElem? (i := 617) (by decide +kernel), List.mem_of_getElem? (i := 867) (by decide +kernel), List.mem_of_getElem? (i := 868) (by decide +kernel)⟩
theorem lw_p34 : lw_okq (⟨"SilenceMinuteModel", "humSet", "()I"⟩, 27) := ⟨⟨by decide +kernel, by decide +kernel⟩, List.mem_of_getElem? (i := 617) (by decide +kernel), List.mem_of_getElem? (i := 891) (by decide +kernel), List.mem_of_getElem? (i := 892) (by decide +kernel)⟩
def lw_privs_3 : List (MethodName × Nat) := [(⟨"SilenceMinuteModel", "rideAtOnce", "(II)Z"⟩, 27), (⟨"SilenceMinuteModel", "goWord", "(III)I"⟩, 27), (⟨"SilenceMinuteModel", "humSet", "()I"⟩, 27)]
theorem lw_r3 : ∀ q ∈ lw_privs_3, lw_okq q := List.forall_mem_cons.mpr ⟨lw_p32, List.forall_mem_cons.mpr ⟨lw_p33, List.forall_mem_cons.mpr ⟨lw_p34, fun _ h => absurd h List.not_mem_nil⟩⟩⟩
def lw_privs : List (MethodName × Nat) := lw_privs_1 ++ (lw_privs_2 ++ (lw_privs_3))
def lw_tbl : List Cond := k2_sels lw_privs ++ tables_1
theorem lw_privs_ok : ∀ q ∈ lw_privs, lw_okq q := by
  show ∀ q ∈ lw_privs_1 ++ (lw_privs_2 ++ (lw_privs_3)), lw_okq q
  exact List.forall_mem_append.mpr ⟨lw_r1, List.forall_mem_append.mpr ⟨lw_r2, lw_r3⟩⟩
def RX0 : String := "SilenceMinute$Image"
def TX0 : u_T := fun k => match k with
  | 0 => ("SilenceMinute$Image", "kept", "Z", false)
  | 1 => ("SilenceMinute$Image", "train", "LSilenceMinute$Train;", true)
  | _ => ("SilenceMinute$Image", "sights", "LSilenceMinute$Sights;", true)
def tyX0 : Nat → FieldType := fun k => match k with
  | 0 => .boolean
  | 1 => .object "SilenceMinute$Train"
  | _ => .object "SilenceMinute$Sights"
theorem nmX0 : ∀ a, a < 3 → ∀ b, b < 3 → a ≠ b → (TX0 a).2.1 ≠ (TX0 b).2.1 := by decide +kernel
theorem tyX0_ok : ∀ k, k < 3 → parseFieldDescriptor (TX0 k).2.2.1 = some (tyX0 k) := by decide +kernel
def RX1 : String := "SilenceMinute$Pad"
def TX1 : u_T := fun k => match k with
  | 0 => ("SilenceMinute$Pad", "signs", "[I", true)
  | _ => ("SilenceMinute$Pad", "count", "I", false)
def tyX1 : Nat → FieldType := fun k => match k with
  | 0 => .array .int
  | _ => .int
theorem nmX1 : ∀ a, a < 2 → ∀ b, b < 2 → a ≠ b → (TX1 a).2.1 ≠ (TX1 b).2.1 := by decide +kernel
theorem tyX1_ok : ∀ k, k < 2 → parseFieldDescriptor (TX1 k).2.2.1 = some (tyX1 k) := by decide +kernel
def RX2 : String := "SilenceMinute$Sale"
def TX2 : u_T := fun k => match k with
  | 0 => ("SilenceMinute$Sale", "winner", "I", false)
  | 1 => ("SilenceMinute$Sale", "price", "I", false)
  | _ => ("SilenceMinute$Sale", "loss", "I", false)
def tyX2 : Nat → FieldType := fun k => match k with
  | 0 => .int
  | 1 => .int
  | _ => .int
theorem nmX2 : ∀ a, a < 3 → ∀ b, b < 3 → a ≠ b → (TX2 a).2.1 ≠ (TX2 b).2.1 := by decide +kernel
theorem tyX2_ok : ∀ k, k < 3 → parseFieldDescriptor (TX2 k).2.2.1 = some (tyX2 k) := by decide +kernel
def RX3 : String := "SilenceMinute$Seating"
def TX3 : u_T := fun k => match k with
  | 0 => ("SilenceMinute$Seating", "ways", "I", false)
  | 1 => ("SilenceMinute$Seating", "first", "I", false)
  | 2 => ("SilenceMinute$Seating", "riders", "I", false)
  | _ => ("SilenceMinute$Seating", "digits", "[I", true)
def tyX3 : Nat → FieldType := fun k => match k with
  | 0 => .int
  | 1 => .int
  | 2 => .int
  | _ => .array .int
theorem nmX3 : ∀ a, a < 4 → ∀ b, b < 4 → a ≠ b → (TX3 a).2.1 ≠ (TX3 b).2.1 := by decide +kernel
theorem tyX3_ok : ∀ k, k < 4 → parseFieldDescriptor (TX3 k).2.2.1 = some (tyX3 k) := by decide +kernel
def RX4 : String := "SilenceMinute$Sights"
def TX4 : u_T := fun k => match k with
  | 0 => ("SilenceMinute$Sights", "minutes", "[I", true)
  | 1 => ("SilenceMinute$Sights", "travellers", "[I", true)
  | _ => ("SilenceMinute$Sights", "count", "I", false)
def tyX4 : Nat → FieldType := fun k => match k with
  | 0 => .array .int
  | 1 => .array .int
  | _ => .int
theorem nmX4 : ∀ a, a < 3 → ∀ b, b < 3 → a ≠ b → (TX4 a).2.1 ≠ (TX4 b).2.1 := by decide +kernel
theorem tyX4_ok : ∀ k, k < 3 → parseFieldDescriptor (TX4 k).2.2.1 = some (tyX4 k) := by decide +kernel
def RX5 : String := "SilenceMinute$Train"
def TX5 : u_T := fun k => match k with
  | 0 => ("SilenceMinute$Train", "length", "I", false)
  | 1 => ("SilenceMinute$Train", "minute", "I", false)
  | 2 => ("SilenceMinute$Train", "guard", "I", false)
  | 3 => ("SilenceMinute$Train", "fineAmount", "I", false)
  | 4 => ("SilenceMinute$Train", "finesPaid", "I", false)
  | 5 => ("SilenceMinute$Train", "tunnels", "I", false)
  | 6 => ("SilenceMinute$Train", "from", "[I", true)
  | 7 => ("SilenceMinute$Train", "to", "[I", true)
  | 8 => ("SilenceMinute$Train", "seats", "[I", true)
  | 9 => ("SilenceMinute$Train", "purses", "[I", true)
  | _ => ("SilenceMinute$Train", "bids", "[I", true)
def tyX5 : Nat → FieldType := fun k => match k with
  | 0 => .int
  | 1 => .int
  | 2 => .int
  | 3 => .int
  | 4 => .int
  | 5 => .int
  | 6 => .array .int
  | 7 => .array .int
  | 8 => .array .int
  | 9 => .array .int
  | _ => .array .int
theorem nmX5 : ∀ a, a < 11 → ∀ b, b < 11 → a ≠ b → (TX5 a).2.1 ≠ (TX5 b).2.1 := by decide +kernel
theorem tyX5_ok : ∀ k, k < 11 → parseFieldDescriptor (TX5 k).2.2.1 = some (tyX5 k) := by decide +kernel
def RX6 : String := "SilenceMinute$Verdict"
def TX6 : u_T := fun k => match k with
  | 0 => ("SilenceMinute$Verdict", "acts", "I", false)
  | _ => ("SilenceMinute$Verdict", "why", "I", false)
def tyX6 : Nat → FieldType := fun k => match k with
  | 0 => .int
  | _ => .int
theorem nmX6 : ∀ a, a < 2 → ∀ b, b < 2 → a ≠ b → (TX6 a).2.1 ≠ (TX6 b).2.1 := by decide +kernel
theorem tyX6_ok : ∀ k, k < 2 → parseFieldDescriptor (TX6 k).2.2.1 = some (tyX6 k) := by decide +kernel
def RX7 : String := "SilenceMinute"
def TX7 : u_T := fun k => match k with
  | 0 => ("SilenceMinute", "now", "LSilenceMinute$Train;", true)
  | 1 => ("SilenceMinute", "trial", "LSilenceMinute$Train;", true)
  | 2 => ("SilenceMinute", "pad", "LSilenceMinute$Pad;", true)
  | 3 => ("SilenceMinute", "verdict", "LSilenceMinute$Verdict;", true)
  | 4 => ("SilenceMinute", "sights", "LSilenceMinute$Sights;", true)
  | 5 => ("SilenceMinute", "seating", "LSilenceMinute$Seating;", true)
  | 6 => ("SilenceMinute", "sale", "LSilenceMinute$Sale;", true)
  | 7 => ("SilenceMinute", "firstImage", "LSilenceMinute$Image;", true)
  | _ => ("SilenceMinute", "secondImage", "LSilenceMinute$Image;", true)
def tyX7 : Nat → FieldType := fun k => match k with
  | 0 => .object "SilenceMinute$Train"
  | 1 => .object "SilenceMinute$Train"
  | 2 => .object "SilenceMinute$Pad"
  | 3 => .object "SilenceMinute$Verdict"
  | 4 => .object "SilenceMinute$Sights"
  | 5 => .object "SilenceMinute$Seating"
  | 6 => .object "SilenceMinute$Sale"
  | 7 => .object "SilenceMinute$Image"
  | _ => .object "SilenceMinute$Image"
theorem nmX7 : ∀ a, a < 9 → ∀ b, b < 9 → a ≠ b → (TX7 a).2.1 ≠ (TX7 b).2.1 := by decide +kernel
theorem tyX7_ok : ∀ k, k < 9 → parseFieldDescriptor (TX7 k).2.2.1 = some (tyX7 k) := by decide +kernel
def RX8 : String := "SilenceMinuteModel"
def TX8 : u_T := fun k => match k with
  | 0 => ("SilenceMinuteModel", "length", "I", false)
  | 1 => ("SilenceMinuteModel", "tunnels", "I", false)
  | 2 => ("SilenceMinuteModel", "from", "[I", true)
  | 3 => ("SilenceMinuteModel", "to", "[I", true)
  | 4 => ("SilenceMinuteModel", "seat", "[I", true)
  | 5 => ("SilenceMinuteModel", "purse", "[I", true)
  | 6 => ("SilenceMinuteModel", "bid", "[I", true)
  | 7 => ("SilenceMinuteModel", "fine", "I", false)
  | 8 => ("SilenceMinuteModel", "minute", "I", false)
  | 9 => ("SilenceMinuteModel", "guard", "I", false)
  | 10 => ("SilenceMinuteModel", "sights", "I", false)
  | 11 => ("SilenceMinuteModel", "sight", "[I", true)
  | 12 => ("SilenceMinuteModel", "signs", "I", false)
  | 13 => ("SilenceMinuteModel", "pad", "[I", true)
  | 14 => ("SilenceMinuteModel", "has1", "[I", true)
  | 15 => ("SilenceMinuteModel", "bids", "[I", true)
  | 16 => ("SilenceMinuteModel", "now", "I", false)
  | 17 => ("SilenceMinuteModel", "guardNow", "I", false)
  | 18 => ("SilenceMinuteModel", "fines", "I", false)
  | 19 => ("SilenceMinuteModel", "paid", "[I", true)
  | 20 => ("SilenceMinuteModel", "paidIn", "[I", true)
  | 21 => ("SilenceMinuteModel", "reason", "I", false)
  | 22 => ("SilenceMinuteModel", "acts", "I", false)
  | 23 => ("SilenceMinuteModel", "knows", "I", false)
  | 24 => ("SilenceMinuteModel", "ends", "[I", true)
  | 25 => ("SilenceMinuteModel", "image", "[I", true)
  | _ => ("SilenceMinuteModel", "isKept", "[Z", true)
def tyX8 : Nat → FieldType := fun k => match k with
  | 0 => .int
  | 1 => .int
  | 2 => .array .int
  | 3 => .array .int
  | 4 => .array .int
  | 5 => .array .int
  | 6 => .array .int
  | 7 => .int
  | 8 => .int
  | 9 => .int
  | 10 => .int
  | 11 => .array .int
  | 12 => .int
  | 13 => .array .int
  | 14 => .array .int
  | 15 => .array .int
  | 16 => .int
  | 17 => .int
  | 18 => .int
  | 19 => .array .int
  | 20 => .array .int
  | 21 => .int
  | 22 => .int
  | 23 => .int
  | 24 => .array .int
  | 25 => .array .int
  | _ => .array .boolean
theorem nmX8 : ∀ a, a < 27 → ∀ b, b < 27 → a ≠ b → (TX8 a).2.1 ≠ (TX8 b).2.1 := by decide +kernel
theorem tyX8_ok : ∀ k, k < 27 → parseFieldDescriptor (TX8 k).2.2.1 = some (tyX8 k) := by decide +kernel
def RJ6 : String := "java/lang/Integer"
def RJ9 : String := "java/lang/Math"
def RL : String := "SilenceMinuteLaw"
abbrev cls : List vw_C := [(RX0, TX0, 3), (RX1, TX1, 2), (RX2, TX2, 3), (RX3, TX3, 4), (RX4, TX4, 3), (RX5, TX5, 11), (RX6, TX6, 2), (RX7, TX7, 9), (RX8, TX8, 27)]
def lw_gd : List Cond := lw_tbl.filter goodWord
theorem gd_at {w : Cond} (i : Nat) (h : lw_tbl[i]? = some w) (hg : goodWord w = true) : w ∈ lw_gd := List.mem_filter.mpr ⟨List.mem_of_getElem? h, hg⟩
theorem gd1 {w : Cond} (i : Nat) (h : tables_1_1[i]? = some w) (hg : goodWord w = true) : w ∈ lw_gd := List.mem_filter.mpr ⟨List.mem_append_right _ (List.mem_append_left _ (List.mem_of_getElem? h)), hg⟩
theorem gd2 {w : Cond} (i : Nat) (h : tables_1_2[i]? = some w) (hg : goodWord w = true) : w ∈ lw_gd := List.mem_filter.mpr ⟨List.mem_append_right _ (List.mem_append_right _ (List.mem_append_left _ (List.mem_of_getElem? h))), hg⟩
theorem gd3 {w : Cond} (i : Nat) (h : tables_1_3[i]? = some w) (hg : goodWord w = true) : w ∈ lw_gd := List.mem_filter.mpr ⟨List.mem_append_right _ (List.mem_append_right _ (List.mem_append_right _ (List.mem_append_left _ (List.mem_of_getElem? h)))), hg⟩
theorem gd4 {w : Cond} (i : Nat) (h : tables_1_4[i]? = some w) (hg : goodWord w = true) : w ∈ lw_gd := List.mem_filter.mpr ⟨List.mem_append_right _ (List.mem_append_right _ (List.mem_append_right _ (List.mem_append_right _ (List.mem_of_getElem? h)))), hg⟩
theorem gd_good : ∀ w ∈ lw_gd, (w.onTables && w.keeps) = true ∨ ∃ ty, w = .arrayClass ty := fun _ h => good_of_word (List.mem_filter.mp h).2
theorem gd_tbl : ∀ w ∈ lw_gd, w ∈ lw_tbl := fun _ h => (List.mem_filter.mp h).1
/-- a method: its name, code, locals, answer, frames and locals of its callees -/
abbrev Mt : Type := MethodName × ByteArray × Nat × Option FieldType × Nat × Nat
abbrev mY (M : Mt) : MethodName := M.1
abbrev mC (M : Mt) : ByteArray := M.2.1
abbrev mL (M : Mt) : Nat := M.2.2.1
abbrev mR (M : Mt) : Option FieldType := M.2.2.2.1
abbrev mF (M : Mt) : Nat := M.2.2.2.2.1
abbrev mO (M : Mt) : Nat := M.2.2.2.2.2
def mK (M : Mt) : Cond := .code (mY M) (mC M) (mL M) (mR M)
def mWs (M : Mt) : List Cond := mK M :: lw_gd
def mRm (M : Mt) : Room := { frames := mF M, cells := 0, slots := 0, locals := mO M }
/-- what the tables say of a method itself -/
def mOk (M : Mt) (n : Nat) : Prop := mK M ∈ lw_gd ∧ Cond.initialized (mY M).cls ∈ lw_gd ∧ ((mY M).cls ≠ "java/lang/invoke/MethodHandle" ∧ (mY M).cls ≠ "java/lang/invoke/VarHandle" ∧ (parseMethodDescriptor (mY M).desc).map (fun d => d.parameters.length) = some n) ∧ plainName (mY M).cls = true
def mVirt (M : Mt) : Prop := Cond.instanceMethod (mY M) ∈ lw_gd ∧ Cond.selects (mY M).cls (mY M) (mY M) ∈ lw_gd
def mStat (M : Mt) : Prop := Cond.static (mY M) ∈ lw_gd
def mLk (own : String) (i : Nat) (M : Mt) : Prop := Cond.methodLink own i (mY M) ∈ lw_gd
/-- the two links to private statics of the nest's host -/
def nst : List Cond := [.methodLinkNest "SilenceMinute$Train" 50 ⟨"SilenceMinute", "isTraveller", "(I)Z"⟩ "SilenceMinute", .methodLinkNest "SilenceMinute$Pad" 23 ⟨"SilenceMinute", "isWithin", "(III)Z"⟩ "SilenceMinute"]
/-- a field link: class ci of cls, field j -/
def fLk (own : String) (i ci j : Nat) : Prop := ∃ (C : String) (T : u_T) (N : Nat), cls[ci]? = some (C, T, N) ∧ j < N ∧ (T j).1 = C ∧ Cond.fieldLink own i C (T j).2.1 (T j).2.2.1 ∈ lw_gd
/-- a class's own rows -/
def cOk (ci : Nat) : Prop := ∃ (C : String) (T : u_T) (N : Nat) (ty : Nat → FieldType), cls[ci]? = some (C, T, N) ∧ (∀ w ∈ u_ws C T N, w ∈ lw_gd) ∧ (∀ k, k < N → parseFieldDescriptor (T k).2.2.1 = some (ty k)) ∧ (∀ a, a < N → ∀ b, b < N → a ≠ b → (T a).2.1 ≠ (T b).2.1) ∧ Cond.instantiable C N ∈ lw_gd ∧ Cond.initialized C ∈ lw_gd
def MX0_init : Mt := (⟨RX0, "<init>", "()V"⟩, prog_2_method_1_code, 1, none, 2, 41)
def MX0_keep : Mt := (⟨RX0, "keep", "(LSilenceMinute$Train;LSilenceMinute$Sights;)V"⟩, prog_2_method_2_code, 3, none, 1, 22)
def MX0_bringBack : Mt := (⟨RX0, "bringBack", "(LSilenceMinute$Train;LSilenceMinute$Sights;)Z"⟩, prog_2_method_3_code, 3, (some .boolean), 1, 22)
def MX1_init : Mt := (⟨RX1, "<init>", "()V"⟩, prog_3_method_1_code, 1, none, 1, 20)
def MX1_write : Mt := (⟨RX1, "write", "(I)Z"⟩, prog_3_method_2_code, 2, (some .boolean), 0, 0)
def MX1_clear : Mt := (⟨RX1, "clear", "()I"⟩, prog_3_method_3_code, 2, (some .int), 0, 0)
def MX1_signAt : Mt := (⟨RX1, "signAt", "(I)I"⟩, prog_3_method_4_code, 2, (some .int), 0, 0)
def MX1_isDigitAt : Mt := (⟨RX1, "isDigitAt", "(I)Z"⟩, prog_3_method_5_code, 2, (some .boolean), 1, 22)
def MX1_faultPlace : Mt := (⟨RX1, "faultPlace", "()I"⟩, prog_3_method_6_code, 3, (some .int), 3, 67)
def MX1_follow : Mt := (⟨RX1, "follow", "(II)I"⟩, prog_3_method_7_code, 5, (some .int), 2, 43)
def MX1_actLength : Mt := (⟨RX1, "actLength", "(I)I"⟩, prog_3_method_8_code, 2, (some .int), 2, 43)
def MX2_init : Mt := (⟨RX2, "<init>", "()V"⟩, prog_4_method_1_code, 1, none, 1, 20)
def MX2_settle : Mt := (⟨RX2, "settle", "(II)V"⟩, prog_4_method_2_code, 6, none, 3, 62)
def MX2_moverBehind : Mt := (⟨RX2, "moverBehind", "(I)I"⟩, prog_4_method_3_code, 1, (some .int), 0, 0)
def MX2_wordBefore : Mt := (⟨RX2, "wordBefore", "(I)I"⟩, prog_4_method_4_code, 1, (some .int), 1, 21)
def MX2_valueFor : Mt := (⟨RX2, "valueFor", "(II)I"⟩, prog_4_method_5_code, 3, (some .int), 0, 0)
def MX2_leaveOff : Mt := (⟨RX2, "leaveOff", "(I)V"⟩, prog_4_method_6_code, 2, none, 2, 41)
def MX3_init : Mt := (⟨RX3, "<init>", "()V"⟩, prog_5_method_1_code, 1, none, 1, 20)
def MX3_countWays : Mt := (⟨RX3, "countWays", "(LSilenceMinute$Train;II)V"⟩, prog_5_method_2_code, 9, none, 3, 69)
def MX3_isRider : Mt := (⟨RX3, "isRider", "(I)Z"⟩, prog_5_method_3_code, 2, (some .boolean), 0, 0)
def MX3_waysInAll : Mt := (⟨RX3, "waysInAll", "()I"⟩, prog_5_method_4_code, 3, (some .int), 1, 21)
def MX3_spread : Mt := (⟨RX3, "spread", "(I)V"⟩, prog_5_method_5_code, 4, none, 1, 21)
def MX3_digitsAsNumber : Mt := (⟨RX3, "digitsAsNumber", "()I"⟩, prog_5_method_6_code, 3, (some .int), 0, 0)
def MX3_twosInOneCompartment : Mt := (⟨RX3, "twosInOneCompartment", "()I"⟩, prog_5_method_7_code, 5, (some .int), 0, 0)
def MX3_meetableTwos : Mt := (⟨RX3, "meetableTwos", "(LSilenceMinute$Train;)I"⟩, prog_5_method_8_code, 5, (some .int), 2, 45)
def MX4_init : Mt := (⟨RX4, "<init>", "()V"⟩, prog_6_method_1_code, 1, none, 1, 20)
def MX4_copyFrom : Mt := (⟨RX4, "copyFrom", "(LSilenceMinute$Sights;)V"⟩, prog_6_method_2_code, 3, none, 0, 0)
def MX4_add : Mt := (⟨RX4, "add", "(II)Z"⟩, prog_6_method_3_code, 3, (some .boolean), 0, 0)
def MX4_clear : Mt := (⟨RX4, "clear", "()I"⟩, prog_6_method_4_code, 2, (some .int), 0, 0)
def MX4_suspects : Mt := (⟨RX4, "suspects", "(LSilenceMinute$Train;)I"⟩, prog_6_method_5_code, 4, (some .int), 4, 91)
def MX5_init : Mt := (⟨RX5, "<init>", "()V"⟩, prog_7_method_1_code, 2, none, 1, 20)
def MX5_copyFrom : Mt := (⟨RX5, "copyFrom", "(LSilenceMinute$Train;)V"⟩, prog_7_method_2_code, 3, none, 0, 0)
def MX5_isTunnel : Mt := (⟨RX5, "isTunnel", "(I)Z"⟩, prog_7_method_3_code, 2, (some .boolean), 0, 0)
def MX5_tunnelsOfLine : Mt := (⟨RX5, "tunnelsOfLine", "()I"⟩, prog_7_method_4_code, 3, (some .int), 1, 21)
def MX5_setRide : Mt := (⟨RX5, "setRide", "(III)V"⟩, prog_7_method_5_code, 4, none, 1, 20)
def MX5_setBid : Mt := (⟨RX5, "setBid", "(II)V"⟩, prog_7_method_6_code, 3, none, 1, 20)
def MX5_ridesAt : Mt := (⟨RX5, "ridesAt", "(II)Z"⟩, prog_7_method_7_code, 3, (some .boolean), 0, 0)
def MX5_ridesIn : Mt := (⟨RX5, "ridesIn", "(III)Z"⟩, prog_7_method_8_code, 4, (some .boolean), 1, 22)
def MX5_ridesNow : Mt := (⟨RX5, "ridesNow", "(I)Z"⟩, prog_7_method_9_code, 2, (some .boolean), 1, 22)
def MX5_ridesFromNowOn : Mt := (⟨RX5, "ridesFromNowOn", "(I)Z"⟩, prog_7_method_10_code, 3, (some .boolean), 1, 22)
def MX5_minutesOf : Mt := (⟨RX5, "minutesOf", "(I)I"⟩, prog_7_method_11_code, 4, (some .int), 1, 22)
def MX5_ridersOf : Mt := (⟨RX5, "ridersOf", "(II)I"⟩, prog_7_method_12_code, 5, (some .int), 2, 45)
def MX5_companionsOf : Mt := (⟨RX5, "companionsOf", "(II)I"⟩, prog_7_method_13_code, 3, (some .int), 3, 69)
def MX5_ridersOfLine : Mt := (⟨RX5, "ridersOfLine", "()I"⟩, prog_7_method_14_code, 3, (some .int), 2, 45)
def MX5_rideTogether : Mt := (⟨RX5, "rideTogether", "(II)Z"⟩, prog_7_method_15_code, 4, (some .boolean), 1, 22)
def MX5_holderOf : Mt := (⟨RX5, "holderOf", "(I)I"⟩, prog_7_method_16_code, 6, (some .int), 1, 22)
def MX5_isHolder : Mt := (⟨RX5, "isHolder", "(I)Z"⟩, prog_7_method_17_code, 2, (some .boolean), 2, 47)
def MX5_maySpeak : Mt := (⟨RX5, "maySpeak", "(I)Z"⟩, prog_7_method_18_code, 3, (some .boolean), 2, 47)
def MX5_passMinute : Mt := (⟨RX5, "passMinute", "()Z"⟩, prog_7_method_19_code, 3, (some .boolean), 2, 47)
def MX5_takeCough : Mt := (⟨RX5, "takeCough", "(I)V"⟩, prog_7_method_20_code, 4, none, 2, 47)
def MX5_payGuard : Mt := (⟨RX5, "payGuard", "(II)V"⟩, prog_7_method_21_code, 3, none, 1, 20)
def MX5_doDrawn : Mt := (⟨RX5, "doDrawn", "(I)V"⟩, prog_7_method_22_code, 4, none, 3, 70)
def MX5_knownAfter : Mt := (⟨RX5, "knownAfter", "(II)I"⟩, prog_7_method_23_code, 6, (some .int), 3, 69)
def MX6_init : Mt := (⟨RX6, "<init>", "()V"⟩, prog_8_method_1_code, 1, none, 1, 20)
def MX6_tryRides : Mt := (⟨RX6, "tryRides", "(LSilenceMinute$Pad;LSilenceMinute$Train;)V"⟩, prog_8_method_2_code, 5, none, 4, 95)
def MX6_tryAct : Mt := (⟨RX6, "tryAct", "(LSilenceMinute$Pad;ILSilenceMinute$Train;)I"⟩, prog_8_method_3_code, 6, (some .int), 3, 70)
def MX7_init : Mt := (⟨RX7, "<init>", "()V"⟩, prog_1_method_1_code, 1, none, 3, 61)
def MX7_line : Mt := (⟨RX7, "line", "(I)I"⟩, prog_1_method_2_code, 3, (some .int), 1, 22)
def MX7_tunnel : Mt := (⟨RX7, "tunnel", "(IZ)I"⟩, prog_1_method_3_code, 4, (some .int), 2, 43)
def MX7_ride : Mt := (⟨RX7, "ride", "(III)I"⟩, prog_1_method_4_code, 4, (some .int), 2, 45)
def MX7_seat : Mt := (⟨RX7, "seat", "(II)I"⟩, prog_1_method_5_code, 4, (some .int), 1, 20)
def MX7_purse : Mt := (⟨RX7, "purse", "(II)I"⟩, prog_1_method_6_code, 4, (some .int), 1, 22)
def MX7_fine : Mt := (⟨RX7, "fine", "(I)I"⟩, prog_1_method_7_code, 3, (some .int), 1, 22)
def MX7_say : Mt := (⟨RX7, "say", "(I)I"⟩, prog_1_method_8_code, 2, (some .int), 1, 22)
def MX7_wipe : Mt := (⟨RX7, "wipe", "()I"⟩, prog_1_method_9_code, 1, (some .int), 1, 21)
def MX7_fault : Mt := (⟨RX7, "fault", "()I"⟩, prog_1_method_10_code, 1, (some .int), 4, 89)
def MX7_judge : Mt := (⟨RX7, "judge", "(I)I"⟩, prog_1_method_11_code, 2, (some .int), 6, 139)
def MX7_done : Mt := (⟨RX7, "done", "()I"⟩, prog_1_method_12_code, 1, (some .int), 6, 139)
def MX7_behind : Mt := (⟨RX7, "behind", "(I)I"⟩, prog_1_method_13_code, 2, (some .int), 6, 139)
def MX7_holds : Mt := (⟨RX7, "holds", "(I)I"⟩, prog_1_method_14_code, 2, (some .int), 2, 47)
def MX7_hears : Mt := (⟨RX7, "hears", "(I)I"⟩, prog_1_method_15_code, 2, (some .int), 4, 91)
def MX7_forecast : Mt := (⟨RX7, "forecast", "(II)I"⟩, prog_1_method_16_code, 4, (some .int), 3, 69)
def MX7_rests : Mt := (⟨RX7, "rests", "(I)I"⟩, prog_1_method_17_code, 2, (some .int), 4, 90)
def MX7_talks : Mt := (⟨RX7, "talks", "(II)I"⟩, prog_1_method_18_code, 5, (some .int), 3, 69)
def MX7_buy : Mt := (⟨RX7, "buy", "(II)I"⟩, prog_1_method_19_code, 4, (some .int), 4, 93)
def MX7_seats : Mt := (⟨RX7, "seats", "(III)I"⟩, prog_1_method_20_code, 4, (some .int), 4, 97)
def MX7_word : Mt := (⟨RX7, "word", "(II)I"⟩, prog_1_method_21_code, 5, (some .int), 4, 94)
def MX7_heard : Mt := (⟨RX7, "heard", "(III)I"⟩, prog_1_method_22_code, 6, (some .int), 4, 94)
def MX7_richest : Mt := (⟨RX7, "richest", "(I)I"⟩, prog_1_method_23_code, 4, (some .int), 4, 90)
def MX7_seen : Mt := (⟨RX7, "seen", "(II)I"⟩, prog_1_method_24_code, 3, (some .int), 1, 22)
def MX7_forget : Mt := (⟨RX7, "forget", "()I"⟩, prog_1_method_25_code, 1, (some .int), 1, 21)
def MX7_hum : Mt := (⟨RX7, "hum", "()I"⟩, prog_1_method_26_code, 1, (some .int), 5, 114)
def MX7_watch : Mt := (⟨RX7, "watch", "(I)I"⟩, prog_1_method_27_code, 8, (some .int), 5, 114)
def MX7_auction : Mt := (⟨RX7, "auction", "(III)I"⟩, prog_1_method_28_code, 4, (some .int), 4, 87)
def MX7_coughs : Mt := (⟨RX7, "coughs", "(III)J"⟩, prog_1_method_29_code, 4, (some .long), 4, 92)
def MX7_year : Mt := (⟨RX7, "year", "(III)I"⟩, prog_1_method_30_code, 6, (some .int), 4, 93)
def MX7_image : Mt := (⟨RX7, "image", "(I)I"⟩, prog_1_method_31_code, 2, (some .int), 2, 44)
def MX7_restore : Mt := (⟨RX7, "restore", "(I)I"⟩, prog_1_method_32_code, 2, (some .int), 2, 44)
def MX7_told : Mt := (⟨RX7, "told", "(I)I"⟩, prog_1_method_33_code, 2, (some .int), 2, 42)
def MX7_isWithin : Mt := (⟨RX7, "isWithin", "(III)Z"⟩, prog_1_method_34_code, 3, (some .boolean), 0, 0)
def MX7_isTraveller : Mt := (⟨RX7, "isTraveller", "(I)Z"⟩, prog_1_method_35_code, 1, (some .boolean), 0, 0)
def MX7_isCompartment : Mt := (⟨RX7, "isCompartment", "(I)Z"⟩, prog_1_method_36_code, 1, (some .boolean), 0, 0)
def MX7_isMinute : Mt := (⟨RX7, "isMinute", "(I)Z"⟩, prog_1_method_37_code, 1, (some .boolean), 0, 0)
def MX7_padCanBe : Mt := (⟨RX7, "padCanBe", "()Z"⟩, prog_1_method_38_code, 1, (some .boolean), 5, 119)
def MX7_letAllMinutesPass : Mt := (⟨RX7, "letAllMinutesPass", "()V"⟩, prog_1_method_39_code, 2, none, 3, 69)
def MX7_keepsSilence : Mt := (⟨RX7, "keepsSilence", "(II)Z"⟩, prog_1_method_40_code, 5, (some .boolean), 3, 69)
def MX7_paidInTrial : Mt := (⟨RX7, "paidInTrial", "(I)I"⟩, prog_1_method_41_code, 2, (some .int), 1, 20)
def MX7_paidByCompartment : Mt := (⟨RX7, "paidByCompartment", "(I)I"⟩, prog_1_method_42_code, 4, (some .int), 2, 41)
def MX7_topPayer : Mt := (⟨RX7, "topPayer", "()I"⟩, prog_1_method_43_code, 4, (some .int), 2, 41)
def MX7_leftAtMost : Mt := (⟨RX7, "leftAtMost", "(II)I"⟩, prog_1_method_44_code, 4, (some .int), 1, 21)
def MX7_chancesToCough : Mt := (⟨RX7, "chancesToCough", "(I)I"⟩, prog_1_method_45_code, 4, (some .int), 3, 69)
def MX7_tenthsInLowestTerms : Mt := (⟨RX7, "tenthsInLowestTerms", "(II)I"⟩, prog_1_method_46_code, 4, (some .int), 0, 0)
def MX7_imageAt : Mt := (⟨RX7, "imageAt", "(I)LSilenceMinute$Image;"⟩, prog_1_method_47_code, 2, (some (.object "SilenceMinute$Image")), 0, 0)
def MX7_toldOf : Mt := (⟨RX7, "toldOf", "(II)I"⟩, prog_1_method_48_code, 3, (some .int), 1, 20)
def MX8_init : Mt := (⟨RX8, "<init>", "()V"⟩, prog_10_method_1_code, 2, none, 1, 20)
def MX8_in : Mt := (⟨RX8, "in", "(III)Z"⟩, prog_10_method_2_code, 3, (some .boolean), 0, 0)
def MX8_has : Mt := (⟨RX8, "has", "(II)Z"⟩, prog_10_method_3_code, 2, (some .boolean), 0, 0)
def MX8_bits : Mt := (⟨RX8, "bits", "(I)I"⟩, prog_10_method_4_code, 3, (some .int), 0, 0)
def MX8_isOne : Mt := (⟨RX8, "isOne", "(I)Z"⟩, prog_10_method_5_code, 1, (some .boolean), 1, 22)
def MX8_isRoom : Mt := (⟨RX8, "isRoom", "(I)Z"⟩, prog_10_method_6_code, 1, (some .boolean), 1, 22)
def MX8_line : Mt := (⟨RX8, "line", "(I)I"⟩, prog_10_method_7_code, 3, (some .int), 1, 22)
def MX8_tunnel : Mt := (⟨RX8, "tunnel", "(IZ)I"⟩, prog_10_method_8_code, 3, (some .int), 1, 22)
def MX8_rides : Mt := (⟨RX8, "rides", "(II)Z"⟩, prog_10_method_9_code, 3, (some .boolean), 1, 22)
def MX8_ride : Mt := (⟨RX8, "ride", "(III)I"⟩, prog_10_method_10_code, 7, (some .int), 2, 44)
def MX8_seat : Mt := (⟨RX8, "seat", "(II)I"⟩, prog_10_method_11_code, 4, (some .int), 2, 42)
def MX8_purse : Mt := (⟨RX8, "purse", "(II)I"⟩, prog_10_method_12_code, 4, (some .int), 2, 42)
def MX8_fine : Mt := (⟨RX8, "fine", "(I)I"⟩, prog_10_method_13_code, 3, (some .int), 1, 22)
def MX8_say : Mt := (⟨RX8, "say", "(I)I"⟩, prog_10_method_14_code, 2, (some .int), 1, 22)
def MX8_wipe : Mt := (⟨RX8, "wipe", "()I"⟩, prog_10_method_15_code, 2, (some .int), 0, 0)
def MX8_isLetter : Mt := (⟨RX8, "isLetter", "(I)Z"⟩, prog_10_method_16_code, 1, (some .boolean), 1, 22)
def MX8_isDigit : Mt := (⟨RX8, "isDigit", "(I)Z"⟩, prog_10_method_17_code, 1, (some .boolean), 1, 22)
def MX8_faultOf : Mt := (⟨RX8, "faultOf", "()I"⟩, prog_10_method_18_code, 6, (some .int), 2, 42)
def MX8_fault : Mt := (⟨RX8, "fault", "()I"⟩, prog_10_method_19_code, 1, (some .int), 3, 67)
def MX8_asNow : Mt := (⟨RX8, "asNow", "()V"⟩, prog_10_method_20_code, 2, none, 0, 0)
def MX8_isTunnel : Mt := (⟨RX8, "isTunnel", "(I)Z"⟩, prog_10_method_21_code, 2, (some .boolean), 1, 21)
def MX8_holder : Mt := (⟨RX8, "holder", "(I)I"⟩, prog_10_method_22_code, 5, (some .int), 2, 44)
def MX8_pass : Mt := (⟨RX8, "pass", "()V"⟩, prog_10_method_23_code, 3, none, 3, 68)
def MX8_ridesNow : Mt := (⟨RX8, "ridesNow", "(I)Z"⟩, prog_10_method_24_code, 2, (some .boolean), 2, 44)
def MX8_maySpeak : Mt := (⟨RX8, "maySpeak", "(I)Z"⟩, prog_10_method_25_code, 3, (some .boolean), 3, 68)
def MX8_cough : Mt := (⟨RX8, "cough", "(I)V"⟩, prog_10_method_26_code, 4, none, 3, 68)
def MX8_whyNot : Mt := (⟨RX8, "whyNot", "(II)I"⟩, prog_10_method_27_code, 3, (some .int), 4, 90)
def MX8_goRides : Mt := (⟨RX8, "goRides", "()I"⟩, prog_10_method_28_code, 4, (some .int), 5, 112)
def MX8_judge : Mt := (⟨RX8, "judge", "(I)I"⟩, prog_10_method_29_code, 3, (some .int), 6, 135)
def MX8_barOfRides : Mt := (⟨RX8, "barOfRides", "()I"⟩, prog_10_method_30_code, 1, (some .int), 6, 135)
def MX8_done : Mt := (⟨RX8, "done", "()I"⟩, prog_10_method_31_code, 2, (some .int), 7, 155)
def MX8_behind : Mt := (⟨RX8, "behind", "(I)I"⟩, prog_10_method_32_code, 2, (some .int), 7, 155)
def MX8_holds : Mt := (⟨RX8, "holds", "(I)I"⟩, prog_10_method_33_code, 2, (some .int), 3, 68)
def MX8_hears : Mt := (⟨RX8, "hears", "(I)I"⟩, prog_10_method_34_code, 4, (some .int), 4, 90)
def MX8_forecast : Mt := (⟨RX8, "forecast", "(II)I"⟩, prog_10_method_35_code, 4, (some .int), 4, 90)
def MX8_toEnd : Mt := (⟨RX8, "toEnd", "()V"⟩, prog_10_method_36_code, 1, none, 4, 90)
def MX8_rests : Mt := (⟨RX8, "rests", "(I)I"⟩, prog_10_method_37_code, 2, (some .int), 5, 110)
def MX8_talks : Mt := (⟨RX8, "talks", "(II)I"⟩, prog_10_method_38_code, 4, (some .int), 4, 90)
def MX8_buy : Mt := (⟨RX8, "buy", "(II)I"⟩, prog_10_method_39_code, 6, (some .int), 4, 90)
def MX8_ridesAtAll : Mt := (⟨RX8, "ridesAtAll", "(I)Z"⟩, prog_10_method_40_code, 4, (some .boolean), 2, 44)
def MX8_rideAtOnce : Mt := (⟨RX8, "rideAtOnce", "(II)Z"⟩, prog_10_method_41_code, 5, (some .boolean), 2, 44)
def MX8_seats : Mt := (⟨RX8, "seats", "(III)I"⟩, prog_10_method_42_code, 14, (some .int), 3, 68)
def MX8_goWord : Mt := (⟨RX8, "goWord", "(III)I"⟩, prog_10_method_43_code, 10, (some .int), 2, 44)
def MX8_word : Mt := (⟨RX8, "word", "(II)I"⟩, prog_10_method_44_code, 3, (some .int), 3, 73)
def MX8_heard : Mt := (⟨RX8, "heard", "(III)I"⟩, prog_10_method_45_code, 4, (some .int), 3, 73)
def MX8_richest : Mt := (⟨RX8, "richest", "(I)I"⟩, prog_10_method_46_code, 6, (some .int), 5, 110)
def MX8_seen : Mt := (⟨RX8, "seen", "(II)I"⟩, prog_10_method_47_code, 3, (some .int), 2, 42)
def MX8_forget : Mt := (⟨RX8, "forget", "()I"⟩, prog_10_method_48_code, 2, (some .int), 0, 0)
def MX8_humSet : Mt := (⟨RX8, "humSet", "()I"⟩, prog_10_method_49_code, 6, (some .int), 3, 67)
def MX8_hum : Mt := (⟨RX8, "hum", "()I"⟩, prog_10_method_50_code, 1, (some .int), 4, 92)
def MX8_watch : Mt := (⟨RX8, "watch", "(I)I"⟩, prog_10_method_51_code, 9, (some .int), 4, 92)
def MX8_auction : Mt := (⟨RX8, "auction", "(III)I"⟩, prog_10_method_52_code, 10, (some .int), 1, 22)
def MX8_coughs : Mt := (⟨RX8, "coughs", "(III)J"⟩, prog_10_method_53_code, 12, (some .long), 4, 90)
def MX8_year : Mt := (⟨RX8, "year", "(III)I"⟩, prog_10_method_54_code, 8, (some .int), 4, 91)
def MX8_image : Mt := (⟨RX8, "image", "(I)I"⟩, prog_10_method_55_code, 4, (some .int), 1, 22)
def MX8_restore : Mt := (⟨RX8, "restore", "(I)I"⟩, prog_10_method_56_code, 4, (some .int), 1, 22)
def MX8_told : Mt := (⟨RX8, "told", "(I)I"⟩, prog_10_method_57_code, 3, (some .int), 2, 42)
def MJ6_bitCount : Mt := (⟨RJ6, "bitCount", "(I)I"⟩, prog_11_method_49_code, 1, (some .int), 0, 0)
def MJ9_max : Mt := (⟨RJ9, "max", "(II)I"⟩, prog_12_method_65_code, 2, (some .int), 0, 0)
def MJ9_min : Mt := (⟨RJ9, "min", "(II)I"⟩, prog_12_method_69_code, 2, (some .int), 0, 0)
theorem ok_MX0_keep : mOk MX0_keep 2 := ⟨gd3 114 rfl rfl, gd1 8 rfl rfl, (by decide +kernel), (by decide +kernel)⟩
theorem vi_MX0_keep : mVirt MX0_keep := ⟨gd3 112 rfl rfl, gd3 113 rfl rfl⟩
theorem ok_MX0_bringBack : mOk MX0_bringBack 2 := ⟨gd3 127 rfl rfl, gd1 8 rfl rfl, (by decide +kernel), (by decide +kernel)⟩
theorem vi_MX0_bringBack : mVirt MX0_bringBack := ⟨gd3 125 rfl rfl, gd3 126 rfl rfl⟩
theorem ok_MX1_write : mOk MX1_write 1 := ⟨gd2 30 rfl rfl, gd1 3 rfl rfl, (by decide +kernel), (by decide +kernel)⟩
theorem vi_MX1_write : mVirt MX1_write := ⟨gd2 28 rfl rfl, gd2 29 rfl rfl⟩
theorem ok_MX1_clear : mOk MX1_clear 0 := ⟨gd2 38 rfl rfl, gd1 3 rfl rfl, (by decide +kernel), (by decide +kernel)⟩
theorem vi_MX1_clear : mVirt MX1_clear := ⟨gd2 36 rfl rfl, gd2 37 rfl rfl⟩
theorem ok_MX1_signAt : mOk MX1_signAt 1 := ⟨gd2 54 rfl rfl, gd1 3 rfl rfl, (by decide +kernel), (by decide +kernel)⟩
theorem vi_MX1_signAt : mVirt MX1_signAt := ⟨gd2 52 rfl rfl, gd2 53 rfl rfl⟩
theorem ok_MX1_isDigitAt : mOk MX1_isDigitAt 1 := ⟨gd2 59 rfl rfl, gd1 3 rfl rfl, (by decide +kernel), (by decide +kernel)⟩
theorem vi_MX1_isDigitAt : mVirt MX1_isDigitAt := ⟨gd2 57 rfl rfl, gd2 58 rfl rfl⟩
theorem ok_MX1_faultPlace : mOk MX1_faultPlace 0 := ⟨gd2 46 rfl rfl, gd1 3 rfl rfl, (by decide +kernel), (by decide +kernel)⟩
theorem vi_MX1_faultPlace : mVirt MX1_faultPlace := ⟨gd2 44 rfl rfl, gd2 45 rfl rfl⟩
theorem ok_MX1_follow : mOk MX1_follow 2 := ⟨gd2 50 rfl rfl, gd1 3 rfl rfl, (by decide +kernel), (by decide +kernel)⟩
theorem vi_MX1_follow : mVirt MX1_follow := ⟨gd2 49 rfl rfl, gd_at 0 (by decide +kernel) rfl⟩
theorem ok_MX1_actLength : mOk MX1_actLength 1 := ⟨gd2 116 rfl rfl, gd1 3 rfl rfl, (by decide +kernel), (by decide +kernel)⟩
theorem vi_MX1_actLength : mVirt MX1_actLength := ⟨gd2 114 rfl rfl, gd2 115 rfl rfl⟩
theorem ok_MX2_settle : mOk MX2_settle 2 := ⟨gd3 62 rfl rfl, gd1 7 rfl rfl, (by decide +kernel), (by decide +kernel)⟩
theorem vi_MX2_settle : mVirt MX2_settle := ⟨gd3 60 rfl rfl, gd3 61 rfl rfl⟩
theorem ok_MX2_moverBehind : mOk MX2_moverBehind 1 := ⟨gd3 69 rfl rfl, gd1 7 rfl rfl, (by decide +kernel), (by decide +kernel)⟩
theorem st_MX2_moverBehind : mStat MX2_moverBehind := gd3 68 rfl rfl
theorem ok_MX2_wordBefore : mOk MX2_wordBefore 1 := ⟨gd3 72 rfl rfl, gd1 7 rfl rfl, (by decide +kernel), (by decide +kernel)⟩
theorem st_MX2_wordBefore : mStat MX2_wordBefore := gd3 71 rfl rfl
theorem ok_MX2_valueFor : mOk MX2_valueFor 2 := ⟨gd3 77 rfl rfl, gd1 7 rfl rfl, (by decide +kernel), (by decide +kernel)⟩
theorem vi_MX2_valueFor : mVirt MX2_valueFor := ⟨gd3 76 rfl rfl, gd_at 14 (by decide +kernel) rfl⟩
theorem ok_MX2_leaveOff : mOk MX2_leaveOff 1 := ⟨gd3 66 rfl rfl, gd1 7 rfl rfl, (by decide +kernel), (by decide +kernel)⟩
theorem vi_MX2_leaveOff : mVirt MX2_leaveOff := ⟨gd3 65 rfl rfl, gd_at 13 (by decide +kernel) rfl⟩
theorem ok_MX3_countWays : mOk MX3_countWays 3 := ⟨gd2 195 rfl rfl, gd1 6 rfl rfl, (by decide +kernel), (by decide +kernel)⟩
theorem vi_MX3_countWays : mVirt MX3_countWays := ⟨gd2 193 rfl rfl, gd2 194 rfl rfl⟩
theorem ok_MX3_isRider : mOk MX3_isRider 1 := ⟨gd2 215 rfl rfl, gd1 6 rfl rfl, (by decide +kernel), (by decide +kernel)⟩
theorem vi_MX3_isRider : mVirt MX3_isRider := ⟨gd2 214 rfl rfl, gd_at 7 (by decide +kernel) rfl⟩
theorem ok_MX3_waysInAll : mOk MX3_waysInAll 0 := ⟨gd2 211 rfl rfl, gd1 6 rfl rfl, (by decide +kernel), (by decide +kernel)⟩
theorem vi_MX3_waysInAll : mVirt MX3_waysInAll := ⟨gd2 210 rfl rfl, gd_at 6 (by decide +kernel) rfl⟩
theorem ok_MX3_spread : mOk MX3_spread 1 := ⟨gd2 219 rfl rfl, gd1 6 rfl rfl, (by decide +kernel), (by decide +kernel)⟩
theorem vi_MX3_spread : mVirt MX3_spread := ⟨gd2 218 rfl rfl, gd_at 8 (by decide +kernel) rfl⟩
theorem ok_MX3_digitsAsNumber : mOk MX3_digitsAsNumber 0 := ⟨gd2 227 rfl rfl, gd1 6 rfl rfl, (by decide +kernel), (by decide +kernel)⟩
theorem vi_MX3_digitsAsNumber : mVirt MX3_digitsAsNumber := ⟨gd2 226 rfl rfl, gd_at 10 (by decide +kernel) rfl⟩
theorem ok_MX3_twosInOneCompartment : mOk MX3_twosInOneCompartment 0 := ⟨gd2 223 rfl rfl, gd1 6 rfl rfl, (by decide +kernel), (by decide +kernel)⟩
theorem vi_MX3_twosInOneCompartment : mVirt MX3_twosInOneCompartment := ⟨gd2 222 rfl rfl, gd_at 9 (by decide +kernel) rfl⟩
theorem ok_MX3_meetableTwos : mOk MX3_meetableTwos 1 := ⟨gd2 203 rfl rfl, gd1 6 rfl rfl, (by decide +kernel), (by decide +kernel)⟩
theorem st_MX3_meetableTwos : mStat MX3_meetableTwos := gd2 202 rfl rfl
theorem ok_MX4_copyFrom : mOk MX4_copyFrom 1 := ⟨gd3 119 rfl rfl, gd1 5 rfl rfl, (by decide +kernel), (by decide +kernel)⟩
theorem vi_MX4_copyFrom : mVirt MX4_copyFrom := ⟨gd3 117 rfl rfl, gd3 118 rfl rfl⟩
theorem ok_MX4_add : mOk MX4_add 2 := ⟨gd3 19 rfl rfl, gd1 5 rfl rfl, (by decide +kernel), (by decide +kernel)⟩
theorem vi_MX4_add : mVirt MX4_add := ⟨gd3 17 rfl rfl, gd3 18 rfl rfl⟩
theorem ok_MX4_clear : mOk MX4_clear 0 := ⟨gd3 27 rfl rfl, gd1 5 rfl rfl, (by decide +kernel), (by decide +kernel)⟩
theorem vi_MX4_clear : mVirt MX4_clear := ⟨gd3 25 rfl rfl, gd3 26 rfl rfl⟩
theorem ok_MX4_suspects : mOk MX4_suspects 1 := ⟨gd3 35 rfl rfl, gd1 5 rfl rfl, (by decide +kernel), (by decide +kernel)⟩
theorem vi_MX4_suspects : mVirt MX4_suspects := ⟨gd3 33 rfl rfl, gd3 34 rfl rfl⟩
theorem ok_MX5_copyFrom : mOk MX5_copyFrom 1 := ⟨gd2 71 rfl rfl, gd1 2 rfl rfl, (by decide +kernel), (by decide +kernel)⟩
theorem vi_MX5_copyFrom : mVirt MX5_copyFrom := ⟨gd2 69 rfl rfl, gd2 70 rfl rfl⟩
theorem ok_MX5_isTunnel : mOk MX5_isTunnel 1 := ⟨gd1 227 rfl rfl, gd1 2 rfl rfl, (by decide +kernel), (by decide +kernel)⟩
theorem vi_MX5_isTunnel : mVirt MX5_isTunnel := ⟨gd1 225 rfl rfl, gd1 226 rfl rfl⟩
theorem ok_MX5_tunnelsOfLine : mOk MX5_tunnelsOfLine 0 := ⟨gd1 223 rfl rfl, gd1 2 rfl rfl, (by decide +kernel), (by decide +kernel)⟩
theorem vi_MX5_tunnelsOfLine : mVirt MX5_tunnelsOfLine := ⟨gd1 221 rfl rfl, gd1 222 rfl rfl⟩
theorem ok_MX5_setRide : mOk MX5_setRide 3 := ⟨gd1 238 rfl rfl, gd1 2 rfl rfl, (by decide +kernel), (by decide +kernel)⟩
theorem vi_MX5_setRide : mVirt MX5_setRide := ⟨gd1 236 rfl rfl, gd1 237 rfl rfl⟩
theorem ok_MX5_setBid : mOk MX5_setBid 2 := ⟨gd2 96 rfl rfl, gd1 2 rfl rfl, (by decide +kernel), (by decide +kernel)⟩
theorem vi_MX5_setBid : mVirt MX5_setBid := ⟨gd2 94 rfl rfl, gd2 95 rfl rfl⟩
theorem ok_MX5_ridesAt : mOk MX5_ridesAt 2 := ⟨gd2 7 rfl rfl, gd1 2 rfl rfl, (by decide +kernel), (by decide +kernel)⟩
theorem vi_MX5_ridesAt : mVirt MX5_ridesAt := ⟨gd2 5 rfl rfl, gd2 6 rfl rfl⟩
theorem ok_MX5_ridesIn : mOk MX5_ridesIn 3 := ⟨gd2 146 rfl rfl, gd1 2 rfl rfl, (by decide +kernel), (by decide +kernel)⟩
theorem vi_MX5_ridesIn : mVirt MX5_ridesIn := ⟨gd2 144 rfl rfl, gd2 145 rfl rfl⟩
theorem ok_MX5_ridesNow : mOk MX5_ridesNow 1 := ⟨gd2 100 rfl rfl, gd1 2 rfl rfl, (by decide +kernel), (by decide +kernel)⟩
theorem vi_MX5_ridesNow : mVirt MX5_ridesNow := ⟨gd2 98 rfl rfl, gd2 99 rfl rfl⟩
theorem ok_MX5_ridesFromNowOn : mOk MX5_ridesFromNowOn 1 := ⟨gd2 172 rfl rfl, gd1 2 rfl rfl, (by decide +kernel), (by decide +kernel)⟩
theorem vi_MX5_ridesFromNowOn : mVirt MX5_ridesFromNowOn := ⟨gd2 170 rfl rfl, gd2 171 rfl rfl⟩
theorem ok_MX5_minutesOf : mOk MX5_minutesOf 1 := ⟨gd2 3 rfl rfl, gd1 2 rfl rfl, (by decide +kernel), (by decide +kernel)⟩
theorem vi_MX5_minutesOf : mVirt MX5_minutesOf := ⟨gd2 1 rfl rfl, gd2 2 rfl rfl⟩
theorem ok_MX5_ridersOf : mOk MX5_ridersOf 2 := ⟨gd2 142 rfl rfl, gd1 2 rfl rfl, (by decide +kernel), (by decide +kernel)⟩
theorem vi_MX5_ridersOf : mVirt MX5_ridersOf := ⟨gd2 140 rfl rfl, gd2 141 rfl rfl⟩
theorem ok_MX5_companionsOf : mOk MX5_companionsOf 2 := ⟨gd2 138 rfl rfl, gd1 2 rfl rfl, (by decide +kernel), (by decide +kernel)⟩
theorem vi_MX5_companionsOf : mVirt MX5_companionsOf := ⟨gd2 136 rfl rfl, gd2 137 rfl rfl⟩
theorem ok_MX5_ridersOfLine : mOk MX5_ridersOfLine 0 := ⟨gd2 199 rfl rfl, gd1 2 rfl rfl, (by decide +kernel), (by decide +kernel)⟩
theorem vi_MX5_ridersOfLine : mVirt MX5_ridersOfLine := ⟨gd2 197 rfl rfl, gd2 198 rfl rfl⟩
theorem ok_MX5_rideTogether : mOk MX5_rideTogether 2 := ⟨gd2 207 rfl rfl, gd1 2 rfl rfl, (by decide +kernel), (by decide +kernel)⟩
theorem vi_MX5_rideTogether : mVirt MX5_rideTogether := ⟨gd2 205 rfl rfl, gd2 206 rfl rfl⟩
theorem ok_MX5_holderOf : mOk MX5_holderOf 1 := ⟨gd2 87 rfl rfl, gd1 2 rfl rfl, (by decide +kernel), (by decide +kernel)⟩
theorem vi_MX5_holderOf : mVirt MX5_holderOf := ⟨gd2 85 rfl rfl, gd2 86 rfl rfl⟩
theorem ok_MX5_isHolder : mOk MX5_isHolder 1 := ⟨gd2 183 rfl rfl, gd1 2 rfl rfl, (by decide +kernel), (by decide +kernel)⟩
theorem vi_MX5_isHolder : mVirt MX5_isHolder := ⟨gd2 181 rfl rfl, gd2 182 rfl rfl⟩
theorem ok_MX5_maySpeak : mOk MX5_maySpeak 1 := ⟨gd2 104 rfl rfl, gd1 2 rfl rfl, (by decide +kernel), (by decide +kernel)⟩
theorem vi_MX5_maySpeak : mVirt MX5_maySpeak := ⟨gd2 102 rfl rfl, gd2 103 rfl rfl⟩
theorem ok_MX5_passMinute : mOk MX5_passMinute 0 := ⟨gd2 83 rfl rfl, gd1 2 rfl rfl, (by decide +kernel), (by decide +kernel)⟩
theorem vi_MX5_passMinute : mVirt MX5_passMinute := ⟨gd2 81 rfl rfl, gd2 82 rfl rfl⟩
theorem ok_MX5_takeCough : mOk MX5_takeCough 1 := ⟨gd2 109 rfl rfl, gd1 2 rfl rfl, (by decide +kernel), (by decide +kernel)⟩
theorem vi_MX5_takeCough : mVirt MX5_takeCough := ⟨gd2 107 rfl rfl, gd2 108 rfl rfl⟩
theorem ok_MX5_payGuard : mOk MX5_payGuard 2 := ⟨gd2 91 rfl rfl, gd1 2 rfl rfl, (by decide +kernel), (by decide +kernel)⟩
theorem vi_MX5_payGuard : mVirt MX5_payGuard := ⟨gd2 90 rfl rfl, gd_at 2 (by decide +kernel) rfl⟩
theorem ok_MX5_doDrawn : mOk MX5_doDrawn 1 := ⟨gd3 99 rfl rfl, gd1 2 rfl rfl, (by decide +kernel), (by decide +kernel)⟩
theorem vi_MX5_doDrawn : mVirt MX5_doDrawn := ⟨gd3 97 rfl rfl, gd3 98 rfl rfl⟩
theorem ok_MX5_knownAfter : mOk MX5_knownAfter 2 := ⟨gd2 235 rfl rfl, gd1 2 rfl rfl, (by decide +kernel), (by decide +kernel)⟩
theorem vi_MX5_knownAfter : mVirt MX5_knownAfter := ⟨gd2 233 rfl rfl, gd2 234 rfl rfl⟩
theorem ok_MX6_tryRides : mOk MX6_tryRides 2 := ⟨gd2 75 rfl rfl, gd1 4 rfl rfl, (by decide +kernel), (by decide +kernel)⟩
theorem vi_MX6_tryRides : mVirt MX6_tryRides := ⟨gd2 73 rfl rfl, gd2 74 rfl rfl⟩
theorem ok_MX6_tryAct : mOk MX6_tryAct 3 := ⟨gd2 78 rfl rfl, gd1 4 rfl rfl, (by decide +kernel), (by decide +kernel)⟩
theorem st_MX6_tryAct : mStat MX6_tryAct := gd2 77 rfl rfl
theorem ok_MX7_line : mOk MX7_line 1 := ⟨gd1 209 rfl rfl, gd1 1 rfl rfl, (by decide +kernel), (by decide +kernel)⟩
theorem vi_MX7_line : mVirt MX7_line := ⟨gd1 207 rfl rfl, gd1 208 rfl rfl⟩
theorem ok_MX7_tunnel : mOk MX7_tunnel 2 := ⟨gd1 216 rfl rfl, gd1 1 rfl rfl, (by decide +kernel), (by decide +kernel)⟩
theorem vi_MX7_tunnel : mVirt MX7_tunnel := ⟨gd1 214 rfl rfl, gd1 215 rfl rfl⟩
theorem ok_MX7_ride : mOk MX7_ride 3 := ⟨gd1 231 rfl rfl, gd1 1 rfl rfl, (by decide +kernel), (by decide +kernel)⟩
theorem vi_MX7_ride : mVirt MX7_ride := ⟨gd1 229 rfl rfl, gd1 230 rfl rfl⟩
theorem ok_MX7_seat : mOk MX7_seat 2 := ⟨gd2 11 rfl rfl, gd1 1 rfl rfl, (by decide +kernel), (by decide +kernel)⟩
theorem vi_MX7_seat : mVirt MX7_seat := ⟨gd2 9 rfl rfl, gd2 10 rfl rfl⟩
theorem ok_MX7_purse : mOk MX7_purse 2 := ⟨gd2 18 rfl rfl, gd1 1 rfl rfl, (by decide +kernel), (by decide +kernel)⟩
theorem vi_MX7_purse : mVirt MX7_purse := ⟨gd2 16 rfl rfl, gd2 17 rfl rfl⟩
theorem ok_MX7_fine : mOk MX7_fine 1 := ⟨gd2 22 rfl rfl, gd1 1 rfl rfl, (by decide +kernel), (by decide +kernel)⟩
theorem vi_MX7_fine : mVirt MX7_fine := ⟨gd2 20 rfl rfl, gd2 21 rfl rfl⟩
theorem ok_MX7_say : mOk MX7_say 1 := ⟨gd2 26 rfl rfl, gd1 1 rfl rfl, (by decide +kernel), (by decide +kernel)⟩
theorem vi_MX7_say : mVirt MX7_say := ⟨gd2 24 rfl rfl, gd2 25 rfl rfl⟩
theorem ok_MX7_wipe : mOk MX7_wipe 0 := ⟨gd2 34 rfl rfl, gd1 1 rfl rfl, (by decide +kernel), (by decide +kernel)⟩
theorem vi_MX7_wipe : mVirt MX7_wipe := ⟨gd2 32 rfl rfl, gd2 33 rfl rfl⟩
theorem ok_MX7_fault : mOk MX7_fault 0 := ⟨gd2 42 rfl rfl, gd1 1 rfl rfl, (by decide +kernel), (by decide +kernel)⟩
theorem vi_MX7_fault : mVirt MX7_fault := ⟨gd2 40 rfl rfl, gd2 41 rfl rfl⟩
theorem ok_MX7_judge : mOk MX7_judge 1 := ⟨gd2 63 rfl rfl, gd1 1 rfl rfl, (by decide +kernel), (by decide +kernel)⟩
theorem vi_MX7_judge : mVirt MX7_judge := ⟨gd2 61 rfl rfl, gd2 62 rfl rfl⟩
theorem ok_MX7_done : mOk MX7_done 0 := ⟨gd2 120 rfl rfl, gd1 1 rfl rfl, (by decide +kernel), (by decide +kernel)⟩
theorem vi_MX7_done : mVirt MX7_done := ⟨gd2 118 rfl rfl, gd2 119 rfl rfl⟩
theorem ok_MX7_behind : mOk MX7_behind 1 := ⟨gd2 124 rfl rfl, gd1 1 rfl rfl, (by decide +kernel), (by decide +kernel)⟩
theorem vi_MX7_behind : mVirt MX7_behind := ⟨gd2 122 rfl rfl, gd2 123 rfl rfl⟩
theorem ok_MX7_holds : mOk MX7_holds 1 := ⟨gd2 128 rfl rfl, gd1 1 rfl rfl, (by decide +kernel), (by decide +kernel)⟩
theorem vi_MX7_holds : mVirt MX7_holds := ⟨gd2 126 rfl rfl, gd2 127 rfl rfl⟩
theorem ok_MX7_hears : mOk MX7_hears 1 := ⟨gd2 133 rfl rfl, gd1 1 rfl rfl, (by decide +kernel), (by decide +kernel)⟩
theorem vi_MX7_hears : mVirt MX7_hears := ⟨gd2 131 rfl rfl, gd2 132 rfl rfl⟩
theorem ok_MX7_forecast : mOk MX7_forecast 2 := ⟨gd2 150 rfl rfl, gd1 1 rfl rfl, (by decide +kernel), (by decide +kernel)⟩
theorem vi_MX7_forecast : mVirt MX7_forecast := ⟨gd2 148 rfl rfl, gd2 149 rfl rfl⟩
theorem ok_MX7_rests : mOk MX7_rests 1 := ⟨gd2 155 rfl rfl, gd1 1 rfl rfl, (by decide +kernel), (by decide +kernel)⟩
theorem vi_MX7_rests : mVirt MX7_rests := ⟨gd2 153 rfl rfl, gd2 154 rfl rfl⟩
theorem ok_MX7_talks : mOk MX7_talks 2 := ⟨gd2 163 rfl rfl, gd1 1 rfl rfl, (by decide +kernel), (by decide +kernel)⟩
theorem vi_MX7_talks : mVirt MX7_talks := ⟨gd2 161 rfl rfl, gd2 162 rfl rfl⟩
theorem ok_MX7_buy : mOk MX7_buy 2 := ⟨gd2 168 rfl rfl, gd1 1 rfl rfl, (by decide +kernel), (by decide +kernel)⟩
theorem vi_MX7_buy : mVirt MX7_buy := ⟨gd2 166 rfl rfl, gd2 167 rfl rfl⟩
theorem ok_MX7_seats : mOk MX7_seats 3 := ⟨gd2 191 rfl rfl, gd1 1 rfl rfl, (by decide +kernel), (by decide +kernel)⟩
theorem vi_MX7_seats : mVirt MX7_seats := ⟨gd2 189 rfl rfl, gd2 190 rfl rfl⟩
theorem ok_MX7_word : mOk MX7_word 2 := ⟨gd2 231 rfl rfl, gd1 1 rfl rfl, (by decide +kernel), (by decide +kernel)⟩
theorem vi_MX7_word : mVirt MX7_word := ⟨gd2 229 rfl rfl, gd2 230 rfl rfl⟩
theorem ok_MX7_heard : mOk MX7_heard 3 := ⟨gd2 239 rfl rfl, gd1 1 rfl rfl, (by decide +kernel), (by decide +kernel)⟩
theorem vi_MX7_heard : mVirt MX7_heard := ⟨gd2 237 rfl rfl, gd2 238 rfl rfl⟩
theorem ok_MX7_richest : mOk MX7_richest 1 := ⟨gd3 3 rfl rfl, gd1 1 rfl rfl, (by decide +kernel), (by decide +kernel)⟩
theorem vi_MX7_richest : mVirt MX7_richest := ⟨gd3 1 rfl rfl, gd3 2 rfl rfl⟩
theorem ok_MX7_seen : mOk MX7_seen 2 := ⟨gd3 15 rfl rfl, gd1 1 rfl rfl, (by decide +kernel), (by decide +kernel)⟩
theorem vi_MX7_seen : mVirt MX7_seen := ⟨gd3 13 rfl rfl, gd3 14 rfl rfl⟩
theorem ok_MX7_forget : mOk MX7_forget 0 := ⟨gd3 23 rfl rfl, gd1 1 rfl rfl, (by decide +kernel), (by decide +kernel)⟩
theorem vi_MX7_forget : mVirt MX7_forget := ⟨gd3 21 rfl rfl, gd3 22 rfl rfl⟩
theorem ok_MX7_hum : mOk MX7_hum 0 := ⟨gd3 31 rfl rfl, gd1 1 rfl rfl, (by decide +kernel), (by decide +kernel)⟩
theorem vi_MX7_hum : mVirt MX7_hum := ⟨gd3 29 rfl rfl, gd3 30 rfl rfl⟩
theorem ok_MX7_watch : mOk MX7_watch 1 := ⟨gd3 41 rfl rfl, gd1 1 rfl rfl, (by decide +kernel), (by decide +kernel)⟩
theorem vi_MX7_watch : mVirt MX7_watch := ⟨gd3 39 rfl rfl, gd3 40 rfl rfl⟩
theorem ok_MX7_auction : mOk MX7_auction 3 := ⟨gd3 58 rfl rfl, gd1 1 rfl rfl, (by decide +kernel), (by decide +kernel)⟩
theorem vi_MX7_auction : mVirt MX7_auction := ⟨gd3 56 rfl rfl, gd3 57 rfl rfl⟩
theorem ok_MX7_coughs : mOk MX7_coughs 3 := ⟨gd3 81 rfl rfl, gd1 1 rfl rfl, (by decide +kernel), (by decide +kernel)⟩
theorem vi_MX7_coughs : mVirt MX7_coughs := ⟨gd3 79 rfl rfl, gd3 80 rfl rfl⟩
theorem ok_MX7_year : mOk MX7_year 3 := ⟨gd3 94 rfl rfl, gd1 1 rfl rfl, (by decide +kernel), (by decide +kernel)⟩
theorem vi_MX7_year : mVirt MX7_year := ⟨gd3 92 rfl rfl, gd3 93 rfl rfl⟩
theorem ok_MX7_image : mOk MX7_image 1 := ⟨gd3 106 rfl rfl, gd1 1 rfl rfl, (by decide +kernel), (by decide +kernel)⟩
theorem vi_MX7_image : mVirt MX7_image := ⟨gd3 104 rfl rfl, gd3 105 rfl rfl⟩
theorem ok_MX7_restore : mOk MX7_restore 1 := ⟨gd3 123 rfl rfl, gd1 1 rfl rfl, (by decide +kernel), (by decide +kernel)⟩
theorem vi_MX7_restore : mVirt MX7_restore := ⟨gd3 121 rfl rfl, gd3 122 rfl rfl⟩
theorem ok_MX7_told : mOk MX7_told 1 := ⟨gd3 131 rfl rfl, gd1 1 rfl rfl, (by decide +kernel), (by decide +kernel)⟩
theorem vi_MX7_told : mVirt MX7_told := ⟨gd3 129 rfl rfl, gd3 130 rfl rfl⟩
theorem ok_MX7_isWithin : mOk MX7_isWithin 3 := ⟨gd1 212 rfl rfl, gd1 1 rfl rfl, (by decide +kernel), (by decide +kernel)⟩
theorem st_MX7_isWithin : mStat MX7_isWithin := gd1 211 rfl rfl
theorem ok_MX7_isTraveller : mOk MX7_isTraveller 1 := ⟨gd1 234 rfl rfl, gd1 1 rfl rfl, (by decide +kernel), (by decide +kernel)⟩
theorem st_MX7_isTraveller : mStat MX7_isTraveller := gd1 233 rfl rfl
theorem ok_MX7_isCompartment : mOk MX7_isCompartment 1 := ⟨gd2 14 rfl rfl, gd1 1 rfl rfl, (by decide +kernel), (by decide +kernel)⟩
theorem st_MX7_isCompartment : mStat MX7_isCompartment := gd2 13 rfl rfl
theorem ok_MX7_isMinute : mOk MX7_isMinute 1 := ⟨gd1 219 rfl rfl, gd1 1 rfl rfl, (by decide +kernel), (by decide +kernel)⟩
theorem st_MX7_isMinute : mStat MX7_isMinute := gd1 218 rfl rfl
theorem ok_MX7_padCanBe : mOk MX7_padCanBe 0 := ⟨gd2 67 rfl rfl, gd1 1 rfl rfl, (by decide +kernel), (by decide +kernel)⟩
theorem vi_MX7_padCanBe : mVirt MX7_padCanBe := ⟨gd2 66 rfl rfl, gd_at 1 (by decide +kernel) rfl⟩
theorem ok_MX7_letAllMinutesPass : mOk MX7_letAllMinutesPass 0 := ⟨gd2 159 rfl rfl, gd1 1 rfl rfl, (by decide +kernel), (by decide +kernel)⟩
theorem vi_MX7_letAllMinutesPass : mVirt MX7_letAllMinutesPass := ⟨gd2 158 rfl rfl, gd_at 3 (by decide +kernel) rfl⟩
theorem ok_MX7_keepsSilence : mOk MX7_keepsSilence 2 := ⟨gd2 176 rfl rfl, gd1 1 rfl rfl, (by decide +kernel), (by decide +kernel)⟩
theorem vi_MX7_keepsSilence : mVirt MX7_keepsSilence := ⟨gd2 175 rfl rfl, gd_at 4 (by decide +kernel) rfl⟩
theorem ok_MX7_paidInTrial : mOk MX7_paidInTrial 1 := ⟨gd2 187 rfl rfl, gd1 1 rfl rfl, (by decide +kernel), (by decide +kernel)⟩
theorem vi_MX7_paidInTrial : mVirt MX7_paidInTrial := ⟨gd2 186 rfl rfl, gd_at 5 (by decide +kernel) rfl⟩
theorem ok_MX7_paidByCompartment : mOk MX7_paidByCompartment 1 := ⟨gd3 11 rfl rfl, gd1 1 rfl rfl, (by decide +kernel), (by decide +kernel)⟩
theorem vi_MX7_paidByCompartment : mVirt MX7_paidByCompartment := ⟨gd3 10 rfl rfl, gd_at 12 (by decide +kernel) rfl⟩
theorem ok_MX7_topPayer : mOk MX7_topPayer 0 := ⟨gd3 7 rfl rfl, gd1 1 rfl rfl, (by decide +kernel), (by decide +kernel)⟩
theorem vi_MX7_topPayer : mVirt MX7_topPayer := ⟨gd3 6 rfl rfl, gd_at 11 (by decide +kernel) rfl⟩
theorem ok_MX7_leftAtMost : mOk MX7_leftAtMost 2 := ⟨gd3 45 rfl rfl, gd1 1 rfl rfl, (by decide +kernel), (by decide +kernel)⟩
theorem st_MX7_leftAtMost : mStat MX7_leftAtMost := gd3 44 rfl rfl
theorem ok_MX7_chancesToCough : mOk MX7_chancesToCough 1 := ⟨gd3 87 rfl rfl, gd1 1 rfl rfl, (by decide +kernel), (by decide +kernel)⟩
theorem vi_MX7_chancesToCough : mVirt MX7_chancesToCough := ⟨gd3 86 rfl rfl, gd_at 15 (by decide +kernel) rfl⟩
theorem ok_MX7_tenthsInLowestTerms : mOk MX7_tenthsInLowestTerms 2 := ⟨gd3 90 rfl rfl, gd1 1 rfl rfl, (by decide +kernel), (by decide +kernel)⟩
theorem st_MX7_tenthsInLowestTerms : mStat MX7_tenthsInLowestTerms := gd3 89 rfl rfl
theorem ok_MX7_imageAt : mOk MX7_imageAt 1 := ⟨gd3 110 rfl rfl, gd1 1 rfl rfl, (by decide +kernel), (by decide +kernel)⟩
theorem vi_MX7_imageAt : mVirt MX7_imageAt := ⟨gd3 109 rfl rfl, gd_at 16 (by decide +kernel) rfl⟩
theorem ok_MX7_toldOf : mOk MX7_toldOf 2 := ⟨gd3 135 rfl rfl, gd1 1 rfl rfl, (by decide +kernel), (by decide +kernel)⟩
theorem vi_MX7_toldOf : mVirt MX7_toldOf := ⟨gd3 134 rfl rfl, gd_at 17 (by decide +kernel) rfl⟩
theorem ok_MX8_in : mOk MX8_in 3 := ⟨gd3 231 rfl rfl, gd1 9 rfl rfl, (by decide +kernel), (by decide +kernel)⟩
theorem st_MX8_in : mStat MX8_in := gd3 230 rfl rfl
theorem ok_MX8_has : mOk MX8_has 2 := ⟨gd4 73 rfl rfl, gd1 9 rfl rfl, (by decide +kernel), (by decide +kernel)⟩
theorem st_MX8_has : mStat MX8_has := gd4 72 rfl rfl
theorem ok_MX8_bits : mOk MX8_bits 1 := ⟨gd3 238 rfl rfl, gd1 9 rfl rfl, (by decide +kernel), (by decide +kernel)⟩
theorem st_MX8_bits : mStat MX8_bits := gd3 237 rfl rfl
theorem ok_MX8_isOne : mOk MX8_isOne 1 := ⟨gd4 5 rfl rfl, gd1 9 rfl rfl, (by decide +kernel), (by decide +kernel)⟩
theorem st_MX8_isOne : mStat MX8_isOne := gd4 4 rfl rfl
theorem ok_MX8_isRoom : mOk MX8_isRoom 1 := ⟨gd4 16 rfl rfl, gd1 9 rfl rfl, (by decide +kernel), (by decide +kernel)⟩
theorem st_MX8_isRoom : mStat MX8_isRoom := gd4 15 rfl rfl
theorem ok_MX8_line : mOk MX8_line 1 := ⟨gd3 228 rfl rfl, gd1 9 rfl rfl, (by decide +kernel), (by decide +kernel)⟩
theorem vi_MX8_line : mVirt MX8_line := ⟨gd3 226 rfl rfl, gd3 227 rfl rfl⟩
theorem ok_MX8_tunnel : mOk MX8_tunnel 2 := ⟨gd3 235 rfl rfl, gd1 9 rfl rfl, (by decide +kernel), (by decide +kernel)⟩
theorem vi_MX8_tunnel : mVirt MX8_tunnel := ⟨gd3 233 rfl rfl, gd3 234 rfl rfl⟩
theorem ok_MX8_rides : mOk MX8_rides 2 := ⟨gd4 9 rfl rfl, gd1 9 rfl rfl, (by decide +kernel), (by decide +kernel)⟩
theorem vi_MX8_rides : mVirt MX8_rides := ⟨gd4 8 rfl rfl, gd_at 18 (by decide +kernel) rfl⟩
theorem ok_MX8_ride : mOk MX8_ride 3 := ⟨gd4 2 rfl rfl, gd1 9 rfl rfl, (by decide +kernel), (by decide +kernel)⟩
theorem vi_MX8_ride : mVirt MX8_ride := ⟨gd4 0 rfl rfl, gd4 1 rfl rfl⟩
theorem ok_MX8_seat : mOk MX8_seat 2 := ⟨gd4 13 rfl rfl, gd1 9 rfl rfl, (by decide +kernel), (by decide +kernel)⟩
theorem vi_MX8_seat : mVirt MX8_seat := ⟨gd4 11 rfl rfl, gd4 12 rfl rfl⟩
theorem ok_MX8_purse : mOk MX8_purse 2 := ⟨gd4 20 rfl rfl, gd1 9 rfl rfl, (by decide +kernel), (by decide +kernel)⟩
theorem vi_MX8_purse : mVirt MX8_purse := ⟨gd4 18 rfl rfl, gd4 19 rfl rfl⟩
theorem ok_MX8_fine : mOk MX8_fine 1 := ⟨gd4 24 rfl rfl, gd1 9 rfl rfl, (by decide +kernel), (by decide +kernel)⟩
theorem vi_MX8_fine : mVirt MX8_fine := ⟨gd4 22 rfl rfl, gd4 23 rfl rfl⟩
theorem ok_MX8_say : mOk MX8_say 1 := ⟨gd4 28 rfl rfl, gd1 9 rfl rfl, (by decide +kernel), (by decide +kernel)⟩
theorem vi_MX8_say : mVirt MX8_say := ⟨gd4 26 rfl rfl, gd4 27 rfl rfl⟩
theorem ok_MX8_wipe : mOk MX8_wipe 0 := ⟨gd4 32 rfl rfl, gd1 9 rfl rfl, (by decide +kernel), (by decide +kernel)⟩
theorem vi_MX8_wipe : mVirt MX8_wipe := ⟨gd4 30 rfl rfl, gd4 31 rfl rfl⟩
theorem ok_MX8_isLetter : mOk MX8_isLetter 1 := ⟨gd4 43 rfl rfl, gd1 9 rfl rfl, (by decide +kernel), (by decide +kernel)⟩
theorem st_MX8_isLetter : mStat MX8_isLetter := gd4 42 rfl rfl
theorem ok_MX8_isDigit : mOk MX8_isDigit 1 := ⟨gd4 46 rfl rfl, gd1 9 rfl rfl, (by decide +kernel), (by decide +kernel)⟩
theorem st_MX8_isDigit : mStat MX8_isDigit := gd4 45 rfl rfl
theorem ok_MX8_faultOf : mOk MX8_faultOf 0 := ⟨gd4 40 rfl rfl, gd1 9 rfl rfl, (by decide +kernel), (by decide +kernel)⟩
theorem vi_MX8_faultOf : mVirt MX8_faultOf := ⟨gd4 39 rfl rfl, gd_at 19 (by decide +kernel) rfl⟩
theorem ok_MX8_fault : mOk MX8_fault 0 := ⟨gd4 36 rfl rfl, gd1 9 rfl rfl, (by decide +kernel), (by decide +kernel)⟩
theorem vi_MX8_fault : mVirt MX8_fault := ⟨gd4 34 rfl rfl, gd4 35 rfl rfl⟩
theorem ok_MX8_asNow : mOk MX8_asNow 0 := ⟨gd4 58 rfl rfl, gd1 9 rfl rfl, (by decide +kernel), (by decide +kernel)⟩
theorem vi_MX8_asNow : mVirt MX8_asNow := ⟨gd4 57 rfl rfl, gd_at 21 (by decide +kernel) rfl⟩
theorem ok_MX8_isTunnel : mOk MX8_isTunnel 1 := ⟨gd4 70 rfl rfl, gd1 9 rfl rfl, (by decide +kernel), (by decide +kernel)⟩
theorem vi_MX8_isTunnel : mVirt MX8_isTunnel := ⟨gd4 69 rfl rfl, gd_at 24 (by decide +kernel) rfl⟩
theorem ok_MX8_holder : mOk MX8_holder 1 := ⟨gd4 66 rfl rfl, gd1 9 rfl rfl, (by decide +kernel), (by decide +kernel)⟩
theorem vi_MX8_holder : mVirt MX8_holder := ⟨gd4 65 rfl rfl, gd_at 23 (by decide +kernel) rfl⟩
theorem ok_MX8_pass : mOk MX8_pass 0 := ⟨gd4 62 rfl rfl, gd1 9 rfl rfl, (by decide +kernel), (by decide +kernel)⟩
theorem vi_MX8_pass : mVirt MX8_pass := ⟨gd4 61 rfl rfl, gd_at 22 (by decide +kernel) rfl⟩
theorem ok_MX8_ridesNow : mOk MX8_ridesNow 1 := ⟨gd4 81 rfl rfl, gd1 9 rfl rfl, (by decide +kernel), (by decide +kernel)⟩
theorem vi_MX8_ridesNow : mVirt MX8_ridesNow := ⟨gd4 80 rfl rfl, gd_at 26 (by decide +kernel) rfl⟩
theorem ok_MX8_maySpeak : mOk MX8_maySpeak 1 := ⟨gd4 85 rfl rfl, gd1 9 rfl rfl, (by decide +kernel), (by decide +kernel)⟩
theorem vi_MX8_maySpeak : mVirt MX8_maySpeak := ⟨gd4 84 rfl rfl, gd_at 27 (by decide +kernel) rfl⟩
theorem ok_MX8_cough : mOk MX8_cough 1 := ⟨gd4 89 rfl rfl, gd1 9 rfl rfl, (by decide +kernel), (by decide +kernel)⟩
theorem vi_MX8_cough : mVirt MX8_cough := ⟨gd4 88 rfl rfl, gd_at 28 (by decide +kernel) rfl⟩
theorem ok_MX8_whyNot : mOk MX8_whyNot 2 := ⟨gd4 77 rfl rfl, gd1 9 rfl rfl, (by decide +kernel), (by decide +kernel)⟩
theorem vi_MX8_whyNot : mVirt MX8_whyNot := ⟨gd4 76 rfl rfl, gd_at 25 (by decide +kernel) rfl⟩
theorem ok_MX8_goRides : mOk MX8_goRides 0 := ⟨gd4 54 rfl rfl, gd1 9 rfl rfl, (by decide +kernel), (by decide +kernel)⟩
theorem vi_MX8_goRides : mVirt MX8_goRides := ⟨gd4 53 rfl rfl, gd_at 20 (by decide +kernel) rfl⟩
theorem ok_MX8_judge : mOk MX8_judge 1 := ⟨gd4 50 rfl rfl, gd1 9 rfl rfl, (by decide +kernel), (by decide +kernel)⟩
theorem vi_MX8_judge : mVirt MX8_judge := ⟨gd4 48 rfl rfl, gd4 49 rfl rfl⟩
theorem ok_MX8_barOfRides : mOk MX8_barOfRides 0 := ⟨gd4 97 rfl rfl, gd1 9 rfl rfl, (by decide +kernel), (by decide +kernel)⟩
theorem vi_MX8_barOfRides : mVirt MX8_barOfRides := ⟨gd4 96 rfl rfl, gd_at 29 (by decide +kernel) rfl⟩
theorem ok_MX8_done : mOk MX8_done 0 := ⟨gd4 93 rfl rfl, gd1 9 rfl rfl, (by decide +kernel), (by decide +kernel)⟩
theorem vi_MX8_done : mVirt MX8_done := ⟨gd4 91 rfl rfl, gd4 92 rfl rfl⟩
theorem ok_MX8_behind : mOk MX8_behind 1 := ⟨gd4 101 rfl rfl, gd1 9 rfl rfl, (by decide +kernel), (by decide +kernel)⟩
theorem vi_MX8_behind : mVirt MX8_behind := ⟨gd4 99 rfl rfl, gd4 100 rfl rfl⟩
theorem ok_MX8_holds : mOk MX8_holds 1 := ⟨gd4 105 rfl rfl, gd1 9 rfl rfl, (by decide +kernel), (by decide +kernel)⟩
theorem vi_MX8_holds : mVirt MX8_holds := ⟨gd4 103 rfl rfl, gd4 104 rfl rfl⟩
theorem ok_MX8_hears : mOk MX8_hears 1 := ⟨gd4 109 rfl rfl, gd1 9 rfl rfl, (by decide +kernel), (by decide +kernel)⟩
theorem vi_MX8_hears : mVirt MX8_hears := ⟨gd4 107 rfl rfl, gd4 108 rfl rfl⟩
theorem ok_MX8_forecast : mOk MX8_forecast 2 := ⟨gd4 113 rfl rfl, gd1 9 rfl rfl, (by decide +kernel), (by decide +kernel)⟩
theorem vi_MX8_forecast : mVirt MX8_forecast := ⟨gd4 111 rfl rfl, gd4 112 rfl rfl⟩
theorem ok_MX8_toEnd : mOk MX8_toEnd 0 := ⟨gd4 121 rfl rfl, gd1 9 rfl rfl, (by decide +kernel), (by decide +kernel)⟩
theorem vi_MX8_toEnd : mVirt MX8_toEnd := ⟨gd4 120 rfl rfl, gd_at 30 (by decide +kernel) rfl⟩
theorem ok_MX8_rests : mOk MX8_rests 1 := ⟨gd4 117 rfl rfl, gd1 9 rfl rfl, (by decide +kernel), (by decide +kernel)⟩
theorem vi_MX8_rests : mVirt MX8_rests := ⟨gd4 115 rfl rfl, gd4 116 rfl rfl⟩
theorem ok_MX8_talks : mOk MX8_talks 2 := ⟨gd4 125 rfl rfl, gd1 9 rfl rfl, (by decide +kernel), (by decide +kernel)⟩
theorem vi_MX8_talks : mVirt MX8_talks := ⟨gd4 123 rfl rfl, gd4 124 rfl rfl⟩
theorem ok_MX8_buy : mOk MX8_buy 2 := ⟨gd4 129 rfl rfl, gd1 9 rfl rfl, (by decide +kernel), (by decide +kernel)⟩
theorem vi_MX8_buy : mVirt MX8_buy := ⟨gd4 127 rfl rfl, gd4 128 rfl rfl⟩
theorem ok_MX8_ridesAtAll : mOk MX8_ridesAtAll 1 := ⟨gd4 137 rfl rfl, gd1 9 rfl rfl, (by decide +kernel), (by decide +kernel)⟩
theorem vi_MX8_ridesAtAll : mVirt MX8_ridesAtAll := ⟨gd4 136 rfl rfl, gd_at 31 (by decide +kernel) rfl⟩
theorem ok_MX8_rideAtOnce : mOk MX8_rideAtOnce 2 := ⟨gd4 141 rfl rfl, gd1 9 rfl rfl, (by decide +kernel), (by decide +kernel)⟩
theorem vi_MX8_rideAtOnce : mVirt MX8_rideAtOnce := ⟨gd4 140 rfl rfl, gd_at 32 (by decide +kernel) rfl⟩
theorem ok_MX8_seats : mOk MX8_seats 3 := ⟨gd4 133 rfl rfl, gd1 9 rfl rfl, (by decide +kernel), (by decide +kernel)⟩
theorem vi_MX8_seats : mVirt MX8_seats := ⟨gd4 131 rfl rfl, gd4 132 rfl rfl⟩
theorem ok_MX8_goWord : mOk MX8_goWord 3 := ⟨gd4 149 rfl rfl, gd1 9 rfl rfl, (by decide +kernel), (by decide +kernel)⟩
theorem vi_MX8_goWord : mVirt MX8_goWord := ⟨gd4 148 rfl rfl, gd_at 33 (by decide +kernel) rfl⟩
theorem ok_MX8_word : mOk MX8_word 2 := ⟨gd4 145 rfl rfl, gd1 9 rfl rfl, (by decide +kernel), (by decide +kernel)⟩
theorem vi_MX8_word : mVirt MX8_word := ⟨gd4 143 rfl rfl, gd4 144 rfl rfl⟩
theorem ok_MX8_heard : mOk MX8_heard 3 := ⟨gd4 153 rfl rfl, gd1 9 rfl rfl, (by decide +kernel), (by decide +kernel)⟩
theorem vi_MX8_heard : mVirt MX8_heard := ⟨gd4 151 rfl rfl, gd4 152 rfl rfl⟩
theorem ok_MX8_richest : mOk MX8_richest 1 := ⟨gd4 157 rfl rfl, gd1 9 rfl rfl, (by decide +kernel), (by decide +kernel)⟩
theorem vi_MX8_richest : mVirt MX8_richest := ⟨gd4 155 rfl rfl, gd4 156 rfl rfl⟩
theorem ok_MX8_seen : mOk MX8_seen 2 := ⟨gd4 161 rfl rfl, gd1 9 rfl rfl, (by decide +kernel), (by decide +kernel)⟩
theorem vi_MX8_seen : mVirt MX8_seen := ⟨gd4 159 rfl rfl, gd4 160 rfl rfl⟩
theorem ok_MX8_forget : mOk MX8_forget 0 := ⟨gd4 165 rfl rfl, gd1 9 rfl rfl, (by decide +kernel), (by decide +kernel)⟩
theorem vi_MX8_forget : mVirt MX8_forget := ⟨gd4 163 rfl rfl, gd4 164 rfl rfl⟩
theorem ok_MX8_humSet : mOk MX8_humSet 0 := ⟨gd4 173 rfl rfl, gd1 9 rfl rfl, (by decide +kernel), (by decide +kernel)⟩
theorem vi_MX8_humSet : mVirt MX8_humSet := ⟨gd4 172 rfl rfl, gd_at 34 (by decide +kernel) rfl⟩
theorem ok_MX8_hum : mOk MX8_hum 0 := ⟨gd4 169 rfl rfl, gd1 9 rfl rfl, (by decide +kernel), (by decide +kernel)⟩
theorem vi_MX8_hum : mVirt MX8_hum := ⟨gd4 167 rfl rfl, gd4 168 rfl rfl⟩
theorem ok_MX8_watch : mOk MX8_watch 1 := ⟨gd4 177 rfl rfl, gd1 9 rfl rfl, (by decide +kernel), (by decide +kernel)⟩
theorem vi_MX8_watch : mVirt MX8_watch := ⟨gd4 175 rfl rfl, gd4 176 rfl rfl⟩
theorem ok_MX8_auction : mOk MX8_auction 3 := ⟨gd4 182 rfl rfl, gd1 9 rfl rfl, (by decide +kernel), (by decide +kernel)⟩
theorem vi_MX8_auction : mVirt MX8_auction := ⟨gd4 180 rfl rfl, gd4 181 rfl rfl⟩
theorem ok_MX8_coughs : mOk MX8_coughs 3 := ⟨gd4 186 rfl rfl, gd1 9 rfl rfl, (by decide +kernel), (by decide +kernel)⟩
theorem vi_MX8_coughs : mVirt MX8_coughs := ⟨gd4 184 rfl rfl, gd4 185 rfl rfl⟩
theorem ok_MX8_year : mOk MX8_year 3 := ⟨gd4 193 rfl rfl, gd1 9 rfl rfl, (by decide +kernel), (by decide +kernel)⟩
theorem vi_MX8_year : mVirt MX8_year := ⟨gd4 191 rfl rfl, gd4 192 rfl rfl⟩
theorem ok_MX8_image : mOk MX8_image 1 := ⟨gd4 198 rfl rfl, gd1 9 rfl rfl, (by decide +kernel), (by decide +kernel)⟩
theorem vi_MX8_image : mVirt MX8_image := ⟨gd4 196 rfl rfl, gd4 197 rfl rfl⟩
theorem ok_MX8_restore : mOk MX8_restore 1 := ⟨gd4 202 rfl rfl, gd1 9 rfl rfl, (by decide +kernel), (by decide +kernel)⟩
theorem vi_MX8_restore : mVirt MX8_restore := ⟨gd4 200 rfl rfl, gd4 201 rfl rfl⟩
theorem ok_MX8_told : mOk MX8_told 1 := ⟨gd4 206 rfl rfl, gd1 9 rfl rfl, (by decide +kernel), (by decide +kernel)⟩
theorem vi_MX8_told : mVirt MX8_told := ⟨gd4 204 rfl rfl, gd4 205 rfl rfl⟩
theorem ok_MJ6_bitCount : mOk MJ6_bitCount 1 := ⟨gd3 48 rfl rfl, gd1 11 rfl rfl, (by decide +kernel), (by decide +kernel)⟩
theorem st_MJ6_bitCount : mStat MJ6_bitCount := gd3 47 rfl rfl
theorem lk_L_13 : mLk "SilenceMinuteLaw" 13 MX7_line := gd1 206 rfl rfl
theorem lk_X7_64 : mLk "SilenceMinute" 64 MX7_isWithin := gd1 210 rfl rfl
theorem lk_L_18 : mLk "SilenceMinuteLaw" 18 MX7_tunnel := gd1 213 rfl rfl
theorem lk_X7_75 : mLk "SilenceMinute" 75 MX7_isMinute := gd1 217 rfl rfl
theorem lk_X7_82 : mLk "SilenceMinute" 82 MX5_tunnelsOfLine := gd1 220 rfl rfl
theorem lk_X5_46 : mLk "SilenceMinute$Train" 46 MX5_isTunnel := gd1 224 rfl rfl
theorem lk_L_23 : mLk "SilenceMinuteLaw" 23 MX7_ride := gd1 228 rfl rfl
theorem lk_X7_86 : mLk "SilenceMinute" 86 MX7_isTraveller := gd1 232 rfl rfl
theorem lk_X7_89 : mLk "SilenceMinute" 89 MX5_setRide := gd1 235 rfl rfl
theorem lk_X7_93 : mLk "SilenceMinute" 93 MX5_minutesOf := gd2 0 rfl rfl
theorem lk_X5_53 : mLk "SilenceMinute$Train" 53 MX5_ridesAt := gd2 4 rfl rfl
theorem lk_L_28 : mLk "SilenceMinuteLaw" 28 MX7_seat := gd2 8 rfl rfl
theorem lk_X7_97 : mLk "SilenceMinute" 97 MX7_isCompartment := gd2 12 rfl rfl
theorem lk_L_33 : mLk "SilenceMinuteLaw" 33 MX7_purse := gd2 15 rfl rfl
theorem lk_L_37 : mLk "SilenceMinuteLaw" 37 MX7_fine := gd2 19 rfl rfl
theorem lk_L_41 : mLk "SilenceMinuteLaw" 41 MX7_say := gd2 23 rfl rfl
theorem lk_X7_110 : mLk "SilenceMinute" 110 MX1_write := gd2 27 rfl rfl
theorem lk_L_45 : mLk "SilenceMinuteLaw" 45 MX7_wipe := gd2 31 rfl rfl
theorem lk_X7_116 : mLk "SilenceMinute" 116 MX1_clear := gd2 35 rfl rfl
theorem lk_L_50 : mLk "SilenceMinuteLaw" 50 MX7_fault := gd2 39 rfl rfl
theorem lk_X7_119 : mLk "SilenceMinute" 119 MX1_faultPlace := gd2 43 rfl rfl
theorem lk_X1_27 : mLk "SilenceMinute$Pad" 27 MX1_follow := gd2 47 rfl rfl
theorem lk_X1_19 : mLk "SilenceMinute$Pad" 19 MX1_signAt := gd2 51 rfl rfl
theorem lk_X1_31 : mLk "SilenceMinute$Pad" 31 MX1_isDigitAt := gd2 56 rfl rfl
theorem lk_L_54 : mLk "SilenceMinuteLaw" 54 MX7_judge := gd2 60 rfl rfl
theorem lk_X7_122 : mLk "SilenceMinute" 122 MX7_padCanBe := gd2 64 rfl rfl
theorem lk_X7_132 : mLk "SilenceMinute" 132 MX5_copyFrom := gd2 68 rfl rfl
theorem lk_X7_245 : mLk "SilenceMinute" 245 MX6_tryRides := gd2 72 rfl rfl
theorem lk_X6_23 : mLk "SilenceMinute$Verdict" 23 MX6_tryAct := gd2 76 rfl rfl
theorem lk_X6_31 : mLk "SilenceMinute$Verdict" 31 MX1_signAt := gd2 79 rfl rfl
theorem lk_X6_34 : mLk "SilenceMinute$Verdict" 34 MX5_passMinute := gd2 80 rfl rfl
theorem lk_X5_69 : mLk "SilenceMinute$Train" 69 MX5_holderOf := gd2 84 rfl rfl
theorem lk_X5_75 : mLk "SilenceMinute$Train" 75 MX5_payGuard := gd2 88 rfl rfl
theorem lk_X6_40 : mLk "SilenceMinute$Verdict" 40 MX1_isDigitAt := gd2 92 rfl rfl
theorem lk_X6_44 : mLk "SilenceMinute$Verdict" 44 MX5_setBid := gd2 93 rfl rfl
theorem lk_X6_48 : mLk "SilenceMinute$Verdict" 48 MX5_ridesNow := gd2 97 rfl rfl
theorem lk_X6_51 : mLk "SilenceMinute$Verdict" 51 MX5_maySpeak := gd2 101 rfl rfl
theorem lk_X5_72 : mLk "SilenceMinute$Train" 72 MX5_ridesNow := gd2 105 rfl rfl
theorem lk_X6_54 : mLk "SilenceMinute$Verdict" 54 MX5_takeCough := gd2 106 rfl rfl
theorem lk_X5_79 : mLk "SilenceMinute$Train" 79 MJ9_min := gd2 110 rfl rfl
theorem lk_X6_27 : mLk "SilenceMinute$Verdict" 27 MX1_actLength := gd2 113 rfl rfl
theorem lk_L_58 : mLk "SilenceMinuteLaw" 58 MX7_done := gd2 117 rfl rfl
theorem lk_L_62 : mLk "SilenceMinuteLaw" 62 MX7_behind := gd2 121 rfl rfl
theorem lk_L_66 : mLk "SilenceMinuteLaw" 66 MX7_holds := gd2 125 rfl rfl
theorem lk_X7_142 : mLk "SilenceMinute" 142 MX5_holderOf := gd2 129 rfl rfl
theorem lk_L_70 : mLk "SilenceMinuteLaw" 70 MX7_hears := gd2 130 rfl rfl
theorem lk_X7_145 : mLk "SilenceMinute" 145 MX5_maySpeak := gd2 134 rfl rfl
theorem lk_X7_148 : mLk "SilenceMinute" 148 MX5_companionsOf := gd2 135 rfl rfl
theorem lk_X5_61 : mLk "SilenceMinute$Train" 61 MX5_ridersOf := gd2 139 rfl rfl
theorem lk_X5_57 : mLk "SilenceMinute$Train" 57 MX5_ridesIn := gd2 143 rfl rfl
theorem lk_L_74 : mLk "SilenceMinuteLaw" 74 MX7_forecast := gd2 147 rfl rfl
theorem lk_X7_152 : mLk "SilenceMinute" 152 MX5_passMinute := gd2 151 rfl rfl
theorem lk_L_78 : mLk "SilenceMinuteLaw" 78 MX7_rests := gd2 152 rfl rfl
theorem lk_X7_155 : mLk "SilenceMinute" 155 MX7_letAllMinutesPass := gd2 156 rfl rfl
theorem lk_L_82 : mLk "SilenceMinuteLaw" 82 MX7_talks := gd2 160 rfl rfl
theorem lk_X7_158 : mLk "SilenceMinute" 158 MX5_ridesIn := gd2 164 rfl rfl
theorem lk_L_86 : mLk "SilenceMinuteLaw" 86 MX7_buy := gd2 165 rfl rfl
theorem lk_X7_161 : mLk "SilenceMinute" 161 MX5_ridesFromNowOn := gd2 169 rfl rfl
theorem lk_X7_164 : mLk "SilenceMinute" 164 MX7_keepsSilence := gd2 173 rfl rfl
theorem lk_X7_249 : mLk "SilenceMinute" 249 MX5_setBid := gd2 177 rfl rfl
theorem lk_X7_252 : mLk "SilenceMinute" 252 MX5_ridesAt := gd2 178 rfl rfl
theorem lk_X7_255 : mLk "SilenceMinute" 255 MX5_isTunnel := gd2 179 rfl rfl
theorem lk_X7_258 : mLk "SilenceMinute" 258 MX5_isHolder := gd2 180 rfl rfl
theorem lk_X7_168 : mLk "SilenceMinute" 168 MX7_paidInTrial := gd2 184 rfl rfl
theorem lk_L_90 : mLk "SilenceMinuteLaw" 90 MX7_seats := gd2 188 rfl rfl
theorem lk_X7_171 : mLk "SilenceMinute" 171 MX3_countWays := gd2 192 rfl rfl
theorem lk_X3_22 : mLk "SilenceMinute$Seating" 22 MX5_ridersOfLine := gd2 196 rfl rfl
theorem lk_X5_65 : mLk "SilenceMinute$Train" 65 MX5_minutesOf := gd2 200 rfl rfl
theorem lk_X3_31 : mLk "SilenceMinute$Seating" 31 MX3_meetableTwos := gd2 201 rfl rfl
theorem lk_X3_52 : mLk "SilenceMinute$Seating" 52 MX5_rideTogether := gd2 204 rfl rfl
theorem lk_X3_35 : mLk "SilenceMinute$Seating" 35 MX3_waysInAll := gd2 208 rfl rfl
theorem lk_X3_48 : mLk "SilenceMinute$Seating" 48 MX3_isRider := gd2 212 rfl rfl
theorem lk_X3_38 : mLk "SilenceMinute$Seating" 38 MX3_spread := gd2 216 rfl rfl
theorem lk_X3_42 : mLk "SilenceMinute$Seating" 42 MX3_twosInOneCompartment := gd2 220 rfl rfl
theorem lk_X3_45 : mLk "SilenceMinute$Seating" 45 MX3_digitsAsNumber := gd2 224 rfl rfl
theorem lk_L_94 : mLk "SilenceMinuteLaw" 94 MX7_word := gd2 228 rfl rfl
theorem lk_X7_181 : mLk "SilenceMinute" 181 MX5_knownAfter := gd2 232 rfl rfl
theorem lk_L_98 : mLk "SilenceMinuteLaw" 98 MX7_heard := gd2 236 rfl rfl
theorem lk_L_102 : mLk "SilenceMinuteLaw" 102 MX7_richest := gd3 0 rfl rfl
theorem lk_X7_184 : mLk "SilenceMinute" 184 MX7_topPayer := gd3 4 rfl rfl
theorem lk_X7_187 : mLk "SilenceMinute" 187 MX7_paidByCompartment := gd3 8 rfl rfl
theorem lk_L_106 : mLk "SilenceMinuteLaw" 106 MX7_seen := gd3 12 rfl rfl
theorem lk_X7_190 : mLk "SilenceMinute" 190 MX4_add := gd3 16 rfl rfl
theorem lk_L_110 : mLk "SilenceMinuteLaw" 110 MX7_forget := gd3 20 rfl rfl
theorem lk_X7_194 : mLk "SilenceMinute" 194 MX4_clear := gd3 24 rfl rfl
theorem lk_L_114 : mLk "SilenceMinuteLaw" 114 MX7_hum := gd3 28 rfl rfl
theorem lk_X7_195 : mLk "SilenceMinute" 195 MX4_suspects := gd3 32 rfl rfl
theorem lk_X4_20 : mLk "SilenceMinute$Sights" 20 MX5_ridersOfLine := gd3 36 rfl rfl
theorem lk_X4_26 : mLk "SilenceMinute$Sights" 26 MX5_companionsOf := gd3 37 rfl rfl
theorem lk_L_118 : mLk "SilenceMinuteLaw" 118 MX7_watch := gd3 38 rfl rfl
theorem lk_X7_199 : mLk "SilenceMinute" 199 MX5_ridersOf := gd3 42 rfl rfl
theorem lk_X7_202 : mLk "SilenceMinute" 202 MX7_leftAtMost := gd3 43 rfl rfl
theorem lk_X7_261 : mLk "SilenceMinute" 261 MJ6_bitCount := gd3 46 rfl rfl
theorem lk_X7_266 : mLk "SilenceMinute" 266 MJ9_max := gd3 52 rfl rfl
theorem lk_L_122 : mLk "SilenceMinuteLaw" 122 MX7_auction := gd3 55 rfl rfl
theorem lk_X7_205 : mLk "SilenceMinute" 205 MX2_settle := gd3 59 rfl rfl
theorem lk_X2_11 : mLk "SilenceMinute$Sale" 11 MX2_leaveOff := gd3 63 rfl rfl
theorem lk_X2_15 : mLk "SilenceMinute$Sale" 15 MX2_moverBehind := gd3 67 rfl rfl
theorem lk_X2_23 : mLk "SilenceMinute$Sale" 23 MX2_wordBefore := gd3 70 rfl rfl
theorem lk_X2_26 : mLk "SilenceMinute$Sale" 26 MJ9_max := gd3 73 rfl rfl
theorem lk_X2_19 : mLk "SilenceMinute$Sale" 19 MX2_valueFor := gd3 74 rfl rfl
theorem lk_L_126 : mLk "SilenceMinuteLaw" 126 MX7_coughs := gd3 78 rfl rfl
theorem lk_X7_219 : mLk "SilenceMinute" 219 MX7_chancesToCough := gd3 84 rfl rfl
theorem lk_X7_222 : mLk "SilenceMinute" 222 MX7_tenthsInLowestTerms := gd3 88 rfl rfl
theorem lk_L_131 : mLk "SilenceMinuteLaw" 131 MX7_year := gd3 91 rfl rfl
theorem lk_X7_226 : mLk "SilenceMinute" 226 MX5_doDrawn := gd3 96 rfl rfl
theorem lk_X5_84 : mLk "SilenceMinute$Train" 84 MX5_passMinute := gd3 100 rfl rfl
theorem lk_X5_88 : mLk "SilenceMinute$Train" 88 MX5_setBid := gd3 101 rfl rfl
theorem lk_X5_91 : mLk "SilenceMinute$Train" 91 MX5_takeCough := gd3 102 rfl rfl
theorem lk_L_135 : mLk "SilenceMinuteLaw" 135 MX7_image := gd3 103 rfl rfl
theorem lk_X7_230 : mLk "SilenceMinute" 230 MX7_imageAt := gd3 107 rfl rfl
theorem lk_X7_234 : mLk "SilenceMinute" 234 MX0_keep := gd3 111 rfl rfl
theorem lk_X0_23 : mLk "SilenceMinute$Image" 23 MX5_copyFrom := gd3 115 rfl rfl
theorem lk_X0_27 : mLk "SilenceMinute$Image" 27 MX4_copyFrom := gd3 116 rfl rfl
theorem lk_L_139 : mLk "SilenceMinuteLaw" 139 MX7_restore := gd3 120 rfl rfl
theorem lk_X7_238 : mLk "SilenceMinute" 238 MX0_bringBack := gd3 124 rfl rfl
theorem lk_L_143 : mLk "SilenceMinuteLaw" 143 MX7_told := gd3 128 rfl rfl
theorem lk_X7_242 : mLk "SilenceMinute" 242 MX7_toldOf := gd3 132 rfl rfl
theorem lk_L_17 : mLk "SilenceMinuteLaw" 17 MX8_line := gd3 225 rfl rfl
theorem lk_X8_60 : mLk "SilenceMinuteModel" 60 MX8_in := gd3 229 rfl rfl
theorem lk_L_22 : mLk "SilenceMinuteLaw" 22 MX8_tunnel := gd3 232 rfl rfl
theorem lk_X8_70 : mLk "SilenceMinuteModel" 70 MX8_bits := gd3 236 rfl rfl
theorem lk_L_27 : mLk "SilenceMinuteLaw" 27 MX8_ride := gd3 239 rfl rfl
theorem lk_X8_74 : mLk "SilenceMinuteModel" 74 MX8_isOne := gd4 3 rfl rfl
theorem lk_X8_78 : mLk "SilenceMinuteModel" 78 MX8_rides := gd4 6 rfl rfl
theorem lk_L_32 : mLk "SilenceMinuteLaw" 32 MX8_seat := gd4 10 rfl rfl
theorem lk_X8_82 : mLk "SilenceMinuteModel" 82 MX8_isRoom := gd4 14 rfl rfl
theorem lk_L_36 : mLk "SilenceMinuteLaw" 36 MX8_purse := gd4 17 rfl rfl
theorem lk_L_40 : mLk "SilenceMinuteLaw" 40 MX8_fine := gd4 21 rfl rfl
theorem lk_L_44 : mLk "SilenceMinuteLaw" 44 MX8_say := gd4 25 rfl rfl
theorem lk_L_49 : mLk "SilenceMinuteLaw" 49 MX8_wipe := gd4 29 rfl rfl
theorem lk_L_53 : mLk "SilenceMinuteLaw" 53 MX8_fault := gd4 33 rfl rfl
theorem lk_X8_94 : mLk "SilenceMinuteModel" 94 MX8_faultOf := gd4 37 rfl rfl
theorem lk_X8_88 : mLk "SilenceMinuteModel" 88 MX8_isLetter := gd4 41 rfl rfl
theorem lk_X8_91 : mLk "SilenceMinuteModel" 91 MX8_isDigit := gd4 44 rfl rfl
theorem lk_L_57 : mLk "SilenceMinuteLaw" 57 MX8_judge := gd4 47 rfl rfl
theorem lk_X8_145 : mLk "SilenceMinuteModel" 145 MX8_goRides := gd4 51 rfl rfl
theorem lk_X8_125 : mLk "SilenceMinuteModel" 125 MX8_asNow := gd4 55 rfl rfl
theorem lk_X8_134 : mLk "SilenceMinuteModel" 134 MX8_pass := gd4 59 rfl rfl
theorem lk_X8_116 : mLk "SilenceMinuteModel" 116 MX8_holder := gd4 63 rfl rfl
theorem lk_X8_113 : mLk "SilenceMinuteModel" 113 MX8_isTunnel := gd4 67 rfl rfl
theorem lk_X8_110 : mLk "SilenceMinuteModel" 110 MX8_has := gd4 71 rfl rfl
theorem lk_X8_137 : mLk "SilenceMinuteModel" 137 MX8_whyNot := gd4 74 rfl rfl
theorem lk_X8_119 : mLk "SilenceMinuteModel" 119 MX8_ridesNow := gd4 78 rfl rfl
theorem lk_X8_122 : mLk "SilenceMinuteModel" 122 MX8_maySpeak := gd4 82 rfl rfl
theorem lk_X8_141 : mLk "SilenceMinuteModel" 141 MX8_cough := gd4 86 rfl rfl
theorem lk_L_61 : mLk "SilenceMinuteLaw" 61 MX8_done := gd4 90 rfl rfl
theorem lk_X8_148 : mLk "SilenceMinuteModel" 148 MX8_barOfRides := gd4 94 rfl rfl
theorem lk_L_65 : mLk "SilenceMinuteLaw" 65 MX8_behind := gd4 98 rfl rfl
theorem lk_L_69 : mLk "SilenceMinuteLaw" 69 MX8_holds := gd4 102 rfl rfl
theorem lk_L_73 : mLk "SilenceMinuteLaw" 73 MX8_hears := gd4 106 rfl rfl
theorem lk_L_77 : mLk "SilenceMinuteLaw" 77 MX8_forecast := gd4 110 rfl rfl
theorem lk_L_81 : mLk "SilenceMinuteLaw" 81 MX8_rests := gd4 114 rfl rfl
theorem lk_X8_151 : mLk "SilenceMinuteModel" 151 MX8_toEnd := gd4 118 rfl rfl
theorem lk_L_85 : mLk "SilenceMinuteLaw" 85 MX8_talks := gd4 122 rfl rfl
theorem lk_L_89 : mLk "SilenceMinuteLaw" 89 MX8_buy := gd4 126 rfl rfl
theorem lk_L_93 : mLk "SilenceMinuteLaw" 93 MX8_seats := gd4 130 rfl rfl
theorem lk_X8_154 : mLk "SilenceMinuteModel" 154 MX8_ridesAtAll := gd4 134 rfl rfl
theorem lk_X8_157 : mLk "SilenceMinuteModel" 157 MX8_rideAtOnce := gd4 138 rfl rfl
theorem lk_L_97 : mLk "SilenceMinuteLaw" 97 MX8_word := gd4 142 rfl rfl
theorem lk_X8_163 : mLk "SilenceMinuteModel" 163 MX8_goWord := gd4 146 rfl rfl
theorem lk_L_101 : mLk "SilenceMinuteLaw" 101 MX8_heard := gd4 150 rfl rfl
theorem lk_L_105 : mLk "SilenceMinuteLaw" 105 MX8_richest := gd4 154 rfl rfl
theorem lk_L_109 : mLk "SilenceMinuteLaw" 109 MX8_seen := gd4 158 rfl rfl
theorem lk_L_113 : mLk "SilenceMinuteLaw" 113 MX8_forget := gd4 162 rfl rfl
theorem lk_L_117 : mLk "SilenceMinuteLaw" 117 MX8_hum := gd4 166 rfl rfl
theorem lk_X8_170 : mLk "SilenceMinuteModel" 170 MX8_humSet := gd4 170 rfl rfl
theorem lk_L_121 : mLk "SilenceMinuteLaw" 121 MX8_watch := gd4 174 rfl rfl
theorem lk_L_125 : mLk "SilenceMinuteLaw" 125 MX8_auction := gd4 179 rfl rfl
theorem lk_L_130 : mLk "SilenceMinuteLaw" 130 MX8_coughs := gd4 183 rfl rfl
theorem lk_L_134 : mLk "SilenceMinuteLaw" 134 MX8_year := gd4 190 rfl rfl
theorem lk_L_138 : mLk "SilenceMinuteLaw" 138 MX8_image := gd4 195 rfl rfl
theorem lk_L_142 : mLk "SilenceMinuteLaw" 142 MX8_restore := gd4 199 rfl rfl
theorem lk_L_146 : mLk "SilenceMinuteLaw" 146 MX8_told := gd4 203 rfl rfl
theorem fl_X5_9 : fLk "SilenceMinute$Train" 9 5 0 := ⟨RX5, TX5, 11, rfl, by decide, rfl, gd1 26 rfl rfl⟩
theorem fl_X7_68 : fLk "SilenceMinute" 68 5 0 := ⟨RX5, TX5, 11, rfl, by decide, rfl, gd1 27 rfl rfl⟩
theorem fl_X5_34 : fLk "SilenceMinute$Train" 34 5 1 := ⟨RX5, TX5, 11, rfl, by decide, rfl, gd1 28 rfl rfl⟩
theorem fl_X7_72 : fLk "SilenceMinute" 72 5 1 := ⟨RX5, TX5, 11, rfl, by decide, rfl, gd1 29 rfl rfl⟩
theorem fl_X5_37 : fLk "SilenceMinute$Train" 37 5 2 := ⟨RX5, TX5, 11, rfl, by decide, rfl, gd1 30 rfl rfl⟩
theorem fl_X7_136 : fLk "SilenceMinute" 136 5 2 := ⟨RX5, TX5, 11, rfl, by decide, rfl, gd1 31 rfl rfl⟩
theorem fl_X5_15 : fLk "SilenceMinute$Train" 15 5 3 := ⟨RX5, TX5, 11, rfl, by decide, rfl, gd1 32 rfl rfl⟩
theorem fl_X7_107 : fLk "SilenceMinute" 107 5 3 := ⟨RX5, TX5, 11, rfl, by decide, rfl, gd1 33 rfl rfl⟩
theorem fl_X5_40 : fLk "SilenceMinute$Train" 40 5 4 := ⟨RX5, TX5, 11, rfl, by decide, rfl, gd1 34 rfl rfl⟩
theorem fl_X7_139 : fLk "SilenceMinute" 139 5 4 := ⟨RX5, TX5, 11, rfl, by decide, rfl, gd1 35 rfl rfl⟩
theorem fl_X5_43 : fLk "SilenceMinute$Train" 43 5 5 := ⟨RX5, TX5, 11, rfl, by decide, rfl, gd1 36 rfl rfl⟩
theorem fl_X7_79 : fLk "SilenceMinute" 79 5 5 := ⟨RX5, TX5, 11, rfl, by decide, rfl, gd1 37 rfl rfl⟩
theorem fl_X5_18 : fLk "SilenceMinute$Train" 18 5 6 := ⟨RX5, TX5, 11, rfl, by decide, rfl, gd1 38 rfl rfl⟩
theorem fl_X7_271 : fLk "SilenceMinute" 271 5 6 := ⟨RX5, TX5, 11, rfl, by decide, rfl, gd1 39 rfl rfl⟩
theorem fl_X5_22 : fLk "SilenceMinute$Train" 22 5 7 := ⟨RX5, TX5, 11, rfl, by decide, rfl, gd1 40 rfl rfl⟩
theorem fl_X7_274 : fLk "SilenceMinute" 274 5 7 := ⟨RX5, TX5, 11, rfl, by decide, rfl, gd1 41 rfl rfl⟩
theorem fl_X5_25 : fLk "SilenceMinute$Train" 25 5 8 := ⟨RX5, TX5, 11, rfl, by decide, rfl, gd1 42 rfl rfl⟩
theorem fl_X7_100 : fLk "SilenceMinute" 100 5 8 := ⟨RX5, TX5, 11, rfl, by decide, rfl, gd1 43 rfl rfl⟩
theorem fl_X5_28 : fLk "SilenceMinute$Train" 28 5 9 := ⟨RX5, TX5, 11, rfl, by decide, rfl, gd1 44 rfl rfl⟩
theorem fl_X7_104 : fLk "SilenceMinute" 104 5 9 := ⟨RX5, TX5, 11, rfl, by decide, rfl, gd1 45 rfl rfl⟩
theorem fl_X5_31 : fLk "SilenceMinute$Train" 31 5 10 := ⟨RX5, TX5, 11, rfl, by decide, rfl, gd1 46 rfl rfl⟩
theorem fl_X7_277 : fLk "SilenceMinute" 277 5 10 := ⟨RX5, TX5, 11, rfl, by decide, rfl, gd1 47 rfl rfl⟩
theorem fl_X1_11 : fLk "SilenceMinute$Pad" 11 1 0 := ⟨RX1, TX1, 2, rfl, by decide, rfl, gd1 78 rfl rfl⟩
theorem fl_X1_15 : fLk "SilenceMinute$Pad" 15 1 1 := ⟨RX1, TX1, 2, rfl, by decide, rfl, gd1 79 rfl rfl⟩
theorem fl_X6_20 : fLk "SilenceMinute$Verdict" 20 1 1 := ⟨RX1, TX1, 2, rfl, by decide, rfl, gd1 80 rfl rfl⟩
theorem fl_X7_113 : fLk "SilenceMinute" 113 1 1 := ⟨RX1, TX1, 2, rfl, by decide, rfl, gd1 81 rfl rfl⟩
theorem fl_X6_9 : fLk "SilenceMinute$Verdict" 9 6 0 := ⟨RX6, TX6, 2, rfl, by decide, rfl, gd1 93 rfl rfl⟩
theorem fl_X7_126 : fLk "SilenceMinute" 126 6 0 := ⟨RX6, TX6, 2, rfl, by decide, rfl, gd1 94 rfl rfl⟩
theorem fl_X6_15 : fLk "SilenceMinute$Verdict" 15 6 1 := ⟨RX6, TX6, 2, rfl, by decide, rfl, gd1 95 rfl rfl⟩
theorem fl_X7_129 : fLk "SilenceMinute" 129 6 1 := ⟨RX6, TX6, 2, rfl, by decide, rfl, gd1 96 rfl rfl⟩
theorem fl_X4_9 : fLk "SilenceMinute$Sights" 9 4 0 := ⟨RX4, TX4, 3, rfl, by decide, rfl, gd1 108 rfl rfl⟩
theorem fl_X4_13 : fLk "SilenceMinute$Sights" 13 4 1 := ⟨RX4, TX4, 3, rfl, by decide, rfl, gd1 109 rfl rfl⟩
theorem fl_X4_16 : fLk "SilenceMinute$Sights" 16 4 2 := ⟨RX4, TX4, 3, rfl, by decide, rfl, gd1 110 rfl rfl⟩
theorem fl_X7_193 : fLk "SilenceMinute" 193 4 2 := ⟨RX4, TX4, 3, rfl, by decide, rfl, gd1 111 rfl rfl⟩
theorem fl_X3_15 : fLk "SilenceMinute$Seating" 15 3 0 := ⟨RX3, TX3, 4, rfl, by decide, rfl, gd1 125 rfl rfl⟩
theorem fl_X7_175 : fLk "SilenceMinute" 175 3 0 := ⟨RX3, TX3, 4, rfl, by decide, rfl, gd1 126 rfl rfl⟩
theorem fl_X3_19 : fLk "SilenceMinute$Seating" 19 3 1 := ⟨RX3, TX3, 4, rfl, by decide, rfl, gd1 127 rfl rfl⟩
theorem fl_X7_178 : fLk "SilenceMinute" 178 3 1 := ⟨RX3, TX3, 4, rfl, by decide, rfl, gd1 128 rfl rfl⟩
theorem fl_X3_28 : fLk "SilenceMinute$Seating" 28 3 2 := ⟨RX3, TX3, 4, rfl, by decide, rfl, gd1 129 rfl rfl⟩
theorem fl_X3_9 : fLk "SilenceMinute$Seating" 9 3 3 := ⟨RX3, TX3, 4, rfl, by decide, rfl, gd1 130 rfl rfl⟩
theorem fl_X2_31 : fLk "SilenceMinute$Sale" 31 2 0 := ⟨RX2, TX2, 3, rfl, by decide, rfl, gd1 146 rfl rfl⟩
theorem fl_X7_209 : fLk "SilenceMinute" 209 2 0 := ⟨RX2, TX2, 3, rfl, by decide, rfl, gd1 147 rfl rfl⟩
theorem fl_X2_35 : fLk "SilenceMinute$Sale" 35 2 1 := ⟨RX2, TX2, 3, rfl, by decide, rfl, gd1 148 rfl rfl⟩
theorem fl_X7_212 : fLk "SilenceMinute" 212 2 1 := ⟨RX2, TX2, 3, rfl, by decide, rfl, gd1 149 rfl rfl⟩
theorem fl_X2_38 : fLk "SilenceMinute$Sale" 38 2 2 := ⟨RX2, TX2, 3, rfl, by decide, rfl, gd1 150 rfl rfl⟩
theorem fl_X0_30 : fLk "SilenceMinute$Image" 30 0 0 := ⟨RX0, TX0, 3, rfl, by decide, rfl, gd1 168 rfl rfl⟩
theorem fl_X0_10 : fLk "SilenceMinute$Image" 10 0 1 := ⟨RX0, TX0, 3, rfl, by decide, rfl, gd1 169 rfl rfl⟩
theorem fl_X0_19 : fLk "SilenceMinute$Image" 19 0 2 := ⟨RX0, TX0, 3, rfl, by decide, rfl, gd1 170 rfl rfl⟩
theorem fl_X7_10 : fLk "SilenceMinute" 10 7 0 := ⟨RX7, TX7, 9, rfl, by decide, rfl, gd1 178 rfl rfl⟩
theorem fl_X7_16 : fLk "SilenceMinute" 16 7 1 := ⟨RX7, TX7, 9, rfl, by decide, rfl, gd1 179 rfl rfl⟩
theorem fl_X7_22 : fLk "SilenceMinute" 22 7 2 := ⟨RX7, TX7, 9, rfl, by decide, rfl, gd1 180 rfl rfl⟩
theorem fl_X7_29 : fLk "SilenceMinute" 29 7 3 := ⟨RX7, TX7, 9, rfl, by decide, rfl, gd1 181 rfl rfl⟩
theorem fl_X7_36 : fLk "SilenceMinute" 36 7 4 := ⟨RX7, TX7, 9, rfl, by decide, rfl, gd1 182 rfl rfl⟩
theorem fl_X7_43 : fLk "SilenceMinute" 43 7 5 := ⟨RX7, TX7, 9, rfl, by decide, rfl, gd1 183 rfl rfl⟩
theorem fl_X7_50 : fLk "SilenceMinute" 50 7 6 := ⟨RX7, TX7, 9, rfl, by decide, rfl, gd1 184 rfl rfl⟩
theorem fl_X7_57 : fLk "SilenceMinute" 57 7 7 := ⟨RX7, TX7, 9, rfl, by decide, rfl, gd1 185 rfl rfl⟩
theorem fl_X7_61 : fLk "SilenceMinute" 61 7 8 := ⟨RX7, TX7, 9, rfl, by decide, rfl, gd1 186 rfl rfl⟩
theorem fl_X8_7 : fLk "SilenceMinuteModel" 7 8 0 := ⟨RX8, TX8, 27, rfl, by decide, rfl, gd3 142 rfl rfl⟩
theorem fl_X8_67 : fLk "SilenceMinuteModel" 67 8 1 := ⟨RX8, TX8, 27, rfl, by decide, rfl, gd3 143 rfl rfl⟩
theorem fl_X8_13 : fLk "SilenceMinuteModel" 13 8 2 := ⟨RX8, TX8, 27, rfl, by decide, rfl, gd3 144 rfl rfl⟩
theorem fl_X8_17 : fLk "SilenceMinuteModel" 17 8 3 := ⟨RX8, TX8, 27, rfl, by decide, rfl, gd3 145 rfl rfl⟩
theorem fl_X8_20 : fLk "SilenceMinuteModel" 20 8 4 := ⟨RX8, TX8, 27, rfl, by decide, rfl, gd3 146 rfl rfl⟩
theorem fl_X8_23 : fLk "SilenceMinuteModel" 23 8 5 := ⟨RX8, TX8, 27, rfl, by decide, rfl, gd3 147 rfl rfl⟩
theorem fl_X8_26 : fLk "SilenceMinuteModel" 26 8 6 := ⟨RX8, TX8, 27, rfl, by decide, rfl, gd3 148 rfl rfl⟩
theorem fl_X8_29 : fLk "SilenceMinuteModel" 29 8 7 := ⟨RX8, TX8, 27, rfl, by decide, rfl, gd3 149 rfl rfl⟩
theorem fl_X8_64 : fLk "SilenceMinuteModel" 64 8 8 := ⟨RX8, TX8, 27, rfl, by decide, rfl, gd3 150 rfl rfl⟩
theorem fl_X8_101 : fLk "SilenceMinuteModel" 101 8 9 := ⟨RX8, TX8, 27, rfl, by decide, rfl, gd3 151 rfl rfl⟩
theorem fl_X8_167 : fLk "SilenceMinuteModel" 167 8 10 := ⟨RX8, TX8, 27, rfl, by decide, rfl, gd3 152 rfl rfl⟩
theorem fl_X8_32 : fLk "SilenceMinuteModel" 32 8 11 := ⟨RX8, TX8, 27, rfl, by decide, rfl, gd3 153 rfl rfl⟩
theorem fl_X8_85 : fLk "SilenceMinuteModel" 85 8 12 := ⟨RX8, TX8, 27, rfl, by decide, rfl, gd3 154 rfl rfl⟩
theorem fl_X8_35 : fLk "SilenceMinuteModel" 35 8 13 := ⟨RX8, TX8, 27, rfl, by decide, rfl, gd3 155 rfl rfl⟩
theorem fl_X8_38 : fLk "SilenceMinuteModel" 38 8 14 := ⟨RX8, TX8, 27, rfl, by decide, rfl, gd3 156 rfl rfl⟩
theorem fl_X8_41 : fLk "SilenceMinuteModel" 41 8 15 := ⟨RX8, TX8, 27, rfl, by decide, rfl, gd3 157 rfl rfl⟩
theorem fl_X8_98 : fLk "SilenceMinuteModel" 98 8 16 := ⟨RX8, TX8, 27, rfl, by decide, rfl, gd3 158 rfl rfl⟩
theorem fl_X8_104 : fLk "SilenceMinuteModel" 104 8 17 := ⟨RX8, TX8, 27, rfl, by decide, rfl, gd3 159 rfl rfl⟩
theorem fl_X8_107 : fLk "SilenceMinuteModel" 107 8 18 := ⟨RX8, TX8, 27, rfl, by decide, rfl, gd3 160 rfl rfl⟩
theorem fl_X8_44 : fLk "SilenceMinuteModel" 44 8 19 := ⟨RX8, TX8, 27, rfl, by decide, rfl, gd3 161 rfl rfl⟩
theorem fl_X8_47 : fLk "SilenceMinuteModel" 47 8 20 := ⟨RX8, TX8, 27, rfl, by decide, rfl, gd3 162 rfl rfl⟩
theorem fl_X8_131 : fLk "SilenceMinuteModel" 131 8 21 := ⟨RX8, TX8, 27, rfl, by decide, rfl, gd3 163 rfl rfl⟩
theorem fl_X8_128 : fLk "SilenceMinuteModel" 128 8 22 := ⟨RX8, TX8, 27, rfl, by decide, rfl, gd3 164 rfl rfl⟩
theorem fl_X8_160 : fLk "SilenceMinuteModel" 160 8 23 := ⟨RX8, TX8, 27, rfl, by decide, rfl, gd3 165 rfl rfl⟩
theorem fl_X8_50 : fLk "SilenceMinuteModel" 50 8 24 := ⟨RX8, TX8, 27, rfl, by decide, rfl, gd3 166 rfl rfl⟩
theorem fl_X8_53 : fLk "SilenceMinuteModel" 53 8 25 := ⟨RX8, TX8, 27, rfl, by decide, rfl, gd3 167 rfl rfl⟩
theorem fl_X8_56 : fLk "SilenceMinuteModel" 56 8 26 := ⟨RX8, TX8, 27, rfl, by decide, rfl, gd3 168 rfl rfl⟩
theorem cu_X0 : ∀ w ∈ u_ws RX0 TX0 3, w ∈ lw_gd := by
  intro w hw
  have h : u_ws RX0 TX0 3 = [206, 208, 210].filterMap (fun i => lw_tbl[i]?) := by decide +kernel
  have hg : (u_ws RX0 TX0 3).all goodWord = true := by decide +kernel
  refine List.mem_filter.mpr ⟨?_, List.all_eq_true.mp hg w hw⟩
  rw [h] at hw
  obtain ⟨i, -, hi⟩ := List.mem_filterMap.mp hw
  exact List.mem_of_getElem? hi
theorem ck_X0 : cOk 0 := ⟨RX0, TX0, 3, tyX0, rfl, cu_X0, tyX0_ok, nmX0, gd1 159 rfl rfl, gd1 8 rfl rfl⟩
theorem cu_X1 : ∀ w ∈ u_ws RX1 TX1 2, w ∈ lw_gd := by
  intro w hw
  have h : u_ws RX1 TX1 2 = [117, 119].filterMap (fun i => lw_tbl[i]?) := by decide +kernel
  have hg : (u_ws RX1 TX1 2).all goodWord = true := by decide +kernel
  refine List.mem_filter.mpr ⟨?_, List.all_eq_true.mp hg w hw⟩
  rw [h] at hw
  obtain ⟨i, -, hi⟩ := List.mem_filterMap.mp hw
  exact List.mem_of_getElem? hi
theorem ck_X1 : cOk 1 := ⟨RX1, TX1, 2, tyX1, rfl, cu_X1, tyX1_ok, nmX1, gd1 73 rfl rfl, gd1 3 rfl rfl⟩
theorem cu_X2 : ∀ w ∈ u_ws RX2 TX2 3, w ∈ lw_gd := by
  intro w hw
  have h : u_ws RX2 TX2 3 = [186, 188, 190].filterMap (fun i => lw_tbl[i]?) := by decide +kernel
  have hg : (u_ws RX2 TX2 3).all goodWord = true := by decide +kernel
  refine List.mem_filter.mpr ⟨?_, List.all_eq_true.mp hg w hw⟩
  rw [h] at hw
  obtain ⟨i, -, hi⟩ := List.mem_filterMap.mp hw
  exact List.mem_of_getElem? hi
theorem ck_X2 : cOk 2 := ⟨RX2, TX2, 3, tyX2, rfl, cu_X2, tyX2_ok, nmX2, gd1 141 rfl rfl, gd1 7 rfl rfl⟩
theorem cu_X3 : ∀ w ∈ u_ws RX3 TX3 4, w ∈ lw_gd := by
  intro w hw
  have h : u_ws RX3 TX3 4 = [166, 168, 170, 172].filterMap (fun i => lw_tbl[i]?) := by decide +kernel
  have hg : (u_ws RX3 TX3 4).all goodWord = true := by decide +kernel
  refine List.mem_filter.mpr ⟨?_, List.all_eq_true.mp hg w hw⟩
  rw [h] at hw
  obtain ⟨i, -, hi⟩ := List.mem_filterMap.mp hw
  exact List.mem_of_getElem? hi
theorem ck_X3 : cOk 3 := ⟨RX3, TX3, 4, tyX3, rfl, cu_X3, tyX3_ok, nmX3, gd1 120 rfl rfl, gd1 6 rfl rfl⟩
theorem cu_X4 : ∀ w ∈ u_ws RX4 TX4 3, w ∈ lw_gd := by
  intro w hw
  have h : u_ws RX4 TX4 3 = [147, 149, 151].filterMap (fun i => lw_tbl[i]?) := by decide +kernel
  have hg : (u_ws RX4 TX4 3).all goodWord = true := by decide +kernel
  refine List.mem_filter.mpr ⟨?_, List.all_eq_true.mp hg w hw⟩
  rw [h] at hw
  obtain ⟨i, -, hi⟩ := List.mem_filterMap.mp hw
  exact List.mem_of_getElem? hi
theorem ck_X4 : cOk 4 := ⟨RX4, TX4, 3, tyX4, rfl, cu_X4, tyX4_ok, nmX4, gd1 103 rfl rfl, gd1 5 rfl rfl⟩
theorem cu_X5 : ∀ w ∈ u_ws RX5 TX5 11, w ∈ lw_gd := by
  intro w hw
  have h : u_ws RX5 TX5 11 = [83, 85, 87, 89, 91, 93, 95, 97, 99, 101, 103].filterMap (fun i => lw_tbl[i]?) := by decide +kernel
  have hg : (u_ws RX5 TX5 11).all goodWord = true := by decide +kernel
  refine List.mem_filter.mpr ⟨?_, List.all_eq_true.mp hg w hw⟩
  rw [h] at hw
  obtain ⟨i, -, hi⟩ := List.mem_filterMap.mp hw
  exact List.mem_of_getElem? hi
theorem ck_X5 : cOk 5 := ⟨RX5, TX5, 11, tyX5, rfl, cu_X5, tyX5_ok, nmX5, gd1 21 rfl rfl, gd1 2 rfl rfl⟩
theorem cu_X6 : ∀ w ∈ u_ws RX6 TX6 2, w ∈ lw_gd := by
  intro w hw
  have h : u_ws RX6 TX6 2 = [132, 134].filterMap (fun i => lw_tbl[i]?) := by decide +kernel
  have hg : (u_ws RX6 TX6 2).all goodWord = true := by decide +kernel
  refine List.mem_filter.mpr ⟨?_, List.all_eq_true.mp hg w hw⟩
  rw [h] at hw
  obtain ⟨i, -, hi⟩ := List.mem_filterMap.mp hw
  exact List.mem_of_getElem? hi
theorem ck_X6 : cOk 6 := ⟨RX6, TX6, 2, tyX6, rfl, cu_X6, tyX6_ok, nmX6, gd1 88 rfl rfl, gd1 4 rfl rfl⟩
theorem cu_X7 : ∀ w ∈ u_ws RX7 TX7 9, w ∈ lw_gd := by
  intro w hw
  have h : u_ws RX7 TX7 9 = [222, 224, 226, 228, 230, 232, 234, 236, 238].filterMap (fun i => lw_tbl[i]?) := by decide +kernel
  have hg : (u_ws RX7 TX7 9).all goodWord = true := by decide +kernel
  refine List.mem_filter.mpr ⟨?_, List.all_eq_true.mp hg w hw⟩
  rw [h] at hw
  obtain ⟨i, -, hi⟩ := List.mem_filterMap.mp hw
  exact List.mem_of_getElem? hi
theorem ck_X7 : cOk 7 := ⟨RX7, TX7, 9, tyX7, rfl, cu_X7, tyX7_ok, nmX7, gd1 13 rfl rfl, gd1 1 rfl rfl⟩
theorem cu_X8 : ∀ w ∈ u_ws RX8 TX8 27, w ∈ lw_gd := by
  intro w hw
  have h : u_ws RX8 TX8 27 = [684, 686, 688, 690, 692, 694, 696, 698, 700, 702, 704, 706, 708, 710, 712, 714, 716, 718, 720, 722, 724, 726, 728, 730, 732, 734, 736].filterMap (fun i => lw_tbl[i]?) := by decide +kernel
  have hg : (u_ws RX8 TX8 27).all goodWord = true := by decide +kernel
  refine List.mem_filter.mpr ⟨?_, List.all_eq_true.mp hg w hw⟩
  rw [h] at hw
  obtain ⟨i, -, hi⟩ := List.mem_filterMap.mp hw
  exact List.mem_of_getElem? hi
theorem ck_X8 : cOk 8 := ⟨RX8, TX8, 27, tyX8, rfl, cu_X8, tyX8_ok, nmX8, gd3 137 rfl rfl, gd1 9 rfl rfl⟩
theorem kc_J6_265 : Cond.constant "java/lang/Integer" 265 (1431655765) ∈ lw_gd := gd3 49 rfl rfl
theorem kc_J6_266 : Cond.constant "java/lang/Integer" 266 (858993459) ∈ lw_gd := gd3 50 rfl rfl
theorem kc_J6_267 : Cond.constant "java/lang/Integer" 267 (252645135) ∈ lw_gd := gd3 51 rfl rfl
theorem kl_X7_215 : Cond.constantLong "SilenceMinute" 215 (-1000000000000000001) ∈ lw_gd := gd3 82 rfl rfl
theorem kl_X7_217 : Cond.constantLong "SilenceMinute" 217 (-1000000000000000002) ∈ lw_gd := gd3 83 rfl rfl
theorem kc_X7_225 : Cond.constant "SilenceMinute" 225 (65537) ∈ lw_gd := gd3 95 rfl rfl
theorem kc_X8_173 : Cond.constant "SilenceMinuteModel" 173 (1000000) ∈ lw_gd := gd4 178 rfl rfl
theorem kl_X8_174 : Cond.constantLong "SilenceMinuteModel" 174 (-1000000000000000001) ∈ lw_gd := gd4 187 rfl rfl
theorem kl_X8_176 : Cond.constantLong "SilenceMinuteModel" 176 (-1000000000000000002) ∈ lw_gd := gd4 188 rfl rfl
theorem kl_X8_178 : Cond.constantLong "SilenceMinuteModel" 178 (10) ∈ lw_gd := gd4 189 rfl rfl
theorem kc_X8_180 : Cond.constant "SilenceMinuteModel" 180 (65537) ∈ lw_gd := gd4 194 rfl rfl
end
