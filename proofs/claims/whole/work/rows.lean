section
-- ===== PART A: goes FIRST, ahead of the names: the tables' words, and 'selects' of the private methods out of them =====
/-- a private method of a class that the tables say can be made, by its rows of tables_1 -/
def lw_okq (q : MethodName × Nat) : Prop := (q.1.cls ≠ "java/lang/invoke/MethodHandle" ∧ q.1.cls ≠ "java/lang/invoke/VarHandle") ∧ Cond.instantiable q.1.cls q.2 ∈ tables_1 ∧ Cond.privateMethod q.1 ∈ tables_1 ∧ Cond.instanceMethod q.1 ∈ tables_1
theorem lw_p0 : lw_okq (⟨"SilenceMinute$Pad", "follow", "(II)I"⟩, 2) := ⟨⟨by decide +kernel, by decide +kernel⟩, List.mem_of_getElem? (i := 73) (by decide +kernel), List.mem_of_getElem? (i := 288) (by decide +kernel), List.mem_of_getElem? (i := 289) (by decide +kernel)⟩
theorem lw_p1 : lw_okq (⟨"SilenceMinute", "padCanBe", "()Z"⟩, 9) := ⟨⟨by decide +kernel, by decide +kernel⟩, List.mem_of_getElem? (i := 13) (by decide +kernel), List.mem_of_getElem? (i := 305) (by decide +kernel), List.mem_of_getElem? (i := 306) (by decide +kernel)⟩
theorem lw_p2 : lw_okq (⟨"SilenceMinute$Train", "payGuard", "(II)V"⟩, 11) := ⟨⟨by decide +kernel, by decide +kernel⟩, List.mem_of_getElem? (i := 21) (by decide +kernel), List.mem_of_getElem? (i := 329) (by decide +kernel), List.mem_of_getElem? (i := 330) (by decide +kernel)⟩
theorem lw_p3 : lw_okq (⟨"SilenceMinute", "letAllMinutesPass", "()V"⟩, 9) := ⟨⟨by decide +kernel, by decide +kernel⟩, List.mem_of_getElem? (i := 13) (by decide +kernel), List.mem_of_getElem? (i := 397) (by decide +kernel), List.mem_of_getElem? (i := 398) (by decide +kernel)⟩
theorem lw_p4 : lw_okq (⟨"SilenceMinute", "keepsSilence", "(II)Z"⟩, 9) := ⟨⟨by decide +kernel, by decide +kernel⟩, List.mem_of_getElem? (i := 13) (by decide +kernel), List.mem_of_getElem? (i := 414) (by decide +kernel), List.mem_of_getElem? (i := 415) (by decide +kernel)⟩
theorem lw_p5 : lw_okq (⟨"SilenceMinute", "paidInTrial", "(I)I"⟩, 9) := ⟨⟨by decide +kernel, by decide +kernel⟩, List.mem_of_getElem? (i := 13) (by decide +kernel), List.mem_of_getElem? (i := 425) (by decide +kernel), List.mem_of_getElem? (i := 426) (by decide +kernel)⟩
theorem lw_p6 : lw_okq (⟨"SilenceMinute$Seating", "waysInAll", "()I"⟩, 4) := ⟨⟨by decide +kernel, by decide +kernel⟩, List.mem_of_getElem? (i := 120) (by decide +kernel), List.mem_of_getElem? (i := 449) (by decide +kernel), List.mem_of_getElem? (i := 450) (by decide +kernel)⟩
theorem lw_p7 : lw_okq (⟨"SilenceMinute$Seating", "isRider", "(I)Z"⟩, 4) := ⟨⟨by decide +kernel, by decide +kernel⟩, List.mem_of_getElem? (i := 120) (by decide +kernel), List.mem_of_getElem? (i := 453) (by decide +kernel), List.mem_of_getElem? (i := 454) (by decide +kernel)⟩
theorem lw_p8 : lw_okq (⟨"SilenceMinute$Seating", "spread", "(I)V"⟩, 4) := ⟨⟨by decide +kernel, by decide +kernel⟩, List.mem_of_getElem? (i := 120) (by decide +kernel), List.mem_of_getElem? (i := 457) (by decide +kernel), List.mem_of_getElem? (i := 458) (by decide +kernel)⟩
theorem lw_p9 : lw_okq (⟨"SilenceMinute$Seating", "twosInOneCompartment", "()I"⟩, 4) := ⟨⟨by decide +kernel, by decide +kernel⟩, List.mem_of_getElem? (i := 120) (by decide +kernel), List.mem_of_getElem? (i := 461) (by decide +kernel), List.mem_of_getElem? (i := 462) (by decide +kernel)⟩
theorem lw_p10 : lw_okq (⟨"SilenceMinute$Seating", "digitsAsNumber", "()I"⟩, 4) := ⟨⟨by decide +kernel, by decide +kernel⟩, List.mem_of_getElem? (i := 120) (by decide +kernel), List.mem_of_getElem? (i := 465) (by decide +kernel), List.mem_of_getElem? (i := 466) (by decide +kernel)⟩
theorem lw_p11 : lw_okq (⟨"SilenceMinute", "topPayer", "()I"⟩, 9) := ⟨⟨by decide +kernel, by decide +kernel⟩, List.mem_of_getElem? (i := 13) (by decide +kernel), List.mem_of_getElem? (i := 485) (by decide +kernel), List.mem_of_getElem? (i := 486) (by decide +kernel)⟩
theorem lw_p12 : lw_okq (⟨"SilenceMinute", "paidByCompartment", "(I)I"⟩, 9) := ⟨⟨by decide +kernel, by decide +kernel⟩, List.mem_of_getElem? (i := 13) (by decide +kernel), List.mem_of_getElem? (i := 489) (by decide +kernel), List.mem_of_getElem? (i := 490) (by decide +kernel)⟩
theorem lw_p13 : lw_okq (⟨"SilenceMinute$Sale", "leaveOff", "(I)V"⟩, 3) := ⟨⟨by decide +kernel, by decide +kernel⟩, List.mem_of_getElem? (i := 141) (by decide +kernel), List.mem_of_getElem? (i := 544) (by decide +kernel), List.mem_of_getElem? (i := 545) (by decide +kernel)⟩
theorem lw_p14 : lw_okq (⟨"SilenceMinute$Sale", "valueFor", "(II)I"⟩, 3) := ⟨⟨by decide +kernel, by decide +kernel⟩, List.mem_of_getElem? (i := 141) (by decide +kernel), List.mem_of_getElem? (i := 555) (by decide +kernel), List.mem_of_getElem? (i := 556) (by decide +kernel)⟩
theorem lw_p15 : lw_okq (⟨"SilenceMinute", "chancesToCough", "(I)I"⟩, 9) := ⟨⟨by decide +kernel, by decide +kernel⟩, List.mem_of_getElem? (i := 13) (by decide +kernel), List.mem_of_getElem? (i := 565) (by decide +kernel), List.mem_of_getElem? (i := 566) (by decide +kernel)⟩
def lw_privs_1 : List (MethodName × Nat) := [(⟨"SilenceMinute$Pad", "follow", "(II)I"⟩, 2), (⟨"SilenceMinute", "padCanBe", "()Z"⟩, 9), (⟨"SilenceMinute$Train", "payGuard", "(II)V"⟩, 11), (⟨"SilenceMinute", "letAllMinutesPass", "()V"⟩, 9), (⟨"SilenceMinute", "keepsSilence", "(II)Z"⟩, 9), (⟨"SilenceMinute", "paidInTrial", "(I)I"⟩, 9), (⟨"SilenceMinute$Seating", "waysInAll", "()I"⟩, 4), (⟨"SilenceMinute$Seating", "isRider", "(I)Z"⟩, 4), (⟨"SilenceMinute$Seating", "spread", "(I)V"⟩, 4), (⟨"SilenceMinute$Seating", "twosInOneCompartment", "()I"⟩, 4), (⟨"SilenceMinute$Seating", "digitsAsNumber", "()I"⟩, 4), (⟨"SilenceMinute", "topPayer", "()I"⟩, 9), (⟨"SilenceMinute", "paidByCompartment", "(I)I"⟩, 9), (⟨"SilenceMinute$Sale", "leaveOff", "(I)V"⟩, 3), (⟨"SilenceMinute$Sale", "valueFor", "(II)I"⟩, 3), (⟨"SilenceMinute", "chancesToCough", "(I)I"⟩, 9)]
theorem lw_r1 : ∀ q ∈ lw_privs_1, lw_okq q := List.forall_mem_cons.mpr ⟨lw_p0, List.forall_mem_cons.mpr ⟨lw_p1, List.forall_mem_cons.mpr ⟨lw_p2, List.forall_mem_cons.mpr ⟨lw_p3, List.forall_mem_cons.mpr ⟨lw_p4, List.forall_mem_cons.mpr ⟨lw_p5, List.forall_mem_cons.mpr ⟨lw_p6, List.forall_mem_cons.mpr ⟨lw_p7, List.forall_mem_cons.mpr ⟨lw_p8, List.forall_mem_cons.mpr ⟨lw_p9, List.forall_mem_cons.mpr ⟨lw_p10, List.forall_mem_cons.mpr ⟨lw_p11, List.forall_mem_cons.mpr ⟨lw_p12, List.forall_mem_cons.mpr ⟨lw_p13, List.forall_mem_cons.mpr ⟨lw_p14, List.forall_mem_cons.mpr ⟨lw_p15, fun _ h => absurd h List.not_mem_nil⟩⟩⟩⟩⟩⟩⟩⟩⟩⟩⟩⟩⟩⟩⟩⟩
theorem lw_p16 : lw_okq (⟨"SilenceMinute", "imageAt", "(I)LSilenceMinute$Image;"⟩, 9) := ⟨⟨by decide +kernel, by decide +kernel⟩, List.mem_of_getElem? (i := 13) (by decide +kernel), List.mem_of_getElem? (i := 588) (by decide +kernel), List.mem_of_getElem? (i := 589) (by decide +kernel)⟩
theorem lw_p17 : lw_okq (⟨"SilenceMinute", "toldOf", "(II)I"⟩, 9) := ⟨⟨by decide +kernel, by decide +kernel⟩, List.mem_of_getElem? (i := 13) (by decide +kernel), List.mem_of_getElem? (i := 613) (by decide +kernel), List.mem_of_getElem? (i := 614) (by decide +kernel)⟩
theorem lw_p18 : lw_okq (⟨"SilenceMinuteModel", "rides", "(II)Z"⟩, 27) := ⟨⟨by decide +kernel, by decide +kernel⟩, List.mem_of_getElem? (i := 617) (by decide +kernel), List.mem_of_getElem? (i := 727) (by decide +kernel), List.mem_of_getElem? (i := 728) (by decide +kernel)⟩
theorem lw_p19 : lw_okq (⟨"SilenceMinuteModel", "faultOf", "()I"⟩, 27) := ⟨⟨by decide +kernel, by decide +kernel⟩, List.mem_of_getElem? (i := 617) (by decide +kernel), List.mem_of_getElem? (i := 758) (by decide +kernel), List.mem_of_getElem? (i := 759) (by decide +kernel)⟩
theorem lw_p20 : lw_okq (⟨"SilenceMinuteModel", "goRides", "()I"⟩, 27) := ⟨⟨by decide +kernel, by decide +kernel⟩, List.mem_of_getElem? (i := 617) (by decide +kernel), List.mem_of_getElem? (i := 772) (by decide +kernel), List.mem_of_getElem? (i := 773) (by decide +kernel)⟩
theorem lw_p21 : lw_okq (⟨"SilenceMinuteModel", "asNow", "()V"⟩, 27) := ⟨⟨by decide +kernel, by decide +kernel⟩, List.mem_of_getElem? (i := 617) (by decide +kernel), List.mem_of_getElem? (i := 776) (by decide +kernel), List.mem_of_getElem? (i := 777) (by decide +kernel)⟩
theorem lw_p22 : lw_okq (⟨"SilenceMinuteModel", "pass", "()V"⟩, 27) := ⟨⟨by decide +kernel, by decide +kernel⟩, List.mem_of_getElem? (i := 617) (by decide +kernel), List.mem_of_getElem? (i := 780) (by decide +kernel), List.mem_of_getElem? (i := 781) (by decide +kernel)⟩
theorem lw_p23 : lw_okq (⟨"SilenceMinuteModel", "holder", "(I)I"⟩, 27) := ⟨⟨by decide +kernel, by decide +kernel⟩, List.mem_of_getElem? (i := 617) (by decide +kernel), List.mem_of_getElem? (i := 784) (by decide +kernel), List.mem_of_getElem? (i := 785) (by decide +kernel)⟩
theorem lw_p24 : lw_okq (⟨"SilenceMinuteModel", "isTunnel", "(I)Z"⟩, 27) := ⟨⟨by decide +kernel, by decide +kernel⟩, List.mem_of_getElem? (i := 617) (by decide +kernel), List.mem_of_getElem? (i := 788) (by decide +kernel), List.mem_of_getElem? (i := 789) (by decide +kernel)⟩
theorem lw_p25 : lw_okq (⟨"SilenceMinuteModel", "whyNot", "(II)I"⟩, 27) := ⟨⟨by decide +kernel, by decide +kernel⟩, List.mem_of_getElem? (i := 617) (by decide +kernel), List.mem_of_getElem? (i := 795) (by decide +kernel), List.mem_of_getElem? (i := 796) (by decide +kernel)⟩
theorem lw_p26 : lw_okq (⟨"SilenceMinuteModel", "ridesNow", "(I)Z"⟩, 27) := ⟨⟨by decide +kernel, by decide +kernel⟩, List.mem_of_getElem? (i := 617) (by decide +kernel), List.mem_of_getElem? (i := 799) (by decide +kernel), List.mem_of_getElem? (i := 800) (by decide +kernel)⟩
theorem lw_p27 : lw_okq (⟨"SilenceMinuteModel", "maySpeak", "(I)Z"⟩, 27) := ⟨⟨by decide +kernel, by decide +kernel⟩, List.mem_of_getElem? (i := 617) (by decide +kernel), List.mem_of_getElem? (i := 803) (by decide +kernel), List.mem_of_getElem? (i := 804) (by decide +kernel)⟩
theorem lw_p28 : lw_okq (⟨"SilenceMinuteModel", "cough", "(I)V"⟩, 27) := ⟨⟨by decide +kernel, by decide +kernel⟩, List.mem_of_getElem? (i := 617) (by decide +kernel), List.mem_of_getElem? (i := 807) (by decide +kernel), List.mem_of_getElem? (i := 808) (by decide +kernel)⟩
theorem lw_p29 : lw_okq (⟨"SilenceMinuteModel", "barOfRides", "()I"⟩, 27) := ⟨⟨by decide +kernel, by decide +kernel⟩, List.mem_of_getElem? (i := 617) (by decide +kernel), List.mem_of_getElem? (i := 815) (by decide +kernel), List.mem_of_getElem? (i := 816) (by decide +kernel)⟩
theorem lw_p30 : lw_okq (⟨"SilenceMinuteModel", "toEnd", "()V"⟩, 27) := ⟨⟨by decide +kernel, by decide +kernel⟩, List.mem_of_getElem? (i := 617) (by decide +kernel), List.mem_of_getElem? (i := 839) (by decide +kernel), List.mem_of_getElem? (i := 840) (by decide +kernel)⟩
theorem lw_p31 : lw_okq (⟨"SilenceMinuteModel", "ridesAtAll", "(I)Z"⟩, 27) := ⟨⟨by decide +kernel, by decide +kernel⟩, List.mem_of_getElem? (i := 617) (by decide +kernel), List.mem_of_getElem? (i := 855) (by decide +kernel), List.mem_of_getElem? (i := 856) (by decide +kernel)⟩
def lw_privs_2 : List (MethodName × Nat) := [(⟨"SilenceMinute", "imageAt", "(I)LSilenceMinute$Image;"⟩, 9), (⟨"SilenceMinute", "toldOf", "(II)I"⟩, 9), (⟨"SilenceMinuteModel", "rides", "(II)Z"⟩, 27), (⟨"SilenceMinuteModel", "faultOf", "()I"⟩, 27), (⟨"SilenceMinuteModel", "goRides", "()I"⟩, 27), (⟨"SilenceMinuteModel", "asNow", "()V"⟩, 27), (⟨"SilenceMinuteModel", "pass", "()V"⟩, 27), (⟨"SilenceMinuteModel", "holder", "(I)I"⟩, 27), (⟨"SilenceMinuteModel", "isTunnel", "(I)Z"⟩, 27), (⟨"SilenceMinuteModel", "whyNot", "(II)I"⟩, 27), (⟨"SilenceMinuteModel", "ridesNow", "(I)Z"⟩, 27), (⟨"SilenceMinuteModel", "maySpeak", "(I)Z"⟩, 27), (⟨"SilenceMinuteModel", "cough", "(I)V"⟩, 27), (⟨"SilenceMinuteModel", "barOfRides", "()I"⟩, 27), (⟨"SilenceMinuteModel", "toEnd", "()V"⟩, 27), (⟨"SilenceMinuteModel", "ridesAtAll", "(I)Z"⟩, 27)]
theorem lw_r2 : ∀ q ∈ lw_privs_2, lw_okq q := List.forall_mem_cons.mpr ⟨lw_p16, List.forall_mem_cons.mpr ⟨lw_p17, List.forall_mem_cons.mpr ⟨lw_p18, List.forall_mem_cons.mpr ⟨lw_p19, List.forall_mem_cons.mpr ⟨lw_p20, List.forall_mem_cons.mpr ⟨lw_p21, List.forall_mem_cons.mpr ⟨lw_p22, List.forall_mem_cons.mpr ⟨lw_p23, List.forall_mem_cons.mpr ⟨lw_p24, List.forall_mem_cons.mpr ⟨lw_p25, List.forall_mem_cons.mpr ⟨lw_p26, List.forall_mem_cons.mpr ⟨lw_p27, List.forall_mem_cons.mpr ⟨lw_p28, List.forall_mem_cons.mpr ⟨lw_p29, List.forall_mem_cons.mpr ⟨lw_p30, List.forall_mem_cons.mpr ⟨lw_p31, fun _ h => absurd h List.not_mem_nil⟩⟩⟩⟩⟩⟩⟩⟩⟩⟩⟩⟩⟩⟩⟩⟩
theorem lw_p32 : lw_okq (⟨"SilenceMinuteModel", "rideAtOnce", "(II)Z"⟩, 27) := ⟨⟨by decide +kernel, by decide +kernel⟩, List.mem_of_getElem? (i := 617) (by decide +kernel), List.mem_of_getElem? (i := 859) (by decide +kernel), List.mem_of_getElem? (i := 860) (by decide +kernel)⟩
theorem lw_p33 : lw_okq (⟨"SilenceMinuteModel", "goWord", "(III)I"⟩, 27) := ⟨⟨by decide +kernel, by decide +kernel⟩, List.mem_of_getElem? (i := 617) (by decide +kernel), List.mem_of_getElem? (i := 867) (by decide +kernel), List.mem_of_getElem? (i := 868) (by decide +kernel)⟩
theorem lw_p34 : lw_okq (⟨"SilenceMinuteModel", "humSet", "()I"⟩, 27) := ⟨⟨by decide +kernel, by decide +kernel⟩, List.mem_of_getElem? (i := 617) (by decide +kernel), List.mem_of_getElem? (i := 891) (by decide +kernel), List.mem_of_getElem? (i := 892) (by decide +kernel)⟩
def lw_privs_3 : List (MethodName × Nat) := [(⟨"SilenceMinuteModel", "rideAtOnce", "(II)Z"⟩, 27), (⟨"SilenceMinuteModel", "goWord", "(III)I"⟩, 27), (⟨"SilenceMinuteModel", "humSet", "()I"⟩, 27)]
theorem lw_r3 : ∀ q ∈ lw_privs_3, lw_okq q := List.forall_mem_cons.mpr ⟨lw_p32, List.forall_mem_cons.mpr ⟨lw_p33, List.forall_mem_cons.mpr ⟨lw_p34, fun _ h => absurd h List.not_mem_nil⟩⟩⟩
def lw_privs : List (MethodName × Nat) := lw_privs_1 ++ (lw_privs_2 ++ (lw_privs_3))
def lw_tbl : List Cond := k2_sels lw_privs ++ tables_1
theorem lw_privs_ok : ∀ q ∈ lw_privs, lw_okq q := by
  show ∀ q ∈ lw_privs_1 ++ (lw_privs_2 ++ (lw_privs_3)), lw_okq q
  exact List.forall_mem_append.mpr ⟨lw_r1, List.forall_mem_append.mpr ⟨lw_r2, lw_r3⟩⟩
def RX0 : String := "SilenceMinute$Image"
def TX0 : u_T := fun k => match k with
  | 0 => ("SilenceMinute$Image", "kept", "Z", false)
  | 1 => ("SilenceMinute$Image", "train", "LSilenceMinute$Train;", true)
  | _ => ("SilenceMinute$Image", "sights", "LSilenceMinute$Sights;", true)
def tyX0 : Nat → FieldType := fun k => match k with
  | 0 => .boolean
  | 1 => .object "SilenceMinute$Train"
  | _ => .object "SilenceMinute$Sights"
theorem nmX0 : ∀ a, a < 3 → ∀ b, b < 3 → a ≠ b → (TX0 a).2.1 ≠ (TX0 b).2.1 := by decide +kernel
theorem tyX0_ok : ∀ k, k < 3 → parseFieldDescriptor (TX0 k).2.2.1 = some (tyX0 k) := by decide +kernel
def RX1 : String := "SilenceMinute$Pad"
def TX1 : u_T := fun k => match k with
  | 0 => ("SilenceMinute$Pad", "signs", "[I", true)
  | _ => ("SilenceMinute$Pad", "count", "I", false)
def tyX1 : Nat → FieldType := fun k => match k with
  | 0 => .array .int
  | _ => .int
theorem nmX1 : ∀ a, a < 2 → ∀ b, b < 2 → a ≠ b → (TX1 a).2.1 ≠ (TX1 b).2.1 := by decide +kernel
theorem tyX1_ok : ∀ k, k < 2 → parseFieldDescriptor (TX1 k).2.2.1 = some (tyX1 k) := by decide +kernel
def RX2 : String := "SilenceMinute$Sale"
def TX2 : u_T := fun k => match k with
  | 0 => ("SilenceMinute$Sale", "winner", "I", false)
  | 1 => ("SilenceMinute$Sale", "price", "I", false)
  | _ => ("SilenceMinute$Sale", "loss", "I", false)
def tyX2 : Nat → FieldType := fun k => match k with
  | 0 => .int
  | 1 => .int
  | _ => .int
theorem nmX2 : ∀ a, a < 3 → ∀ b, b < 3 → a ≠ b → (TX2 a).2.1 ≠ (TX2 b).2.1 := by decide +kernel
theorem tyX2_ok : ∀ k, k < 3 → parseFieldDescriptor (TX2 k).2.2.1 = some (tyX2 k) := by decide +kernel
def RX3 : String := "SilenceMinute$Seating"
def TX3 : u_T := fun k => match k with
  | 0 => ("SilenceMinute$Seating", "ways", "I", false)
  | 1 => ("SilenceMinute$Seating", "first", "I", false)
  | 2 => ("SilenceMinute$Seating", "riders", "I", false)
  | _ => ("SilenceMinute$Seating", "digits", "[I", true)
def tyX3 : Nat → FieldType := fun k => match k with
  | 0 => .int
  | 1 => .int
  | 2 => .int
  | _ => .array .int
theorem nmX3 : ∀ a, a < 4 → ∀ b, b < 4 → a ≠ b → (TX3 a).2.1 ≠ (TX3 b).2.1 := by decide +kernel
theorem tyX3_ok : ∀ k, k < 4 → parseFieldDescriptor (TX3 k).2.2.1 = some (tyX3 k) := by decide +kernel
def RX4 : String := "SilenceMinute$Sights"
def TX4 : u_T := fun k => match k with
  | 0 => ("SilenceMinute$Sights", "minutes", "[I", true)
  | 1 => ("SilenceMinute$Sights", "travellers", "[I", true)
  | _ => ("SilenceMinute$Sights", "count", "I", false)
def tyX4 : Nat → FieldType := fun k => match k with
  | 0 => .array .int
  | 1 => .array .int
  | _ => .int
theorem nmX4 : ∀ a, a < 3 → ∀ b, b < 3 → a ≠ b → (TX4 a).2.1 ≠ (TX4 b).2.1 := by decide +kernel
theorem tyX4_ok : ∀ k, k < 3 → parseFieldDescriptor (TX4 k).2.2.1 = some (tyX4 k) := by decide +kernel
def RX5 : String := "SilenceMinute$Train"
def TX5 : u_T := fun k => match k with
  | 0 => ("SilenceMinute$Train", "length", "I", false)
  | 1 => ("SilenceMinute$Train", "minute", "I", false)
  | 2 => ("SilenceMinute$Train", "guard", "I", false)
  | 3 => ("SilenceMinute$Train", "fineAmount", "I", false)
  | 4 => ("SilenceMinute$Train", "finesPaid", "I", false)
  | 5 => ("SilenceMinute$Train", "tunnels", "I", false)
  | 6 => ("SilenceMinute$Train", "from", "[I", true)
  | 7 => ("SilenceMinute$Train", "to", "[I", true)
  | 8 => ("SilenceMinute$Train", "seats", "[I", true)
  | 9 => ("SilenceMinute$Train", "purses", "[I", true)
  | _ => ("SilenceMinute$Train", "bids", "[I", true)
def tyX5 : Nat → FieldType := fun k => match k with
  | 0 => .int
  | 1 => .int
  | 2 => .int
  | 3 => .int
  | 4 => .int
  | 5 => .int
  | 6 => .array .int
  | 7 => .array .int
  | 8 => .array .int
  | 9 => .array .int
  | _ => .array .int
theorem nmX5 : ∀ a, a < 11 → ∀ b, b < 11 → a ≠ b → (TX5 a).2.1 ≠ (TX5 b).2.1 := by decide +kernel
theorem tyX5_ok : ∀ k, k < 11 → parseFieldDescriptor (TX5 k).2.2.1 = some (tyX5 k) := by decide +kernel
def RX6 : String := "SilenceMinute$Verdict"
def TX6 : u_T := fun k => match k with
  | 0 => ("SilenceMinute$Verdict", "acts", "I", false)
  | _ => ("SilenceMinute$Verdict", "why", "I", false)
def tyX6 : Nat → FieldType := fun k => match k with
  | 0 => .int
  | _ => .int
theorem nmX6 : ∀ a, a < 2 → ∀ b, b < 2 → a ≠ b → (TX6 a).2.1 ≠ (TX6 b).2.1 := by decide +kernel
theorem tyX6_ok : ∀ k, k < 2 → parseFieldDescriptor (TX6 k).2.2.1 = some (tyX6 k) := by decide +kernel
def RX7 : String := "SilenceMinute"
def TX7 : u_T := fun k => match k with
  | 0 => ("SilenceMinute", "now", "LSilenceMinute$Train;", true)
  | 1 => ("SilenceMinute", "trial", "LSilenceMinute$Train;", true)
  | 2 => ("SilenceMinute", "pad", "LSilenceMinute$Pad;", true)
  | 3 => ("SilenceMinute", "verdict", "LSilenceMinute$Verdict;", true)
  | 4 => ("SilenceMinute", "sights", "LSilenceMinute$Sights;", true)
  | 5 => ("SilenceMinute", "seating", "LSilenceMinute$Seating;", true)
  | 6 => ("SilenceMinute", "sale", "LSilenceMinute$Sale;", true)
  | 7 => ("SilenceMinute", "firstImage", "LSilenceMinute$Image;", true)
  | _ => ("SilenceMinute", "secondImage", "LSilenceMinute$Image;", true)
def tyX7 : Nat → FieldType := fun k => match k with
  | 0 => .object "SilenceMinute$Train"
  | 1 => .object "SilenceMinute$Train"
  | 2 => .object "SilenceMinute$Pad"
  | 3 => .object "SilenceMinute$Verdict"
  | 4 => .object "SilenceMinute$Sights"
  | 5 => .object "SilenceMinute$Seating"
  | 6 => .object "SilenceMinute$Sale"
  | 7 => .object "SilenceMinute$Image"
  | _ => .object "SilenceMinute$Image"
theorem nmX7 : ∀ a, a < 9 → ∀ b, b < 9 → a ≠ b → (TX7 a).2.1 ≠ (TX7 b).2.1 := by decide +kernel
theorem tyX7_ok : ∀ k, k < 9 → parseFieldDescriptor (TX7 k).2.2.1 = some (tyX7 k) := by decide +kernel
def RX8 : String := "SilenceMinuteModel"
def TX8 : u_T := fun k => match k with
  | 0 => ("SilenceMinuteModel", "length", "I", false)
  | 1 => ("SilenceMinuteModel", "tunnels", "I", false)
  | 2 => ("SilenceMinuteModel", "from", "[I", true)
  | 3 => ("SilenceMinuteModel", "to", "[I", true)
  | 4 => ("SilenceMinuteModel", "seat", "[I", true)
  | 5 => ("SilenceMinuteModel", "purse", "[I", true)
  | 6 => ("SilenceMinuteModel", "bid", "[I", true)
  | 7 => ("SilenceMinuteModel", "fine", "I", false)
  | 8 => ("SilenceMinuteModel", "minute", "I", false)
  | 9 => ("SilenceMinuteModel", "guard", "I", false)
  | 10 => ("SilenceMinuteModel", "sights", "I", false)
  | 11 => ("SilenceMinuteModel", "sight", "[I", true)
  | 12 => ("SilenceMinuteModel", "signs", "I", false)
  | 13 => ("SilenceMinuteModel", "pad", "[I", true)
  | 14 => ("SilenceMinuteModel", "has1", "[I", true)
  | 15 => ("SilenceMinuteModel", "bids", "[I", true)
  | 16 => ("SilenceMinuteModel", "now", "I", false)
  | 17 => ("SilenceMinuteModel", "guardNow", "I", false)
  | 18 => ("SilenceMinuteModel", "fines", "I", false)
  | 19 => ("SilenceMinuteModel", "paid", "[I", true)
  | 20 => ("SilenceMinuteModel", "paidIn", "[I", true)
  | 21 => ("SilenceMinuteModel", "reason", "I", false)
  | 22 => ("SilenceMinuteModel", "acts", "I", false)
  | 23 => ("SilenceMinuteModel", "knows", "I", false)
  | 24 => ("SilenceMinuteModel", "ends", "[I", true)
  | 25 => ("SilenceMinuteModel", "image", "[I", true)
  | _ => ("SilenceMinuteModel", "isKept", "[Z", true)
def tyX8 : Nat → FieldType := fun k => match k with
  | 0 => .int
  | 1 => .int
  | 2 => .array .int
  | 3 => .array .int
  | 4 => .array .int
  | 5 => .array .int
  | 6 => .array .int
  | 7 => .int
  | 8 => .int
  | 9 => .int
  | 10 => .int
  | 11 => .array .int
  | 12 => .int
  | 13 => .array .int
  | 14 => .array .int
  | 15 => .array .int
  | 16 => .int
  | 17 => .int
  | 18 => .int
  | 19 => .array .int
  | 20 => .array .int
  | 21 => .int
  | 22 => .int
  | 23 => .int
  | 24 => .array .int
  | 25 => .array .int
  | _ => .array .boolean
theorem nmX8 : ∀ a, a < 27 → ∀ b, b < 27 → a ≠ b → (TX8 a).2.1 ≠ (TX8 b).2.1 := by decide +kernel
theorem tyX8_ok : ∀ k, k < 27 → parseFieldDescriptor (TX8 k).2.2.1 = some (tyX8 k) := by decide +kernel
def RJ6 : String := "java/lang/Integer"
def RJ9 : String := "java/lang/Math"
def RL : String := "SilenceMinuteLaw"
abbrev cls : List vw_C := [(RX0, TX0, 3), (RX1, TX1, 2), (RX2, TX2, 3), (RX3, TX3, 4), (RX4, TX4, 3), (RX5, TX5, 11), (RX6, TX6, 2), (RX7, TX7, 9), (RX8, TX8, 27)]
def lw_gd : List Cond := lw_tbl.filter goodWord
theorem gd_at {w : Cond} (i : Nat) (h : lw_tbl[i]? = some w) (hg : goodWord w = true) : w ∈ lw_gd := List.mem_filter.mpr ⟨List.mem_of_getElem? h, hg⟩
theorem gd1 {w : Cond} (i : Nat) (h : tables_1_1[i]? = some w) (hg : goodWord w = true) : w ∈ lw_gd := List.mem_filter.mpr ⟨List.mem_append_right _ (List.mem_append_left _ (List.mem_of_getElem? h)), hg⟩
theorem gd2 {w : Cond} (i : Nat) (h : tables_1_2[i]? = some w) (hg : goodWord w = true) : w ∈ lw_gd := List.mem_filter.mpr ⟨List.mem_append_right _ (List.mem_append_right _ (List.mem_append_left _ (List.mem_of_getElem? h))), hg⟩
theorem gd3 {w : Cond} (i : Nat) (h : tables_1_3[i]? = some w) (hg : goodWord w = true) : w ∈ lw_gd := List.mem_filter.mpr ⟨List.mem_append_right _ (List.mem_append_right _ (List.mem_append_right _ (List.mem_append_left _ (List.mem_of_getElem? h)))), hg⟩
theorem gd4 {w : Cond} (i : Nat) (h : tables_1_4[i]? = some w) (hg : goodWord w = true) : w ∈ lw_gd := List.mem_filter.mpr ⟨List.mem_append_right _ (List.mem_append_right _ (List.mem_append_right _ (List.mem_append_right _ (List.mem_of_getElem? h)))), hg⟩
theorem gd_good : ∀ w ∈ lw_gd, (w.onTables && w.keeps) = true ∨ ∃ ty, w = .arrayClass ty := fun _ h => good_of_word (List.mem_filter.mp h).2
theorem gd_tbl : ∀ w ∈ lw_gd, w ∈ lw_tbl := fun _ h => (List.mem_filter.mp h).1
/-- a method: its name, code, locals, answer, frames and locals of its callees -/
abbrev Mt : Type := MethodName × ByteArray × Nat × Option FieldType × Nat × Nat
abbrev mY (M : Mt) : MethodName := M.1
abbrev mC (M : Mt) : ByteArray := M.2.1
abbrev mL (M : Mt) : Nat := M.2.2.1
abbrev mR (M : Mt) : Option FieldType := M.2.2.2.1
abbrev mF (M : Mt) : Nat := M.2.2.2.2.1
abbrev mO (M : Mt) : Nat := M.2.2.2.2.2
def mK (M : Mt) : Cond := .code (mY M) (mC M) (mL M) (mR M)
def mWs (M : Mt) : List Cond := mK M :: lw_gd
def mRm (M : Mt) : Room := { frames := mF M, cells := 0, slots := 0, locals := mO M }
/-- what the tables say of a method itself -/
def mOk (M : Mt) (n : Nat) : Prop := mK M ∈ lw_gd ∧ Cond.initialized (mY M).cls ∈ lw_gd ∧ ((mY M).cls ≠ "java/lang/invoke/MethodHandle" ∧ (mY M).cls ≠ "java/lang/invoke/VarHandle" ∧ (parseMethodDescriptor (mY M).desc).map (fun d => d.parameters.length) = some n) ∧ plainName (mY M).cls = true
def mVirt (M : Mt) : Prop := Cond.instanceMethod (mY M) ∈ lw_gd ∧ Cond.selects (mY M).cls (mY M) (mY M) ∈ lw_gd
def mStat (M : Mt) : Prop := Cond.static (mY M) ∈ lw_gd
def mLk (own : String) (i : Nat) (M : Mt) : Prop := Cond.methodLink own i (mY M) ∈ lw_gd
/-- the two links to private statics of the nest's host -/
def nst : List Cond := [.methodLinkNest "SilenceMinute$Train" 50 ⟨"SilenceMinute", "isTraveller", "(I)Z"⟩ "SilenceMinute", .methodLinkNest "SilenceMinute$Pad" 23 ⟨"SilenceMinute", "isWithin", "(III)Z"⟩ "SilenceMinute"]
/-- a field link: class ci of cls, field j -/
def fLk (own : String) (i ci j : Nat) : Prop := ∃ (C : String) (T : u_T) (N : Nat), cls[ci]? = some (C, T, N) ∧ j < N ∧ (T j).1 = C ∧ Cond.fieldLink own i C (T j).2.1 (T j).2.2.1 ∈ lw_gd
/-- a class's own rows -/
def cOk (ci : Nat) : Prop := ∃ (C : String) (T : u_T) (N : Nat) (ty : Nat → FieldType), cls[ci]? = some (C, T, N) ∧ (∀ w ∈ u_ws C T N, w ∈ lw_gd) ∧ (∀ k, k < N → parseFieldDescriptor (T k).2.2.1 = some (ty k)) ∧ (∀ a, a < N → ∀ b, b < N → a ≠ b → (T a).2.1 ≠ (T b).2.1) ∧ Cond.instantiable C N ∈ lw_gd ∧ Cond.initialized C ∈ lw_gd
def MX0_init : Mt := (⟨RX0, "<init>", "()V"⟩, prog_2_method_1_code, 1, none, 2, 41)
def MX0_keep : Mt := (⟨RX0, "keep", "(LSilenceMinute$Train;LSilenceMinute$Sights;)V"⟩, prog_2_method_2_code, 3, none, 1, 22)
def MX0_bringBack : Mt := (⟨RX0, "bringBack", "(LSilenceMinute$Train;LSilenceMinute$Sights;)Z"⟩, prog_2_method_3_code, 3, (some .boolean), 1, 22)
def MX1_init : Mt := (⟨RX1, "<init>", "()V"⟩, prog_3_method_1_code, 1, none, 1, 20)
def MX1_write : Mt := (⟨RX1, "write", "(I)Z"⟩, prog_3_method_2_code, 2, (some .boolean), 0, 0)
def MX1_clear : Mt := (⟨RX1, "clear", "()I"⟩, prog_3_method_3_code, 2, (some .int), 0, 0)
def MX1_signAt : Mt := (⟨RX1, "signAt", "(I)I"⟩, prog_3_method_4_code, 2, (some .int), 0, 0)
def MX1_isDigitAt : Mt := (⟨RX1, "isDigitAt", "(I)Z"⟩, prog_3_method_5_code, 2, (some .boolean), 1, 22)
def MX1_faultPlace : Mt := (⟨RX1, "faultPlace", "()I"⟩, prog_3_method_6_code, 3, (some .int), 3, 67)
def MX1_follow : Mt := (⟨RX1, "follow", "(II)I"⟩, prog_3_method_7_code, 5, (some .int), 2, 43)
def MX1_actLength : Mt := (⟨RX1, "actLength", "(I)I"⟩, prog_3_method_8_code, 2, (some .int), 2, 43)
def MX2_init : Mt := (⟨RX2, "<init>", "()V"⟩, prog_4_method_1_code, 1, none, 1, 20)
def MX2_settle : Mt := (⟨RX2, "settle", "(II)V"⟩, prog_4_method_2_code, 6, none, 3, 62)
def MX2_moverBehind : Mt := (⟨RX2, "moverBehind", "(I)I"⟩, prog_4_method_3_code, 1, (some .int), 0, 0)
def MX2_wordBefore : Mt := (⟨RX2, "wordBefore", "(I)I"⟩, prog_4_method_4_code, 1, (some .int), 1, 21)
def MX2_valueFor : Mt := (⟨RX2, "valueFor", "(II)I"⟩, prog_4_method_5_code, 3, (some .int), 0, 0)
def MX2_leaveOff : Mt := (⟨RX2, "leaveOff", "(I)V"⟩, prog_4_method_6_code, 2, none, 2, 41)
def MX3_init : Mt := (⟨RX3, "<init>", "()V"⟩, prog_5_method_1_code, 1, none, 1, 20)
def MX3_countWays : Mt := (⟨RX3, "countWays", "(LSilenceMinute$Train;II)V"⟩, prog_5_method_2_code, 9, none, 3, 69)
def MX3_isRider : Mt := (⟨RX3, "isRider", "(I)Z"⟩, prog_5_method_3_code, 2, (some .boolean), 0, 0)
def MX3_waysInAll : Mt := (⟨RX3, "waysInAll", "()I"⟩, prog_5_method_4_code, 3, (some .int), 1, 21)
def MX3_spread : Mt := (⟨RX3, "spread", "(I)V"⟩, prog_5_method_5_code, 4, none, 1, 21)
def MX3_digitsAsNumber : Mt := (⟨RX3, "digitsAsNumber", "()I"⟩, prog_5_method_6_code, 3, (some .int), 0, 0)
def MX3_twosInOneCompartment : Mt := (⟨RX3, "twosInOneCompartment", "()I"⟩, prog_5_method_7_code, 5, (some .int), 0, 0)
def MX3_meetableTwos : Mt := (⟨RX3, "meetableTwos", "(LSilenceMinute$Train;)I"⟩, prog_5_method_8_code, 5, (some .int), 2, 45)
def MX4_init : Mt := (⟨RX4, "<init>", "()V"⟩, prog_6_method_1_code, 1, none, 1, 20)
def MX4_copyFrom : Mt := (⟨RX4, "copyFrom", "(LSilenceMinute$Sights;)V"⟩, prog_6_method_2_code, 3, none, 0, 0)
def MX4_add : Mt := (⟨RX4, "add", "(II)Z"⟩, prog_6_method_3_code, 3, (some .boolean), 0, 0)
def MX4_clear : Mt := (⟨RX4, "clear", "()I"⟩, prog_6_method_4_code, 2, (some .int), 0, 0)
def MX4_suspects : Mt := (⟨RX4, "suspects", "(LSilenceMinute$Train;)I"⟩, prog_6_method_5_code, 4, (some .int), 4, 91)
def MX5_init : Mt := (⟨RX5, "<init>", "()V"⟩, prog_7_method_1_code, 2, none, 1, 20)
def MX5_copyFrom : Mt := (⟨RX5, "copyFrom", "(LSilenceMinute$Train;)V"⟩, prog_7_method_2_code, 3, none, 0, 0)
def MX5_isTunnel : Mt := (⟨RX5, "isTunnel", "(I)Z"⟩, prog_7_method_3_code, 2, (some .boolean), 0, 0)
def MX5_tunnelsOfLine : Mt := (⟨RX5, "tunnelsOfLine", "()I"⟩, prog_7_method_4_code, 3, (some .int), 1, 21)
def MX5_setRide : Mt := (⟨RX5, "setRide", "(III)V"⟩, prog_7_method_5_code, 4, none, 1, 20)
def MX5_setBid : Mt := (⟨RX5, "setBid", "(II)V"⟩, prog_7_method_6_code, 3, none, 1, 20)
def MX5_ridesAt : Mt := (⟨RX5, "ridesAt", "(II)Z"⟩, prog_7_method_7_code, 3, (some .boolean), 0, 0)
def MX5_ridesIn : Mt := (⟨RX5, "ridesIn", "(III)Z"⟩, prog_7_method_8_code, 4, (some .boolean), 1, 22)
def MX5_ridesNow : Mt := (⟨RX5, "ridesNow", "(I)Z"⟩, prog_7_method_9_code, 2, (some .boolean), 1, 22)
def MX5_ridesFromNowOn : Mt := (⟨RX5, "ridesFromNowOn", "(I)Z"⟩, prog_7_method_10_code, 3, (some .boolean), 1, 22)
def MX5_minutesOf : Mt := (⟨RX5, "minutesOf", "(I)I"⟩, prog_7_method_11_code, 4, (some .int), 1, 22)
def MX5_ridersOf : Mt := (⟨RX5, "ridersOf", "(II)I"⟩, prog_7_method_12_code, 5, (some .int), 2, 45)
def MX5_companionsOf : Mt := (⟨RX5, "companionsOf", "(II)I"⟩, prog_7_method_13_code, 3, (some .int), 3, 69)
def MX5_ridersOfLine : Mt := (⟨RX5, "ridersOfLine", "()I"⟩, prog_7_method_14_code, 3, (some .int), 2, 45)
def MX5_rideTogether : Mt := (⟨RX5, "rideTogether", "(II)Z"⟩, prog_7_method_15_code, 4, (some .boolean), 1, 22)
def MX5_holderOf : Mt := (⟨RX5, "holderOf", "(I)I"⟩, prog_7_method_16_code, 6, (some .int), 1, 22)
def MX5_isHolder : Mt := (⟨RX5, "isHolder", "(I)Z"⟩, prog_7_method_17_code, 2, (some .boolean), 2, 47)
def MX5_maySpeak : Mt := (⟨RX5, "maySpeak", "(I)Z"⟩, prog_7_method_18_code, 3, (some .boolean), 2, 47)
def MX5_passMinute : Mt := (⟨RX5, "passMinute", "()Z"⟩, prog_7_method_19_code, 3, (some .boolean), 2, 47)
def MX5_takeCough : Mt := (⟨RX5, "takeCough", "(I)V"⟩, prog_7_method_20_code, 4, none, 2, 47)
def MX5_payGuard : Mt := (⟨RX5, "payGuard", "(II)V"⟩, prog_7_method_21_code, 3, none, 1, 20)
def MX5_doDrawn : Mt := (⟨RX5, "doDrawn", "(I)V"⟩, prog_7_method_22_code, 4, none, 3, 70)
def MX5_knownAfter : Mt := (⟨RX5, "knownAfter", "(II)I"⟩, prog_7_method_23_code, 6, (some .int), 3, 69)
def MX6_init : Mt := (⟨RX6, "<init>", "()V"⟩, prog_8_method_1_code, 1, none, 1, 20)
def MX6_tryRides : Mt := (⟨RX6, "tryRides", "(LSilenceMinute$Pad;LSilenceMinute$Train;)V"⟩, prog_8_method_2_code, 5, none, 4, 95)
def MX6_tryAct : Mt := (⟨RX6, "tryAct", "(LSilenceMinute$Pad;ILSilenceMinute$Train;)I"⟩, prog_8_method_3_code, 6, (some .int), 3, 70)
def MX7_init : Mt := (⟨RX7, "<init>", "()V"⟩, prog_1_method_1_code, 1, none, 3, 61)
def MX7_line : Mt := (⟨RX7, "line", "(I)I"⟩, prog_1_method_2_code, 3, (some .int), 1, 22)
def MX7_tunnel : Mt := (⟨RX7, "tunnel", "(IZ)I"⟩, prog_1_method_3_code, 4, (some .int), 2, 43)
def MX7_ride : Mt := (⟨RX7, "ride", "(III)I"⟩, prog_1_method_4_code, 4, (some .int), 2, 45)
def MX7_seat : Mt := (⟨RX7, "seat", "(II)I"⟩, prog_1_method_5_code, 4, (some .int), 1, 20)
def MX7_purse : Mt := (⟨RX7, "purse", "(II)I"⟩, prog_1_method_6_code, 4, (some .int), 1, 22)
def MX7_fine : Mt := (⟨RX7, "fine", "(I)I"⟩, prog_1_method_7_code, 3, (some .int), 1, 22)
def MX7_say : Mt := (⟨RX7, "say", "(I)I"⟩, prog_1_method_8_code, 2, (some .int), 1, 22)
def MX7_wipe : Mt := (⟨RX7, "wipe", "()I"⟩, prog_1_method_9_code, 1, (some .int), 1, 21)
def MX7_fault : Mt := (⟨RX7, "fault", "()I"⟩, prog_1_method_10_code, 1, (some .int), 4, 89)
def MX7_judge : Mt := (⟨RX7, "judge", "(I)I"⟩, prog_1_method_11_code, 2, (some .int), 6, 139)
def MX7_done : Mt := (⟨RX7, "done", "()I"⟩, prog_1_method_12_code, 1, (some .int), 6, 139)
def MX7_behind : Mt := (⟨RX7, "behind", "(I)I"⟩, prog_1_method_13_code, 2, (some .int), 6, 139)
def MX7_holds : Mt := (⟨RX7, "holds", "(I)I"⟩, prog_1_method_14_code, 2, (some .int), 2, 47)
def MX7_hears : Mt := (⟨RX7, "hears", "(I)I"⟩, prog_1_method_15_code, 2, (some .int), 4, 91)
def MX7_forecast : Mt := (⟨RX7, "forecast", "(II)I"⟩, prog_1_method_16_code, 4, (some .int), 3, 69)
def MX7_rests : Mt := (⟨RX7, "rests", "(I)I"⟩, prog_1_method_17_code, 2, (some .int), 4, 90)
def MX7_talks : Mt := (⟨RX7, "talks", "(II)I"⟩, prog_1_method_18_code, 5, (some .int), 3, 69)
def MX7_buy : Mt := (⟨RX7, "buy", "(II)I"⟩, prog_1_method_19_code, 4, (some .int), 4, 93)
def MX7_seats : Mt := (⟨RX7, "seats", "(III)I"⟩, prog_1_method_20_code, 4, (some .int), 4, 97)
def MX7_word : Mt := (⟨RX7, "word", "(II)I"⟩, prog_1_method_21_code, 5, (some .int), 4, 94)
def MX7_heard : Mt := (⟨RX7, "heard", "(III)I"⟩, prog_1_method_22_code, 6, (some .int), 4, 94)
def MX7_richest : Mt := (⟨RX7, "richest", "(I)I"⟩, prog_1_method_23_code, 4, (some .int), 4, 90)
def MX7_seen : Mt := (⟨RX7, "seen", "(II)I"⟩, prog_1_method_24_code, 3, (some .int), 1, 22)
def MX7_forget : Mt := (⟨RX7, "forget", "()I"⟩, prog_1_method_25_code, 1, (some .int), 1, 21)
def MX7_hum : Mt := (⟨RX7, "hum", "()I"⟩, prog_1_method_26_code, 1, (some .int), 5, 114)
def MX7_watch : Mt := (⟨RX7, "watch", "(I)I"⟩, prog_1_method_27_code, 8, (some .int), 5, 114)
def MX7_auction : Mt := (⟨RX7, "auction", "(III)I"⟩, prog_1_method_28_code, 4, (some .int), 4, 87)
def MX7_coughs : Mt := (⟨RX7, "coughs", "(III)J"⟩, prog_1_method_29_code, 4, (some .long), 4, 92)
def MX7_year : Mt := (⟨RX7, "year", "(III)I"⟩, prog_1_method_30_code, 6, (some .int), 4, 93)
def MX7_image : Mt := (⟨RX7, "image", "(I)I"⟩, prog_1_method_31_code, 2, (some .int), 2, 44)
def MX7_restore : Mt := (⟨RX7, "restore", "(I)I"⟩, prog_1_method_32_code, 2, (some .int), 2, 44)
def MX7_told : Mt := (⟨RX7, "told", "(I)I"⟩, prog_1_method_33_code, 2, (some .int), 2, 42)
def MX7_isWithin : Mt := (⟨RX7, "isWithin", "(III)Z"⟩, prog_1_method_34_code, 3, (some .boolean), 0, 0)
def MX7_isTraveller : Mt := (⟨RX7, "isTraveller", "(I)Z"⟩, prog_1_method_35_code, 1, (some .boolean), 0, 0)
def MX7_isCompartment : Mt := (⟨RX7, "isCompartment", "(I)Z"⟩, prog_1_method_36_code, 1, (some .boolean), 0, 0)
def MX7_isMinute : Mt := (⟨RX7, "isMinute", "(I)Z"⟩, prog_1_method_37_code, 1, (some .boolean), 0, 0)
def MX7_padCanBe : Mt := (⟨RX7, "padCanBe", "()Z"⟩, prog_1_method_38_code, 1, (some .boolean), 5, 119)
def MX7_letAllMinutesPass : Mt := (⟨RX7, "letAllMinutesPass", "()V"⟩, prog_1_method_39_code, 2, none, 3, 69)
def MX7_keepsSilence : Mt := (⟨RX7, "keepsSilence", "(II)Z"⟩, prog_1_method_40_code, 5, (some .boolean), 3, 69)
def MX7_paidInTrial : Mt := (⟨RX7, "paidInTrial", "(I)I"⟩, prog_1_method_41_code, 2, (some .int), 1, 20)
def MX7_paidByCompartment : Mt := (⟨RX7, "paidByCompartment", "(I)I"⟩, prog_1_method_42_code, 4, (some .int), 2, 41)
def MX7_topPayer : Mt := (⟨RX7, "topPayer", "()I"⟩, prog_1_method_43_code, 4, (some .int), 2, 41)
def MX7_leftAtMost : Mt := (⟨RX7, "leftAtMost", "(II)I"⟩, prog_1_method_44_code, 4, (some .int), 1, 21)
def MX7_chancesToCough : Mt := (⟨RX7, "chancesToCough", "(I)I"⟩, prog_1_method_45_code, 4, (some .int), 3, 69)
def MX7_tenthsInLowestTerms : Mt := (⟨RX7, "tenthsInLowestTerms", "(II)I"⟩, prog_1_method_46_code, 4, (some .int), 0, 0)
def MX7_imageAt : Mt := (⟨RX7, "imageAt", "(I)LSilenceMinute$Image;"⟩, prog_1_method_47_code, 2, (some (.object "SilenceMinute$Image")), 0, 0)
def MX7_toldOf : Mt := (⟨RX7, "toldOf", "(II)I"⟩, prog_1_method_48_code, 3, (some .int), 1, 20)
def MX8_init : Mt := (⟨RX8, "<init>", "()V"⟩, prog_10_method_1_code, 2, none, 1, 20)
def MX8_in : Mt := (⟨RX8, "in", "(III)Z"⟩, prog_10_method_2_code, 3, (some .boolean), 0, 0)
def MX8_has : Mt := (⟨RX8, "has", "(II)Z"⟩, prog_10_method_3_code, 2, (some .boolean), 0, 0)
def MX8_bits : Mt := (⟨RX8, "bits", "(I)I"⟩, prog_10_method_4_code, 3, (some .int), 0, 0)
def MX8_isOne : Mt := (⟨RX8, "isOne", "(I)Z"⟩, prog_10_method_5_code, 1, (some .boolean), 1, 22)
def MX8_isRoom : Mt := (⟨RX8, "isRoom", "(I)Z"⟩, prog_10_method_6_code, 1, (some .boolean), 1, 22)
def MX8_line : Mt := (⟨RX8, "line", "(I)I"⟩, prog_10_method_7_code, 3, (some .int), 1, 22)
def MX8_tunnel : Mt := (⟨RX8, "tunnel", "(IZ)I"⟩, prog_10_method_8_code, 3, (some .int), 1, 22)
def MX8_rides : Mt := (⟨RX8, "rides", "(II)Z"⟩, prog_10_method_9_code, 3, (some .boolean), 1, 22)
def MX8_ride : Mt := (⟨RX8, "ride", "(III)I"⟩, prog_10_method_10_code, 7, (some .int), 2, 44)
def MX8_seat : Mt := (⟨RX8, "seat", "(II)I"⟩, prog_10_method_11_code, 4, (some .int), 2, 42)
def MX8_purse : Mt := (⟨RX8, "purse", "(II)I"⟩, prog_10_method_12_code, 4, (some .int), 2, 42)
def MX8_fine : Mt := (⟨RX8, "fine", "(I)I"⟩, prog_10_method_13_code, 3, (some .int), 1, 22)
def MX8_say : Mt := (⟨RX8, "say", "(I)I"⟩, prog_10_method_14_code, 2, (some .int), 1, 22)
def MX8_wipe : Mt := (⟨RX8, "wipe", "()I"⟩, prog_10_method_15_code, 2, (some .int), 0, 0)
def MX8_isLetter : Mt := (⟨RX8, "isLetter", "(I)Z"⟩, prog_10_method_16_code, 1, (some .boolean), 1, 22)
def MX8_isDigit : Mt := (⟨RX8, "isDigit", "(I)Z"⟩, prog_10_method_17_code, 1, (some .boolean), 1, 22)
def MX8_faultOf : Mt := (⟨RX8, "faultOf", "()I"⟩, prog_10_method_18_code, 6, (some .int), 2, 42)
def MX8_fault : Mt := (⟨RX8, "fault", "()I"⟩, prog_10_method_19_code, 1, (some .int), 3, 67)
def MX8_asNow : Mt := (⟨RX8, "asNow", "()V"⟩, prog_10_method_20_code, 2, none, 0, 0)
def MX8_isTunnel : Mt := (⟨RX8, "isTunnel", "(I)Z"⟩, prog_10_method_21_code, 2, (some .boolean), 1, 21)
def MX8_holder : Mt := (⟨RX8, "holder", "(I)I"⟩, prog_10_method_22_code, 5, (some .int), 2, 44)
def MX8_pass : Mt := (⟨RX8, "pass", "()V"⟩, prog_10_method_23_code, 3, none, 3, 68)
def MX8_ridesNow : Mt := (⟨RX8, "ridesNow", "(I)Z"⟩, prog_10_method_24_code, 2, (some .boolean), 2, 44)
def MX8_maySpeak : Mt := (⟨RX8, "maySpeak", "(I)Z"⟩, prog_10_method_25_code, 3, (some .boolean), 3, 68)
def MX8_cough : Mt := (⟨RX8, "cough", "(I)V"⟩, prog_10_method_26_code, 4, none, 3, 68)
def MX8_whyNot : Mt := (⟨RX8, "whyNot", "(II)I"⟩, prog_10_method_27_code, 3, (some .int), 4, 90)
def MX8_goRides : Mt := (⟨RX8, "goRides", "()I"⟩, prog_10_method_28_code, 4, (some .int), 5, 112)
def MX8_judge : Mt := (⟨RX8, "judge", "(I)I"⟩, prog_10_method_29_code, 3, (some .int), 6, 135)
def MX8_barOfRides : Mt := (⟨RX8, "barOfRides", "()I"⟩, prog_10_method_30_code, 1, (some .int), 6, 135)
def MX8_done : Mt := (⟨RX8, "done", "()I"⟩, prog_10_method_31_code, 2, (some .int), 7, 155)
def MX8_behind : Mt := (⟨RX8, "behind", "(I)I"⟩, prog_10_method_32_code, 2, (some .int), 7, 155)
def MX8_holds : Mt := (⟨RX8, "holds", "(I)I"⟩, prog_10_method_33_code, 2, (some .int), 3, 68)
def MX8_hears : Mt := (⟨RX8, "hears", "(I)I"⟩, prog_10_method_34_code, 4, (some .int), 4, 90)
def MX8_forecast : Mt := (⟨RX8, "forecast", "(II)I"⟩, prog_10_method_35_code, 4, (some .int), 4, 90)
def MX8_toEnd : Mt := (⟨RX8, "toEnd", "()V"⟩, prog_10_method_36_code, 1, none, 4, 90)
def MX8_rests : Mt := (⟨RX8, "rests", "(I)I"⟩, prog_10_method_37_code, 2, (some .int), 5, 110)
def MX8_talks : Mt := (⟨RX8, "talks", "(II)I"⟩, prog_10_method_38_code, 4, (some .int), 4, 90)
def MX8_buy : Mt := (⟨RX8, "buy", "(II)I"⟩, prog_10_method_39_code, 6, (some .int), 4, 90)
def MX8_ridesAtAll : Mt := (⟨RX8, "ridesAtAll", "(I)Z"⟩, prog_10_method_40_code, 4, (some .boolean), 2, 44)
def MX8_rideAtOnce : Mt := (⟨RX8, "rideAtOnce", "(II)Z"⟩, prog_10_method_41_code, 5, (some .boolean), 2, 44)
def MX8_seats : Mt := (⟨RX8, "seats", "(III)I"⟩, prog_10_method_42_code, 14, (some .int), 3, 68)
def MX8_goWord : Mt := (⟨RX8, "goWord", "(III)I"⟩, prog_10_method_43_code, 10, (some .int), 2, 44)
def MX8_word : Mt := (⟨RX8, "word", "(II)I"⟩, prog_10_method_44_code, 3, (some .int), 3, 73)
def MX8_heard : Mt := (⟨RX8, "heard", "(III)I"⟩, prog_10_method_45_code, 4, (some .int), 3, 73)
def MX8_richest : Mt := (⟨RX8, "richest", "(I)I"⟩, prog_10_method_46_code, 6, (some .int), 5, 110)
def MX8_seen : Mt := (⟨RX8, "seen", "(II)I"⟩, prog_10_method_47_code, 3, (some .int), 2, 42)
def MX8_forget : Mt := (⟨RX8, "forget", "()I"⟩, prog_10_method_48_code, 2, (some .int), 0, 0)
def MX8_humSet : Mt := (⟨RX8, "humSet", "()I"⟩, prog_10_method_49_code, 6, (some .int), 3, 67)
def MX8_hum : Mt := (⟨RX8, "hum", "()I"⟩, prog_10_method_50_code, 1, (some .int), 4, 92)
def MX8_watch : Mt := (⟨RX8, "watch", "(I)I"⟩, prog_10_method_51_code, 9, (some .int), 4, 92)
def MX8_auction : Mt := (⟨RX8, "auction", "(III)I"⟩, prog_10_method_52_code, 10, (some .int), 1, 22)
def MX8_coughs : Mt := (⟨RX8, "coughs", "(III)J"⟩, prog_10_method_53_code, 12, (some .long), 4, 90)
def MX8_year : Mt := (⟨RX8, "year", "(III)I"⟩, prog_10_method_54_code, 8, (some .int), 4, 91)
def MX8_image : Mt := (⟨RX8, "image", "(I)I"⟩, prog_10_method_55_code, 4, (some .int), 1, 22)
def MX8_restore : Mt := (⟨RX8, "restore", "(I)I"⟩, prog_10_method_56_code, 4, (some .int), 1, 22)
def MX8_told : Mt := (⟨RX8, "told", "(I)I"⟩, prog_10_method_57_code, 3, (some .int), 2, 42)
def MJ6_bitCount : Mt := (⟨RJ6, "bitCount", "(I)I"⟩, prog_11_method_49_code, 1, (some .int), 0, 0)
def MJ9_max : Mt := (⟨RJ9, "max", "(II)I"⟩, prog_12_method_65_code, 2, (some .int), 0, 0)
def MJ9_min : Mt := (⟨RJ9, "min", "(II)I"⟩, prog_12_method_69_code, 2, (some .int), 0, 0)
theorem ok_MX0_keep : mOk MX0_keep 2 := ⟨gd3 114 rfl rfl, gd1 8 rfl rfl, (by decide +kernel), (by decide +kernel)⟩
theorem vi_MX0_keep : mVirt MX0_keep := ⟨gd3 112 rfl rfl, gd3 113 rfl rfl⟩
theorem ok_MX0_bringBack : mOk MX0_bringBack 2 := ⟨gd3 127 rfl rfl, gd1 8 rfl rfl, (by decide +kernel), (by decide +kernel)⟩
theorem vi_MX0_bringBack : mVirt MX0_bringBack := ⟨gd3 125 rfl rfl, gd3 126 rfl rfl⟩
theorem ok_MX1_write : mOk MX1_write 1 := ⟨gd2 30 rfl rfl, gd1 3 rfl rfl, (by decide +kernel), (by decide +kernel)⟩
theorem vi_MX1_write : mVirt MX1_write := ⟨gd2 28 rfl rfl, gd2 29 rfl rfl⟩
theorem ok_MX1_clear : mOk MX1_clear 0 := ⟨gd2 38 rfl rfl, gd1 3 rfl rfl, (by decide +kernel), (by decide +kernel)⟩
theorem vi_MX1_clear : mVirt MX1_clear := ⟨gd2 36 rfl rfl, gd2 37 rfl rfl⟩
theorem ok_MX1_signAt : mOk MX1_signAt 1 := ⟨gd2 54 rfl rfl, gd1 3 rfl rfl, (by decide +kernel), (by decide +kernel)⟩
theorem vi_MX1_signAt : mVirt MX1_signAt := ⟨gd2 52 rfl rfl, gd2 53 rfl rfl⟩
theorem ok_MX1_isDigitAt : mOk MX1_isDigitAt 1 := ⟨gd2 59 rfl rfl, gd1 3 rfl rfl, (by decide +kernel), (by decide +kernel)⟩
theorem vi_MX1_isDigitAt : mVirt MX1_isDigitAt := ⟨gd2 57 rfl rfl, gd2 58 rfl rfl⟩
theorem ok_MX1_faultPlace : mOk MX1_faultPlace 0 := ⟨gd2 46 rfl rfl, gd1 3 rfl rfl, (by decide +kernel), (by decide +kernel)⟩
theorem vi_MX1_faultPlace : mVirt MX1_faultPlace := ⟨gd2 44 rfl rfl, gd2 45 rfl rfl⟩
theorem ok_MX1_follow : mOk MX1_follow 2 := ⟨gd2 50 rfl rfl, gd1 3 rfl rfl, (by decide +kernel), (by decide +kernel)⟩
theorem vi_MX1_follow : mVirt MX1_follow := ⟨gd2 49 rfl rfl, gd_at 0 (by decide +kernel) rfl⟩
theorem ok_MX1_actLength : mOk MX1_actLength 1 := ⟨gd2 116 rfl rfl, gd1 3 rfl rfl, (by decide +kernel), (by decide +kernel)⟩
theorem vi_MX1_actLength : mVirt MX1_actLength := ⟨gd2 114 rfl rfl, gd2 115 rfl rfl⟩
theorem ok_MX2_settle : mOk MX2_settle 2 := ⟨gd3 62 rfl rfl, gd1 7 rfl rfl, (by decide +kernel), (by decide +kernel)⟩
theorem vi_MX2_settle : mVirt MX2_settle := ⟨gd3 60 rfl rfl, gd3 61 rfl rfl⟩
theorem ok_MX2_moverBehind : mOk MX2_moverBehind 1 := ⟨gd3 69 rfl rfl, gd1 7 rfl rfl, (by decide +kernel), (by decide +kernel)⟩
theorem st_MX2_moverBehind : mStat MX2_moverBehind := gd3 68 rfl rfl
theorem ok_MX2_wordBefore : mOk MX2_wordBefore 1 := ⟨gd3 72 rfl rfl, gd1 7 rfl rfl, (by decide +kernel), (by decide +kernel)⟩
theorem st_MX2_wordBefore : mStat MX2_wordBefore := gd3 71 rfl rfl
theorem ok_MX2_valueFor : mOk MX2_valueFor 2 := ⟨gd3 77 rfl rfl, gd1 7 rfl rfl, (by decide +kernel), (by decide +kernel)⟩
theorem vi_MX2_valueFor : mVirt MX2_valueFor := ⟨gd3 76 rfl rfl, gd_at 14 (by decide +kernel) rfl⟩
theorem ok_MX2_leaveOff : mOk MX2_leaveOff 1 := ⟨gd3 66 rfl rfl, gd1 7 rfl rfl, (by decide +kernel), (by decide +kernel)⟩
theorem vi_MX2_leaveOff : mVirt MX2_leaveOff := ⟨gd3 65 rfl rfl, gd_at 13 (by decide +kernel) rfl⟩
theorem ok_MX3_countWays : mOk MX3_countWays 3 := ⟨gd2 195 rfl rfl, gd1 6 rfl rfl, (by decide +kernel), (by decide +kernel)⟩
theorem vi_MX3_countWays : mVirt MX3_countWays := ⟨gd2 193 rfl rfl, gd2 194 rfl rfl⟩
theorem ok_MX3_isRider : mOk MX3_isRider 1 := ⟨gd2 215 rfl rfl, gd1 6 rfl rfl, (by decide +kernel), (by decide +kernel)⟩
theorem vi_MX3_isRider : mVirt MX3_isRider := ⟨gd2 214 rfl rfl, gd_at 7 (by decide +kernel) rfl⟩
theorem ok_MX3_waysInAll : mOk MX3_waysInAll 0 := ⟨gd2 211 rfl rfl, gd1 6 rfl rfl, (by decide +kernel), (by decide +kernel)⟩
theorem vi_MX3_waysInAll : mVirt MX3_waysInAll := ⟨gd2 210 rfl rfl, gd_at 6 (by decide +kernel) rfl⟩
theorem ok_MX3_spread : mOk MX3_spread 1 := ⟨gd2 219 rfl rfl, gd1 6 rfl rfl, (by decide +kernel), (by decide +kernel)⟩
theorem vi_MX3_spread : mVirt MX3_spread := ⟨gd2 218 rfl rfl, gd_at 8 (by decide +kernel) rfl⟩
theorem ok_MX3_digitsAsNumber : mOk MX3_digitsAsNumber 0 := ⟨gd2 227 rfl rfl, gd1 6 rfl rfl, (by decide +kernel), (by decide +kernel)⟩
theorem vi_MX3_digitsAsNumber : mVirt MX3_digitsAsNumber := ⟨gd2 226 rfl rfl, gd_at 10 (by decide +kernel) rfl⟩
theorem ok_MX3_twosInOneCompartment : mOk MX3_twosInOneCompartment 0 := ⟨gd2 223 rfl rfl, gd1 6 rfl rfl, (by decide +kernel), (by decide +kernel)⟩
theorem vi_MX3_twosInOneCompartment : mVirt MX3_twosInOneCompartment := ⟨gd2 222 rfl rfl, gd_at 9 (by decide +kernel) rfl⟩
theorem ok_MX3_meetableTwos : mOk MX3_meetableTwos 1 := ⟨gd2 203 rfl rfl, gd1 6 rfl rfl, (by decide +kernel), (by decide +kernel)⟩
theorem st_MX3_meetableTwos : mStat MX3_meetableTwos := gd2 202 rfl rfl
theorem ok_MX4_copyFrom : mOk MX4_copyFrom 1 := ⟨gd3 119 rfl rfl, gd1 5 rfl rfl, (by decide +kernel), (by decide +kernel)⟩
theorem vi_MX4_copyFrom : mVirt MX4_copyFrom := ⟨gd3 117 rfl rfl, gd3 118 rfl rfl⟩
theorem ok_MX4_add : mOk MX4_add 2 := ⟨gd3 19 rfl rfl, gd1 5 rfl rfl, (by decide +kernel), (by decide +kernel)⟩
theorem vi_MX4_add : mVirt MX4_add := ⟨gd3 17 rfl rfl, gd3 18 rfl rfl⟩
theorem ok_MX4_clear : mOk MX4_clear 0 := ⟨gd3 27 rfl rfl, gd1 5 rfl rfl, (by decide +kernel), (by decide +kernel)⟩
theorem vi_MX4_clear : mVirt MX4_clear := ⟨gd3 25 rfl rfl, gd3 26 rfl rfl⟩
theorem ok_MX4_suspects : mOk MX4_suspects 1 := ⟨gd3 35 rfl rfl, gd1 5 rfl rfl, (by decide +kernel), (by decide +kernel)⟩
theorem vi_MX4_suspects : mVirt MX4_suspects := ⟨gd3 33 rfl rfl, gd3 34 rfl rfl⟩
theorem ok_MX5_copyFrom : mOk MX5_copyFrom 1 := ⟨gd2 71 rfl rfl, gd1 2 rfl rfl, (by decide +kernel), (by decide +kernel)⟩
theorem vi_MX5_copyFrom : mVirt MX5_copyFrom := ⟨gd2 69 rfl rfl, gd2 70 rfl rfl⟩
theorem ok_MX5_isTunnel : mOk MX5_isTunnel 1 := ⟨gd1 227 rfl rfl, gd1 2 rfl rfl, (by decide +kernel), (by decide +kernel)⟩
theorem vi_MX5_isTunnel : mVirt MX5_isTunnel := ⟨gd1 225 rfl rfl, gd1 226 rfl rfl⟩
theorem ok_MX5_tunnelsOfLine : mOk MX5_tunnelsOfLine 0 := ⟨gd1 223 rfl rfl, gd1 2 rfl rfl, (by decide +kernel), (by decide +kernel)⟩
theorem vi_MX5_tunnelsOfLine : mVirt MX5_tunnelsOfLine := ⟨gd1 221 rfl rfl, gd1 222 rfl rfl⟩
theorem ok_MX5_setRide : mOk MX5_setRide 3 := ⟨gd1 238 rfl rfl, gd1 2 rfl rfl, (by decide +kernel), (by decide +kernel)⟩
theorem vi_MX5_setRide : mVirt MX5_setRide := ⟨gd1 236 rfl rfl, gd1 237 rfl rfl⟩
theorem ok_MX5_setBid : mOk MX5_setBid 2 := ⟨gd2 96 rfl rfl, gd1 2 rfl rfl, (by decide +kernel), (by decide +kernel)⟩
theorem vi_MX5_setBid : mVirt MX5_setBid := ⟨gd2 94 rfl rfl, gd2 95 rfl rfl⟩
theorem ok_MX5_ridesAt : mOk MX5_ridesAt 2 := ⟨gd2 7 rfl rfl, gd1 2 rfl rfl, (by decide +kernel), (by decide +kernel)⟩
theorem vi_MX5_ridesAt : mVirt MX5_ridesAt := ⟨gd2 5 rfl rfl, gd2 6 rfl rfl⟩
theorem ok_MX5_ridesIn : mOk MX5_ridesIn 3 := ⟨gd2 146 rfl rfl, gd1 2 rfl rfl, (by decide +kernel), (by decide +kernel)⟩
theorem vi_MX5_ridesIn : mVirt MX5_ridesIn := ⟨gd2 144 rfl rfl, gd2 145 rfl rfl⟩
theorem ok_MX5_ridesNow : mOk MX5_ridesNow 1 := ⟨gd2 100 rfl rfl, gd1 2 rfl rfl, (by decide +kernel), (by decide +kernel)⟩
theorem vi_MX5_ridesNow : mVirt MX5_ridesNow := ⟨gd2 98 rfl rfl, gd2 99 rfl rfl⟩
theorem ok_MX5_ridesFromNowOn : mOk MX5_ridesFromNowOn 1 := ⟨gd2 172 rfl rfl, gd1 2 rfl rfl, (by decide +kernel), (by decide +kernel)⟩
theorem vi_MX5_ridesFromNowOn : mVirt MX5_ridesFromNowOn := ⟨gd2 170 rfl rfl, gd2 171 rfl rfl⟩
theorem ok_MX5_minutesOf : mOk MX5_minutesOf 1 := ⟨gd2 3 rfl rfl, gd1 2 rfl rfl, (by decide +kernel), (by decide +kernel)⟩
theorem vi_MX5_minutesOf : mVirt MX5_minutesOf := ⟨gd2 1 rfl rfl, gd2 2 rfl rfl⟩
theorem ok_MX5_ridersOf : mOk MX5_ridersOf 2 := ⟨gd2 142 rfl rfl, gd1 2 rfl rfl, (by decide +kernel), (by decide +kernel)⟩
theorem vi_MX5_ridersOf : mVirt MX5_ridersOf := ⟨gd2 140 rfl rfl, gd2 141 rfl rfl⟩
theorem ok_MX5_companionsOf : mOk MX5_companionsOf 2 := ⟨gd2 138 rfl rfl, gd1 2 rfl rfl, (by decide +kernel), (by decide +kernel)⟩
theorem vi_MX5_companionsOf : mVirt MX5_companionsOf := ⟨gd2 136 rfl rfl, gd2 137 rfl rfl⟩
theorem ok_MX5_ridersOfLine : mOk MX5_ridersOfLine 0 := ⟨gd2 199 rfl rfl, gd1 2 rfl rfl, (by decide +kernel), (by decide +kernel)⟩
theorem vi_MX5_ridersOfLine : mVirt MX5_ridersOfLine := ⟨gd2 197 rfl rfl, gd2 198 rfl rfl⟩
theorem ok_MX5_rideTogether : mOk MX5_rideTogether 2 := ⟨gd2 207 rfl rfl, gd1 2 rfl rfl, (by decide +kernel), (by decide +kernel)⟩
theorem vi_MX5_rideTogether : mVirt MX5_rideTogether := ⟨gd2 205 rfl rfl, gd2 206 rfl rfl⟩
theorem ok_MX5_holderOf : mOk MX5_holderOf 1 := ⟨gd2 87 rfl rfl, gd1 2 rfl rfl, (by decide +kernel), (by decide +kernel)⟩
theorem vi_MX5_holderOf : mVirt MX5_holderOf := ⟨gd2 85 rfl rfl, gd2 86 rfl rfl⟩
theorem ok_MX5_isHolder : mOk MX5_isHolder 1 := ⟨gd2 183 rfl rfl, gd1 2 rfl rfl, (by decide +kernel), (by decide +kernel)⟩
theorem vi_MX5_isHolder : mVirt MX5_isHolder := ⟨gd2 181 rfl rfl, gd2 182 rfl rfl⟩
theorem ok_MX5_maySpeak : mOk MX5_maySpeak 1 := ⟨gd2 104 rfl rfl, gd1 2 rfl rfl, (by decide +kernel), (by decide +kernel)⟩
theorem vi_MX5_maySpeak : mVirt MX5_maySpeak := ⟨gd2 102 rfl rfl, gd2 103 rfl rfl⟩
theorem ok_MX5_passMinute : mOk MX5_passMinute 0 := ⟨gd2 83 rfl rfl, gd1 2 rfl rfl, (by decide +kernel), (by decide +kernel)⟩
theorem vi_MX5_passMinute : mVirt MX5_passMinute := ⟨gd2 81 rfl rfl, gd2 82 rfl rfl⟩
theorem ok_MX5_takeCough : mOk MX5_takeCough 1 := ⟨gd2 109 rfl rfl, gd1 2 rfl rfl, (by decide +kernel), (by decide +kernel)⟩
theorem vi_MX5_takeCough : mVirt MX5_takeCough := ⟨gd2 107 rfl rfl, gd2 108 rfl rfl⟩
theorem ok_MX5_payGuard : mOk MX5_payGuard 2 := ⟨gd2 91 rfl rfl, gd1 2 rfl rfl, (by decide +kernel), (by decide +kernel)⟩
theorem vi_MX5_payGuard : mVirt MX5_payGuard := ⟨gd2 90 rfl rfl, gd_at 2 (by decide +kernel) rfl⟩
theorem ok_MX5_doDrawn : mOk MX5_doDrawn 1 := ⟨gd3 99 rfl rfl, gd1 2 rfl rfl, (by decide +kernel), (by decide +kernel)⟩
theorem vi_MX5_doDrawn : mVirt MX5_doDrawn := ⟨gd3 97 rfl rfl, gd3 98 rfl rfl⟩
theorem ok_MX5_knownAfter : mOk MX5_knownAfter 2 := ⟨gd2 235 rfl rfl, gd1 2 rfl rfl, (by decide +kernel), (by decide +kernel)⟩
theorem vi_MX5_knownAfter : mVirt MX5_knownAfter := ⟨gd2 233 rfl rfl, gd2 234 rfl rfl⟩
theorem ok_MX6_tryRides : mOk MX6_tryRides 2 := ⟨gd2 75 rfl rfl, gd1 4 rfl rfl, (by decide +kernel), (by decide +kernel)⟩
theorem vi_MX6_tryRides : mVirt MX6_tryRides := ⟨gd2 73 rfl rfl, gd2 74 rfl rfl⟩
theorem ok_MX6_tryAct : mOk MX6_tryAct 3 := ⟨gd2 78 rfl rfl, gd1 4 rfl rfl, (by decide +kernel), (by decide +kernel)⟩
theorem st_MX6_tryAct : mStat MX6_tryAct := gd2 77 rfl rfl
theorem ok_MX7_line : mOk MX7_line 1 := ⟨gd1 209 rfl rfl, gd1 1 rfl rfl, (by decide +kernel), (by decide +kernel)⟩
theorem vi_MX7_line : mVirt MX7_line := ⟨gd1 207 rfl rfl, gd1 208 rfl rfl⟩
theorem ok_MX7_tunnel : mOk MX7_tunnel 2 := ⟨gd1 216 rfl rfl, gd1 1 rfl rfl, (by decide +kernel), (by decide +kernel)⟩
theorem vi_MX7_tunnel : mVirt MX7_tunnel := ⟨gd1 214 rfl rfl, gd1 215 rfl rfl⟩
theorem ok_MX7_ride : mOk MX7_ride 3 := ⟨gd1 231 rfl rfl, gd1 1 rfl rfl, (by decide +kernel), (by decide +kernel)⟩
theorem vi_MX7_ride : mVirt MX7_ride := ⟨gd1 229 rfl rfl, gd1 230 rfl rfl⟩
theorem ok_MX7_seat : mOk MX7_seat 2 := ⟨gd2 11 rfl rfl, gd1 1 rfl rfl, (by decide +kernel), (by decide +kernel)⟩
theorem vi_MX7_seat : mVirt MX7_seat := ⟨gd2 9 rfl rfl, gd2 10 rfl rfl⟩
theorem ok_MX7_purse : mOk MX7_purse 2 := ⟨gd2 18 rfl rfl, gd1 1 rfl rfl, (by decide +kernel), (by decide +kernel)⟩
theorem vi_MX7_purse : mVirt MX7_purse := ⟨gd2 16 rfl rfl, gd2 17 rfl rfl⟩
theorem ok_MX7_fine : mOk MX7_fine 1 := ⟨gd2 22 rfl rfl, gd1 1 rfl rfl, (by decide +kernel), (by decide +kernel)⟩
theorem vi_MX7_fine : mVirt MX7_fine := ⟨gd2 20 rfl rfl, gd2 21 rfl rfl⟩
theorem ok_MX7_say : mOk MX7_say 1 := ⟨gd2 26 rfl rfl, gd1 1 rfl rfl, (by decide +kernel), (by decide +kernel)⟩
theorem vi_MX7_say : mVirt MX7_say := ⟨gd2 24 rfl rfl, gd2 25 rfl rfl⟩
theorem ok_MX7_wipe : mOk MX7_wipe 0 := ⟨gd2 34 rfl rfl, gd1 1 rfl rfl, (by decide +kernel), (by decide +kernel)⟩
theorem vi_MX7_wipe : mVirt MX7_wipe := ⟨gd2 32 rfl rfl, gd2 33 rfl rfl⟩
theorem ok_MX7_fault : mOk MX7_fault 0 := ⟨gd2 42 rfl rfl, gd1 1 rfl rfl, (by decide +kernel), (by decide +kernel)⟩
theorem vi_MX7_fault : mVirt MX7_fault := ⟨gd2 40 rfl rfl, gd2 41 rfl rfl⟩
theorem ok_MX7_judge : mOk MX7_judge 1 := ⟨gd2 63 rfl rfl, gd1 1 rfl rfl, (by decide +kernel), (by decide +kernel)⟩
theorem vi_MX7_judge : mVirt MX7_judge := ⟨gd2 61 rfl rfl, gd2 62 rfl rfl⟩
theorem ok_MX7_done : mOk MX7_done 0 := ⟨gd2 120 rfl rfl, gd1 1 rfl rfl, (by decide +kernel), (by decide +kernel)⟩
theorem vi_MX7_done : mVirt MX7_done := ⟨gd2 118 rfl rfl, gd2 119 rfl rfl⟩
theorem ok_MX7_behind : mOk MX7_behind 1 := ⟨gd2 124 rfl rfl, gd1 1 rfl rfl, (by decide +kernel), (by decide +kernel)⟩
theorem vi_MX7_behind : mVirt MX7_behind := ⟨gd2 122 rfl rfl, gd2 123 rfl rfl⟩
theorem ok_MX7_holds : mOk MX7_holds 1 := ⟨gd2 128 rfl rfl, gd1 1 rfl rfl, (by decide +kernel), (by decide +kernel)⟩
theorem vi_MX7_holds : mVirt MX7_holds := ⟨gd2 126 rfl rfl, gd2 127 rfl rfl⟩
theorem ok_MX7_hears : mOk MX7_hears 1 := ⟨gd2 133 rfl rfl, gd1 1 rfl rfl, (by decide +kernel), (by decide +kernel)⟩
theorem vi_MX7_hears : mVirt MX7_hears := ⟨gd2 131 rfl rfl, gd2 132 rfl rfl⟩
theorem ok_MX7_forecast : mOk MX7_forecast 2 := ⟨gd2 150 rfl rfl, gd1 1 rfl rfl, (by decide +kernel), (by decide +kernel)⟩
theorem vi_MX7_forecast : mVirt MX7_forecast := ⟨gd2 148 rfl rfl, gd2 149 rfl rfl⟩
theorem ok_MX7_rests : mOk MX7_rests 1 := ⟨gd2 155 rfl rfl, gd1 1 rfl rfl, (by decide +kernel), (by decide +kernel)⟩
theorem vi_MX7_rests : mVirt MX7_rests := ⟨gd2 153 rfl rfl, gd2 154 rfl rfl⟩
theorem ok_MX7_talks : mOk MX7_talks 2 := ⟨gd2 163 rfl rfl, gd1 1 rfl rfl, (by decide +kernel), (by decide +kernel)⟩
theorem vi_MX7_talks : mVirt MX7_talks := ⟨gd2 161 rfl rfl, gd2 162 rfl rfl⟩
theorem ok_MX7_buy : mOk MX7_buy 2 := ⟨gd2 168 rfl rfl, gd1 1 rfl rfl, (by decide +kernel), (by decide +kernel)⟩
theorem vi_MX7_buy : mVirt MX7_buy := ⟨gd2 166 rfl rfl, gd2 167 rfl rfl⟩
theorem ok_MX7_seats : mOk MX7_seats 3 := ⟨gd2 191 rfl rfl, gd1 1 rfl rfl, (by decide +kernel), (by decide +kernel)⟩
theorem vi_MX7_seats : mVirt MX7_seats := ⟨gd2 189 rfl rfl, gd2 190 rfl rfl⟩
theorem ok_MX7_word : mOk MX7_word 2 := ⟨gd2 231 rfl rfl, gd1 1 rfl rfl, (by decide +kernel), (by decide +kernel)⟩
theorem vi_MX7_word : mVirt MX7_word := ⟨gd2 229 rfl rfl, gd2 230 rfl rfl⟩
theorem ok_MX7_heard : mOk MX7_heard 3 := ⟨gd2 239 rfl rfl, gd1 1 rfl rfl, (by decide +kernel), (by decide +kernel)⟩
theorem vi_MX7_heard : mVirt MX7_heard := ⟨gd2 237 rfl rfl, gd2 238 rfl rfl⟩
theorem ok_MX7_richest : mOk MX7_richest 1 := ⟨gd3 3 rfl rfl, gd1 1 rfl rfl, (by decide +kernel), (by decide +kernel)⟩
theorem vi_MX7_richest : mVirt MX7_richest := ⟨gd3 1 rfl rfl, gd3 2 rfl rfl⟩
theorem ok_MX7_seen : mOk MX7_seen 2 := ⟨gd3 15 rfl rfl, gd1 1 rfl rfl, (by decide +kernel), (by decide +kernel)⟩
theorem vi_MX7_seen : mVirt MX7_seen := ⟨gd3 13 rfl rfl, gd3 14 rfl rfl⟩
theorem ok_MX7_forget : mOk MX7_forget 0 := ⟨gd3 23 rfl rfl, gd1 1 rfl rfl, (by decide +kernel), (by decide +kernel)⟩
theorem vi_MX7_forget : mVirt MX7_forget := ⟨gd3 21 rfl rfl, gd3 22 rfl rfl⟩
theorem ok_MX7_hum : mOk MX7_hum 0 := ⟨gd3 31 rfl rfl, gd1 1 rfl rfl, (by decide +kernel), (by decide +kernel)⟩
theorem vi_MX7_hum : mVirt MX7_hum := ⟨gd3 29 rfl rfl, gd3 30 rfl rfl⟩
theorem ok_MX7_watch : mOk MX7_watch 1 := ⟨gd3 41 rfl rfl, gd1 1 rfl rfl, (by decide +kernel), (by decide +kernel)⟩
theorem vi_MX7_watch : mVirt MX7_watch := ⟨gd3 39 rfl rfl, gd3 40 rfl rfl⟩
theorem ok_MX7_auction : mOk MX7_auction 3 := ⟨gd3 58 rfl rfl, gd1 1 rfl rfl, (by decide +kernel), (by decide +kernel)⟩
theorem vi_MX7_auction : mVirt MX7_auction := ⟨gd3 56 rfl rfl, gd3 57 rfl rfl⟩
theorem ok_MX7_coughs : mOk MX7_coughs 3 := ⟨gd3 81 rfl rfl, gd1 1 rfl rfl, (by decide +kernel), (by decide +kernel)⟩
theorem vi_MX7_coughs : mVirt MX7_coughs := ⟨gd3 79 rfl rfl, gd3 80 rfl rfl⟩
theorem ok_MX7_year : mOk MX7_year 3 := ⟨gd3 94 rfl rfl, gd1 1 rfl rfl, (by decide +kernel), (by decide +kernel)⟩
theorem vi_MX7_year : mVirt MX7_year := ⟨gd3 92 rfl rfl, gd3 93 rfl rfl⟩
theorem ok_MX7_image : mOk MX7_image 1 := ⟨gd3 106 rfl rfl, gd1 1 rfl rfl, (by decide +kernel), (by decide +kernel)⟩
theorem vi_MX7_image : mVirt MX7_image := ⟨gd3 104 rfl rfl, gd3 105 rfl rfl⟩
theorem ok_MX7_restore : mOk MX7_restore 1 := ⟨gd3 123 rfl rfl, gd1 1 rfl rfl, (by decide +kernel), (by decide +kernel)⟩
theorem vi_MX7_restore : mVirt MX7_restore := ⟨gd3 121 rfl rfl, gd3 122 rfl rfl⟩
theorem ok_MX7_told : mOk MX7_told 1 := ⟨gd3 131 rfl rfl, gd1 1 rfl rfl, (by decide +kernel), (by decide +kernel)⟩
theorem vi_MX7_told : mVirt MX7_told := ⟨gd3 129 rfl rfl, gd3 130 rfl rfl⟩
theorem ok_MX7_isWithin : mOk MX7_isWithin 3 := ⟨gd1 212 rfl rfl, gd1 1 rfl rfl, (by decide +kernel), (by decide +kernel)⟩
theorem st_MX7_isWithin : mStat MX7_isWithin := gd1 211 rfl rfl
theorem ok_MX7_isTraveller : mOk MX7_isTraveller 1 := ⟨gd1 234 rfl rfl, gd1 1 rfl rfl, (by decide +kernel), (by decide +kernel)⟩
theorem st_MX7_isTraveller : mStat MX7_isTraveller := gd1 233 rfl rfl
theorem ok_MX7_isCompartment : mOk MX7_isCompartment 1 := ⟨gd2 14 rfl rfl, gd1 1 rfl rfl, (by decide +kernel), (by decide +kernel)⟩
theorem st_MX7_isCompartment : mStat MX7_isCompartment := gd2 13 rfl rfl
theorem ok_MX7_isMinute : mOk MX7_isMinute 1 := ⟨gd1 219 rfl rfl, gd1 1 rfl rfl, (by decide +kernel), (by decide +kernel)⟩
theorem st_MX7_isMinute : mStat MX7_isMinute := gd1 218 rfl rfl
theorem ok_MX7_padCanBe : mOk MX7_padCanBe 0 := ⟨gd2 67 rfl rfl, gd1 1 rfl rfl, (by decide +kernel), (by decide +kernel)⟩
theorem vi_MX7_padCanBe : mVirt MX7_padCanBe := ⟨gd2 66 rfl rfl, gd_at 1 (by decide +kernel) rfl⟩
theorem ok_MX7_letAllMinutesPass : mOk MX7_letAllMinutesPass 0 := ⟨gd2 159 rfl rfl, gd1 1 rfl rfl, (by decide +kernel), (by decide +kernel)⟩
theorem vi_MX7_letAllMinutesPass : mVirt MX7_letAllMinutesPass := ⟨gd2 158 rfl rfl, gd_at 3 (by decide +kernel) rfl⟩
theorem ok_MX7_keepsSilence : mOk MX7_keepsSilence 2 := ⟨gd2 176 rfl rfl, gd1 1 rfl rfl, (by decide +kernel), (by decide +kernel)⟩
theorem vi_MX7_keepsSilence : mVirt MX7_keepsSilence := ⟨gd2 175 rfl rfl, gd_at 4 (by decide +kernel) rfl⟩
theorem ok_MX7_paidInTrial : mOk MX7_paidInTrial 1 := ⟨gd2 187 rfl rfl, gd1 1 rfl rfl, (by decide +kernel), (by decide +kernel)⟩
theorem vi_MX7_paidInTrial : mVirt MX7_paidInTrial := ⟨gd2 186 rfl rfl, gd_at 5 (by decide +kernel) rfl⟩
theorem ok_MX7_paidByCompartment : mOk MX7_paidByCompartment 1 := ⟨gd3 11 rfl rfl, gd1 1 rfl rfl, (by decide +kernel), (by decide +kernel)⟩
theorem vi_MX7_paidByCompartment : mVirt MX7_paidByCompartment := ⟨gd3 10 rfl rfl, gd_at 12 (by decide +kernel) rfl⟩
theorem ok_MX7_topPayer : mOk MX7_topPayer 0 := ⟨gd3 7 rfl rfl, gd1 1 rfl rfl, (by decide +kernel), (by decide +kernel)⟩
theorem vi_MX7_topPayer : mVirt MX7_topPayer := ⟨gd3 6 rfl rfl, gd_at 11 (by decide +kernel) rfl⟩
theorem ok_MX7_leftAtMost : mOk MX7_leftAtMost 2 := ⟨gd3 45 rfl rfl, gd1 1 rfl rfl, (by decide +kernel), (by decide +kernel)⟩
theorem st_MX7_leftAtMost : mStat MX7_leftAtMost := gd3 44 rfl rfl
theorem ok_MX7_chancesToCough : mOk MX7_chancesToCough 1 := ⟨gd3 87 rfl rfl, gd1 1 rfl rfl, (by decide +kernel), (by decide +kernel)⟩
theorem vi_MX7_chancesToCough : mVirt MX7_chancesToCough := ⟨gd3 86 rfl rfl, gd_at 15 (by decide +kernel) rfl⟩
theorem ok_MX7_tenthsInLowestTerms : mOk MX7_tenthsInLowestTerms 2 := ⟨gd3 90 rfl rfl, gd1 1 rfl rfl, (by decide +kernel), (by decide +kernel)⟩
theorem st_MX7_tenthsInLowestTerms : mStat MX7_tenthsInLowestTerms := gd3 89 rfl rfl
theorem ok_MX7_imageAt : mOk MX7_imageAt 1 := ⟨gd3 110 rfl rfl, gd1 1 rfl rfl, (by decide +kernel), (by decide +kernel)⟩
theorem vi_MX7_imageAt : mVirt MX7_imageAt := ⟨gd3 109 rfl rfl, gd_at 16 (by decide +kernel) rfl⟩
theorem ok_MX7_toldOf : mOk MX7_toldOf 2 := ⟨gd3 135 rfl rfl, gd1 1 rfl rfl, (by decide +kernel), (by decide +kernel)⟩
theorem vi_MX7_toldOf : mVirt MX7_toldOf := ⟨gd3 134 rfl rfl, gd_at 17 (by decide +kernel) rfl⟩
theorem ok_MX8_in : mOk MX8_in 3 := ⟨gd3 231 rfl rfl, gd1 9 rfl rfl, (by decide +kernel), (by decide +kernel)⟩
theorem st_MX8_in : mStat MX8_in := gd3 230 rfl rfl
theorem ok_MX8_has : mOk MX8_has 2 := ⟨gd4 73 rfl rfl, gd1 9 rfl rfl, (by decide +kernel), (by decide +kernel)⟩
theorem st_MX8_has : mStat MX8_has := gd4 72 rfl rfl
theorem ok_MX8_bits : mOk MX8_bits 1 := ⟨gd3 238 rfl rfl, gd1 9 rfl rfl, (by decide +kernel), (by decide +kernel)⟩
theorem st_MX8_bits : mStat MX8_bits := gd3 237 rfl rfl
theorem ok_MX8_isOne : mOk MX8_isOne 1 := ⟨gd4 5 rfl rfl, gd1 9 rfl rfl, (by decide +kernel), (by decide +kernel)⟩
theorem st_MX8_isOne : mStat MX8_isOne := gd4 4 rfl rfl
theorem ok_MX8_isRoom : mOk MX8_isRoom 1 := ⟨gd4 16 rfl rfl, gd1 9 rfl rfl, (by decide +kernel), (by decide +kernel)⟩
theorem st_MX8_isRoom : mStat MX8_isRoom := gd4 15 rfl rfl
theorem ok_MX8_line : mOk MX8_line 1 := ⟨gd3 228 rfl rfl, gd1 9 rfl rfl, (by decide +kernel), (by decide +kernel)⟩
theorem vi_MX8_line : mVirt MX8_line := ⟨gd3 226 rfl rfl, gd3 227 rfl rfl⟩
theorem ok_MX8_tunnel : mOk MX8_tunnel 2 := ⟨gd3 235 rfl rfl, gd1 9 rfl rfl, (by decide +kernel), (by decide +kernel)⟩
theorem vi_MX8_tunnel : mVirt MX8_tunnel := ⟨gd3 233 rfl rfl, gd3 234 rfl rfl⟩
theorem ok_MX8_rides : mOk MX8_rides 2 := ⟨gd4 9 rfl rfl, gd1 9 rfl rfl, (by decide +kernel), (by decide +kernel)⟩
theorem vi_MX8_rides : mVirt MX8_rides := ⟨gd4 8 rfl rfl, gd_at 18 (by decide +kernel) rfl⟩
theorem ok_MX8_ride : mOk MX8_ride 3 := ⟨gd4 2 rfl rfl, gd1 9 rfl rfl, (by decide +kernel), (by decide +kernel)⟩
theorem vi_MX8_ride : mVirt MX8_ride := ⟨gd4 0 rfl rfl, gd4 1 rfl rfl⟩
theorem ok_MX8_seat : mOk MX8_seat 2 := ⟨gd4 13 rfl rfl, gd1 9 rfl rfl, (by decide +kernel), (by decide +kernel)⟩
theorem vi_MX8_seat : mVirt MX8_seat := ⟨gd4 11 rfl rfl, gd4 12 rfl rfl⟩
theorem ok_MX8_purse : mOk MX8_purse 2 := ⟨gd4 20 rfl rfl, gd1 9 rfl rfl, (by decide +kernel), (by decide +kernel)⟩
theorem vi_MX8_purse : mVirt MX8_purse := ⟨gd4 18 rfl rfl, gd4 19 rfl rfl⟩
theorem ok_MX8_fine : mOk MX8_fine 1 := ⟨gd4 24 rfl rfl, gd1 9 rfl rfl, (by decide +kernel), (by decide +kernel)⟩
theorem vi_MX8_fine : mVirt MX8_fine := ⟨gd4 22 rfl rfl, gd4 23 rfl rfl⟩
theorem ok_MX8_say : mOk MX8_say 1 := ⟨gd4 28 rfl rfl, gd1 9 rfl rfl, (by decide +kernel), (by decide +kernel)⟩
theorem vi_MX8_say : mVirt MX8_say := ⟨gd4 26 rfl rfl, gd4 27 rfl rfl⟩
theorem ok_MX8_wipe : mOk MX8_wipe 0 := ⟨gd4 32 rfl rfl, gd1 9 rfl rfl, (by decide +kernel), (by decide +kernel)⟩
theorem vi_MX8_wipe : mVirt MX8_wipe := ⟨gd4 30 rfl rfl, gd4 31 rfl rfl⟩
theorem ok_MX8_isLetter : mOk MX8_isLetter 1 := ⟨gd4 43 rfl rfl, gd1 9 rfl rfl, (by decide +kernel), (by decide +kernel)⟩
theorem st_MX8_isLetter : mStat MX8_isLetter := gd4 42 rfl rfl
theorem ok_MX8_isDigit : mOk MX8_isDigit 1 := ⟨gd4 46 rfl rfl, gd1 9 rfl rfl, (by decide +kernel), (by decide +kernel)⟩
theorem st_MX8_isDigit : mStat MX8_isDigit := gd4 45 rfl rfl
theorem ok_MX8_faultOf : mOk MX8_faultOf 0 := ⟨gd4 40 rfl rfl, gd1 9 rfl rfl, (by decide +kernel), (by decide +kernel)⟩
theorem vi_MX8_faultOf : mVirt MX8_faultOf := ⟨gd4 39 rfl rfl, gd_at 19 (by decide +kernel) rfl⟩
theorem ok_MX8_fault : mOk MX8_fault 0 := ⟨gd4 36 rfl rfl, gd1 9 rfl rfl, (by decide +kernel), (by decide +kernel)⟩
theorem vi_MX8_fault : mVirt MX8_fault := ⟨gd4 34 rfl rfl, gd4 35 rfl rfl⟩
theorem ok_MX8_asNow : mOk MX8_asNow 0 := ⟨gd4 58 rfl rfl, gd1 9 rfl rfl, (by decide +kernel), (by decide +kernel)⟩
theorem vi_MX8_asNow : mVirt MX8_asNow := ⟨gd4 57 rfl rfl, gd_at 21 (by decide +kernel) rfl⟩
theorem ok_MX8_isTunnel : mOk MX8_isTunnel 1 := ⟨gd4 70 rfl rfl, gd1 9 rfl rfl, (by decide +kernel), (by decide +kernel)⟩
theorem vi_MX8_isTunnel : mVirt MX8_isTunnel := ⟨gd4 69 rfl rfl, gd_at 24 (by decide +kernel) rfl⟩
theorem ok_MX8_holder : mOk MX8_holder 1 := ⟨gd4 66 rfl rfl, gd1 9 rfl rfl, (by decide +kernel), (by decide +kernel)⟩
theorem vi_MX8_holder : mVirt MX8_holder := ⟨gd4 65 rfl rfl, gd_at 23 (by decide +kernel) rfl⟩
theorem ok_MX8_pass : mOk MX8_pass 0 := ⟨gd4 62 rfl rfl, gd1 9 rfl rfl, (by decide +kernel), (by decide +kernel)⟩
theorem vi_MX8_pass : mVirt MX8_pass := ⟨gd4 61 rfl rfl, gd_at 22 (by decide +kernel) rfl⟩
theorem ok_MX8_ridesNow : mOk MX8_ridesNow 1 := ⟨gd4 81 rfl rfl, gd1 9 rfl rfl, (by decide +kernel), (by decide +kernel)⟩
theorem vi_MX8_ridesNow : mVirt MX8_ridesNow := ⟨gd4 80 rfl rfl, gd_at 26 (by decide +kernel) rfl⟩
theorem ok_MX8_maySpeak : mOk MX8_maySpeak 1 := ⟨gd4 85 rfl rfl, gd1 9 rfl rfl, (by decide +kernel), (by decide +kernel)⟩
theorem vi_MX8_maySpeak : mVirt MX8_maySpeak := ⟨gd4 84 rfl rfl, gd_at 27 (by decide +kernel) rfl⟩
theorem ok_MX8_cough : mOk MX8_cough 1 := ⟨gd4 89 rfl rfl, gd1 9 rfl rfl, (by decide +kernel), (by decide +kernel)⟩
theorem vi_MX8_cough : mVirt MX8_cough := ⟨gd4 88 rfl rfl, gd_at 28 (by decide +kernel) rfl⟩
theorem ok_MX8_whyNot : mOk MX8_whyNot 2 := ⟨gd4 77 rfl rfl, gd1 9 rfl rfl, (by decide +kernel), (by decide +kernel)⟩
theorem vi_MX8_whyNot : mVirt MX8_whyNot := ⟨gd4 76 rfl rfl, gd_at 25 (by decide +kernel) rfl⟩
theorem ok_MX8_goRides : mOk MX8_goRides 0 := ⟨gd4 54 rfl rfl, gd1 9 rfl rfl, (by decide +kernel), (by decide +kernel)⟩
theorem vi_MX8_goRides : mVirt MX8_goRides := ⟨gd4 53 rfl rfl, gd_at 20 (by decide +kernel) rfl⟩
theorem ok_MX8_judge : mOk MX8_judge 1 := ⟨gd4 50 rfl rfl, gd1 9 rfl rfl, (by decide +kernel), (by decide +kernel)⟩
theorem vi_MX8_judge : mVirt MX8_judge := ⟨gd4 48 rfl rfl, gd4 49 rfl rfl⟩
theorem ok_MX8_barOfRides : mOk MX8_barOfRides 0 := ⟨gd4 97 rfl rfl, gd1 9 rfl rfl, (by decide +kernel), (by decide +kernel)⟩
theorem vi_MX8_barOfRides : mVirt MX8_barOfRides := ⟨gd4 96 rfl rfl, gd_at 29 (by decide +kernel) rfl⟩
theorem ok_MX8_done : mOk MX8_done 0 := ⟨gd4 93 rfl rfl, gd1 9 rfl rfl, (by decide +kernel), (by decide +kernel)⟩
theorem vi_MX8_done : mVirt MX8_done := ⟨gd4 91 rfl rfl, gd4 92 rfl rfl⟩
theorem ok_MX8_behind : mOk MX8_behind 1 := ⟨gd4 101 rfl rfl, gd1 9 rfl rfl, (by decide +kernel), (by decide +kernel)⟩
theorem vi_MX8_behind : mVirt MX8_behind := ⟨gd4 99 rfl rfl, gd4 100 rfl rfl⟩
theorem ok_MX8_holds : mOk MX8_holds 1 := ⟨gd4 105 rfl rfl, gd1 9 rfl rfl, (by decide +kernel), (by decide +kernel)⟩
theorem vi_MX8_holds : mVirt MX8_holds := ⟨gd4 103 rfl rfl, gd4 104 rfl rfl⟩
theorem ok_MX8_hears : mOk MX8_hears 1 := ⟨gd4 109 rfl rfl, gd1 9 rfl rfl, (by decide +kernel), (by decide +kernel)⟩
theorem vi_MX8_hears : mVirt MX8_hears := ⟨gd4 107 rfl rfl, gd4 108 rfl rfl⟩
theorem ok_MX8_forecast : mOk MX8_forecast 2 := ⟨gd4 113 rfl rfl, gd1 9 rfl rfl, (by decide +kernel), (by decide +kernel)⟩
theorem vi_MX8_forecast : mVirt MX8_forecast := ⟨gd4 111 rfl rfl, gd4 112 rfl rfl⟩
theorem ok_MX8_toEnd : mOk MX8_toEnd 0 := ⟨gd4 121 rfl rfl, gd1 9 rfl rfl, (by decide +kernel), (by decide +kernel)⟩
theorem vi_MX8_toEnd : mVirt MX8_toEnd := ⟨gd4 120 rfl rfl, gd_at 30 (by decide +kernel) rfl⟩
theorem ok_MX8_rests : mOk MX8_rests 1 := ⟨gd4 117 rfl rfl, gd1 9 rfl rfl, (by decide +kernel), (by decide +kernel)⟩
theorem vi_MX8_rests : mVirt MX8_rests := ⟨gd4 115 rfl rfl, gd4 116 rfl rfl⟩
theorem ok_MX8_talks : mOk MX8_talks 2 := ⟨gd4 125 rfl rfl, gd1 9 rfl rfl, (by decide +kernel), (by decide +kernel)⟩
theorem vi_MX8_talks : mVirt MX8_talks := ⟨gd4 123 rfl rfl, gd4 124 rfl rfl⟩
theorem ok_MX8_buy : mOk MX8_buy 2 := ⟨gd4 129 rfl rfl, gd1 9 rfl rfl, (by decide +kernel), (by decide +kernel)⟩
theorem vi_MX8_buy : mVirt MX8_buy := ⟨gd4 127 rfl rfl, gd4 128 rfl rfl⟩
theorem ok_MX8_ridesAtAll : mOk MX8_ridesAtAll 1 := ⟨gd4 137 rfl rfl, gd1 9 rfl rfl, (by decide +kernel), (by decide +kernel)⟩
theorem vi_MX8_ridesAtAll : mVirt MX8_ridesAtAll := ⟨gd4 136 rfl rfl, gd_at 31 (by decide +kernel) rfl⟩
theorem ok_MX8_rideAtOnce : mOk MX8_rideAtOnce 2 := ⟨gd4 141 rfl rfl, gd1 9 rfl rfl, (by decide +kernel), (by decide +kernel)⟩
theorem vi_MX8_rideAtOnce : mVirt MX8_rideAtOnce := ⟨gd4 140 rfl rfl, gd_at 32 (by decide +kernel) rfl⟩
theorem ok_MX8_seats : mOk MX8_seats 3 := ⟨gd4 133 rfl rfl, gd1 9 rfl rfl, (by decide +kernel), (by decide +kernel)⟩
theorem vi_MX8_seats : mVirt MX8_seats := ⟨gd4 131 rfl rfl, gd4 132 rfl rfl⟩
theorem ok_MX8_goWord : mOk MX8_goWord 3 := ⟨gd4 149 rfl rfl, gd1 9 rfl rfl, (by decide +kernel), (by decide +kernel)⟩
theorem vi_MX8_goWord : mVirt MX8_goWord := ⟨gd4 148 rfl rfl, gd_at 33 (by decide +kernel) rfl⟩
theorem ok_MX8_word : mOk MX8_word 2 := ⟨gd4 145 rfl rfl, gd1 9 rfl rfl, (by decide +kernel), (by decide +kernel)⟩
theorem vi_MX8_word : mVirt MX8_word := ⟨gd4 143 rfl rfl, gd4 144 rfl rfl⟩
theorem ok_MX8_heard : mOk MX8_heard 3 := ⟨gd4 153 rfl rfl, gd1 9 rfl rfl, (by decide +kernel), (by decide +kernel)⟩
theorem vi_MX8_heard : mVirt MX8_heard := ⟨gd4 151 rfl rfl, gd4 152 rfl rfl⟩
theorem ok_MX8_richest : mOk MX8_richest 1 := ⟨gd4 157 rfl rfl, gd1 9 rfl rfl, (by decide +kernel), (by decide +kernel)⟩
theorem vi_MX8_richest : mVirt MX8_richest := ⟨gd4 155 rfl rfl, gd4 156 rfl rfl⟩
theorem ok_MX8_seen : mOk MX8_seen 2 := ⟨gd4 161 rfl rfl, gd1 9 rfl rfl, (by decide +kernel), (by decide +kernel)⟩
theorem vi_MX8_seen : mVirt MX8_seen := ⟨gd4 159 rfl rfl, gd4 160 rfl rfl⟩
theorem ok_MX8_forget : mOk MX8_forget 0 := ⟨gd4 165 rfl rfl, gd1 9 rfl rfl, (by decide +kernel), (by decide +kernel)⟩
theorem vi_MX8_forget : mVirt MX8_forget := ⟨gd4 163 rfl rfl, gd4 164 rfl rfl⟩
theorem ok_MX8_humSet : mOk MX8_humSet 0 := ⟨gd4 173 rfl rfl, gd1 9 rfl rfl, (by decide +kernel), (by decide +kernel)⟩
theorem vi_MX8_humSet : mVirt MX8_humSet := ⟨gd4 172 rfl rfl, gd_at 34 (by decide +kernel) rfl⟩
theorem ok_MX8_hum : mOk MX8_hum 0 := ⟨gd4 169 rfl rfl, gd1 9 rfl rfl, (by decide +kernel), (by decide +kernel)⟩
theorem vi_MX8_hum : mVirt MX8_hum := ⟨gd4 167 rfl rfl, gd4 168 rfl rfl⟩
theorem ok_MX8_watch : mOk MX8_watch 1 := ⟨gd4 177 rfl rfl, gd1 9 rfl rfl, (by decide +kernel), (by decide +kernel)⟩
theorem vi_MX8_watch : mVirt MX8_watch := ⟨gd4 175 rfl rfl, gd4 176 rfl rfl⟩
theorem ok_MX8_auction : mOk MX8_auction 3 := ⟨gd4 182 rfl rfl, gd1 9 rfl rfl, (by decide +kernel), (by decide +kernel)⟩
theorem vi_MX8_auction : mVirt MX8_auction := ⟨gd4 180 rfl rfl, gd4 181 rfl rfl⟩
theorem ok_MX8_coughs : mOk MX8_coughs 3 := ⟨gd4 186 rfl rfl, gd1 9 rfl rfl, (by decide +kernel), (by decide +kernel)⟩
theorem vi_MX8_coughs : mVirt MX8_coughs := ⟨gd4 184 rfl rfl, gd4 185 rfl rfl⟩
theorem ok_MX8_year : mOk MX8_year 3 := ⟨gd4 193 rfl rfl, gd1 9 rfl rfl, (by decide +kernel), (by decide +kernel)⟩
theorem vi_MX8_year : mVirt MX8_year := ⟨gd4 191 rfl rfl, gd4 192 rfl rfl⟩
theorem ok_MX8_image : mOk MX8_image 1 := ⟨gd4 198 rfl rfl, gd1 9 rfl rfl, (by decide +kernel), (by decide +kernel)⟩
theorem vi_MX8_image : mVirt MX8_image := ⟨gd4 196 rfl rfl, gd4 197 rfl rfl⟩
theorem ok_MX8_restore : mOk MX8_restore 1 := ⟨gd4 202 rfl rfl, gd1 9 rfl rfl, (by decide +kernel), (by decide +kernel)⟩
theorem vi_MX8_restore : mVirt MX8_restore := ⟨gd4 200 rfl rfl, gd4 201 rfl rfl⟩
theorem ok_MX8_told : mOk MX8_told 1 := ⟨gd4 206 rfl rfl, gd1 9 rfl rfl, (by decide +kernel), (by decide +kernel)⟩
theorem vi_MX8_told : mVirt MX8_told := ⟨gd4 204 rfl rfl, gd4 205 rfl rfl⟩
theorem ok_MJ6_bitCount : mOk MJ6_bitCount 1 := ⟨gd3 48 rfl rfl, gd1 11 rfl rfl, (by decide +kernel), (by decide +kernel)⟩
theorem st_MJ6_bitCount : mStat MJ6_bitCount := gd3 47 rfl rfl
theorem lk_L_13 : mLk "SilenceMinuteLaw" 13 MX7_line := gd1 206 rfl rfl
theorem lk_X7_64 : mLk "SilenceMinute" 64 MX7_isWithin := gd1 210 rfl rfl
theorem lk_L_18 : mLk "SilenceMinuteLaw" 18 MX7_tunnel := gd1 213 rfl rfl
theorem lk_X7_75 : mLk "SilenceMinute" 75 MX7_isMinute := gd1 217 rfl rfl
theorem lk_X7_82 : mLk "SilenceMinute" 82 MX5_tunnelsOfLine := gd1 220 rfl rfl
theorem lk_X5_46 : mLk "SilenceMinute$Train" 46 MX5_isTunnel := gd1 224 rfl rfl
theorem lk_L_23 : mLk "SilenceMinuteLaw" 23 MX7_ride := gd1 228 rfl rfl
theorem lk_X7_86 : mLk "SilenceMinute" 86 MX7_isTraveller := gd1 232 rfl rfl
theorem lk_X7_89 : mLk "SilenceMinute" 89 MX5_setRide := gd1 235 rfl rfl
theorem lk_X7_93 : mLk "SilenceMinute" 93 MX5_minutesOf := gd2 0 rfl rfl
theorem lk_X5_53 : mLk "SilenceMinute$Train" 53 MX5_ridesAt := gd2 4 rfl rfl
theorem lk_L_28 : mLk "SilenceMinuteLaw" 28 MX7_seat := gd2 8 rfl rfl
theorem lk_X7_97 : mLk "SilenceMinute" 97 MX7_isCompartment := gd2 12 rfl rfl
theorem lk_L_33 : mLk "SilenceMinuteLaw" 33 MX7_purse := gd2 15 rfl rfl
theorem lk_L_37 : mLk "SilenceMinuteLaw" 37 MX7_fine := gd2 19 rfl rfl
theorem lk_L_41 : mLk "SilenceMinuteLaw" 41 MX7_say := gd2 23 rfl rfl
theorem lk_X7_110 : mLk "SilenceMinute" 110 MX1_write := gd2 27 rfl rfl
theorem lk_L_45 : mLk "SilenceMinuteLaw" 45 MX7_wipe := gd2 31 rfl rfl
theorem lk_X7_116 : mLk "SilenceMinute" 116 MX1_clear := gd2 35 rfl rfl
theorem lk_L_50 : mLk "SilenceMinuteLaw" 50 MX7_fault := gd2 39 rfl rfl
theorem lk_X7_119 : mLk "SilenceMinute" 119 MX1_faultPlace := gd2 43 rfl rfl
theorem lk_X1_27 : mLk "SilenceMinute$Pad" 27 MX1_follow := gd2 47 rfl rfl
theorem lk_X1_19 : mLk "SilenceMinute$Pad" 19 MX1_signAt := gd2 51 rfl rfl
theorem lk_X1_31 : mLk "SilenceMinute$Pad" 31 MX1_isDigitAt := gd2 56 rfl rfl
theorem lk_L_54 : mLk "SilenceMinuteLaw" 54 MX7_judge := gd2 60 rfl rfl
theorem lk_X7_122 : mLk "SilenceMinute" 122 MX7_padCanBe := gd2 64 rfl rfl
theorem lk_X7_132 : mLk "SilenceMinute" 132 MX5_copyFrom := gd2 68 rfl rfl
theorem lk_X7_245 : mLk "SilenceMinute" 245 MX6_tryRides := gd2 72 rfl rfl
theorem lk_X6_23 : mLk "SilenceMinute$Verdict" 23 MX6_tryAct := gd2 76 rfl rfl
theorem lk_X6_31 : mLk "SilenceMinute$Verdict" 31 MX1_signAt := gd2 79 rfl rfl
theorem lk_X6_34 : mLk "SilenceMinute$Verdict" 34 MX5_passMinute := gd2 80 rfl rfl
theorem lk_X5_69 : mLk "SilenceMinute$Train" 69 MX5_holderOf := gd2 84 rfl rfl
theorem lk_X5_75 : mLk "SilenceMinute$Train" 75 MX5_payGuard := gd2 88 rfl rfl
theorem lk_X6_40 : mLk "SilenceMinute$Verdict" 40 MX1_isDigitAt := gd2 92 rfl rfl
theorem lk_X6_44 : mLk "SilenceMinute$Verdict" 44 MX5_setBid := gd2 93 rfl rfl
theorem lk_X6_48 : mLk "SilenceMinute$Verdict" 48 MX5_ridesNow := gd2 97 rfl rfl
theorem lk_X6_51 : mLk "SilenceMinute$Verdict" 51 MX5_maySpeak := gd2 101 rfl rfl
theorem lk_X5_72 : mLk "SilenceMinute$Train" 72 MX5_ridesNow := gd2 105 rfl rfl
theorem lk_X6_54 : mLk "SilenceMinute$Verdict" 54 MX5_takeCough := gd2 106 rfl rfl
theorem lk_X5_79 : mLk "SilenceMinute$Train" 79 MJ9_min := gd2 110 rfl rfl
theorem lk_X6_27 : mLk "SilenceMinute$Verdict" 27 MX1_actLength := gd2 113 rfl rfl
theorem lk_L_58 : mLk "SilenceMinuteLaw" 58 MX7_done := gd2 117 rfl rfl
theorem lk_L_62 : mLk "SilenceMinuteLaw" 62 MX7_behind := gd2 121 rfl rfl
theorem lk_L_66 : mLk "SilenceMinuteLaw" 66 MX7_holds := gd2 125 rfl rfl
theorem lk_X7_142 : mLk "SilenceMinute" 142 MX5_holderOf := gd2 129 rfl rfl
theorem lk_L_70 : mLk "SilenceMinuteLaw" 70 MX7_hears := gd2 130 rfl rfl
theorem lk_X7_145 : mLk "SilenceMinute" 145 MX5_maySpeak := gd2 134 rfl rfl
theorem lk_X7_148 : mLk "SilenceMinute" 148 MX5_companionsOf := gd2 135 rfl rfl
theorem lk_X5_61 : mLk "SilenceMinute$Train" 61 MX5_ridersOf := gd2 139 rfl rfl
theorem lk_X5_57 : mLk "SilenceMinute$Train" 57 MX5_ridesIn := gd2 143 rfl rfl
theorem lk_L_74 : mLk "SilenceMinuteLaw" 74 MX7_forecast := gd2 147 rfl rfl
theorem lk_X7_152 : mLk "SilenceMinute" 152 MX5_passMinute := gd2 151 rfl rfl
theorem lk_L_78 : mLk "SilenceMinuteLaw" 78 MX7_rests := gd2 152 rfl rfl
theorem lk_X7_155 : mLk "SilenceMinute" 155 MX7_letAllMinutesPass := gd2 156 rfl rfl
theorem lk_L_82 : mLk "SilenceMinuteLaw" 82 MX7_talks := gd2 160 rfl rfl
theorem lk_X7_158 : mLk "SilenceMinute" 158 MX5_ridesIn := gd2 164 rfl rfl
theorem lk_L_86 : mLk "SilenceMinuteLaw" 86 MX7_buy := gd2 165 rfl rfl
theorem lk_X7_161 : mLk "SilenceMinute" 161 MX5_ridesFromNowOn := gd2 169 rfl rfl
theorem lk_X7_164 : mLk "SilenceMinute" 164 MX7_keepsSilence := gd2 173 rfl rfl
theorem lk_X7_249 : mLk "SilenceMinute" 249 MX5_setBid := gd2 177 rfl rfl
theorem lk_X7_252 : mLk "SilenceMinute" 252 MX5_ridesAt := gd2 178 rfl rfl
theorem lk_X7_255 : mLk "SilenceMinute" 255 MX5_isTunnel := gd2 179 rfl rfl
theorem lk_X7_258 : mLk "SilenceMinute" 258 MX5_isHolder := gd2 180 rfl rfl
theorem lk_X7_168 : mLk "SilenceMinute" 168 MX7_paidInTrial := gd2 184 rfl rfl
theorem lk_L_90 : mLk "SilenceMinuteLaw" 90 MX7_seats := gd2 188 rfl rfl
theorem lk_X7_171 : mLk "SilenceMinute" 171 MX3_countWays := gd2 192 rfl rfl
theorem lk_X3_22 : mLk "SilenceMinute$Seating" 22 MX5_ridersOfLine := gd2 196 rfl rfl
theorem lk_X5_65 : mLk "SilenceMinute$Train" 65 MX5_minutesOf := gd2 200 rfl rfl
theorem lk_X3_31 : mLk "SilenceMinute$Seating" 31 MX3_meetableTwos := gd2 201 rfl rfl
theorem lk_X3_52 : mLk "SilenceMinute$Seating" 52 MX5_rideTogether := gd2 204 rfl rfl
theorem lk_X3_35 : mLk "SilenceMinute$Seating" 35 MX3_waysInAll := gd2 208 rfl rfl
theorem lk_X3_48 : mLk "SilenceMinute$Seating" 48 MX3_isRider := gd2 212 rfl rfl
theorem lk_X3_38 : mLk "SilenceMinute$Seating" 38 MX3_spread := gd2 216 rfl rfl
theorem lk_X3_42 : mLk "SilenceMinute$Seating" 42 MX3_twosInOneCompartment := gd2 220 rfl rfl
theorem lk_X3_45 : mLk "SilenceMinute$Seating" 45 MX3_digitsAsNumber := gd2 224 rfl rfl
theorem lk_L_94 : mLk "SilenceMinuteLaw" 94 MX7_word := gd2 228 rfl rfl
theorem lk_X7_181 : mLk "SilenceMinute" 181 MX5_knownAfter := gd2 232 rfl rfl
theorem lk_L_98 : mLk "SilenceMinuteLaw" 98 MX7_heard := gd2 236 rfl rfl
theorem lk_L_102 : mLk "SilenceMinuteLaw" 102 MX7_richest := gd3 0 rfl rfl
theorem lk_X7_184 : mLk "SilenceMinute" 184 MX7_topPayer := gd3 4 rfl rfl
theorem lk_X7_187 : mLk "SilenceMinute" 187 MX7_paidByCompartment := gd3 8 rfl rfl
theorem lk_L_106 : mLk "SilenceMinuteLaw" 106 MX7_seen := gd3 12 rfl rfl
theorem lk_X7_190 : mLk "SilenceMinute" 190 MX4_add := gd3 16 rfl rfl
theorem lk_L_110 : mLk "SilenceMinuteLaw" 110 MX7_forget := gd3 20 rfl rfl
theorem lk_X7_194 : mLk "SilenceMinute" 194 MX4_clear := gd3 24 rfl rfl
theorem lk_L_114 : mLk "SilenceMinuteLaw" 114 MX7_hum := gd3 28 rfl rfl
theorem lk_X7_195 : mLk "SilenceMinute" 195 MX4_suspects := gd3 32 rfl rfl
theorem lk_X4_20 : mLk "SilenceMinute$Sights" 20 MX5_ridersOfLine := gd3 36 rfl rfl
theorem lk_X4_26 : mLk "SilenceMinute$Sights" 26 MX5_companionsOf := gd3 37 rfl rfl
theorem lk_L_118 : mLk "SilenceMinuteLaw" 118 MX7_watch := gd3 38 rfl rfl
theorem lk_X7_199 : mLk "SilenceMinute" 199 MX5_ridersOf := gd3 42 rfl rfl
theorem lk_X7_202 : mLk "SilenceMinute" 202 MX7_leftAtMost := gd3 43 rfl rfl
theorem lk_X7_261 : mLk "SilenceMinute" 261 MJ6_bitCount := gd3 46 rfl rfl
theorem lk_X7_266 : mLk "SilenceMinute" 266 MJ9_max := gd3 52 rfl rfl
theorem lk_L_122 : mLk "SilenceMinuteLaw" 122 MX7_auction := gd3 55 rfl rfl
theorem lk_X7_205 : mLk "SilenceMinute" 205 MX2_settle := gd3 59 rfl rfl
theorem lk_X2_11 : mLk "SilenceMinute$Sale" 11 MX2_leaveOff := gd3 63 rfl rfl
theorem lk_X2_15 : mLk "SilenceMinute$Sale" 15 MX2_moverBehind := gd3 67 rfl rfl
theorem lk_X2_23 : mLk "SilenceMinute$Sale" 23 MX2_wordBefore := gd3 70 rfl rfl
theorem lk_X2_26 : mLk "SilenceMinute$Sale" 26 MJ9_max := gd3 73 rfl rfl
theorem lk_X2_19 : mLk "SilenceMinute$Sale" 19 MX2_valueFor := gd3 74 rfl rfl
theorem lk_L_126 : mLk "SilenceMinuteLaw" 126 MX7_coughs := gd3 78 rfl rfl
theorem lk_X7_219 : mLk "SilenceMinute" 219 MX7_chancesToCough := gd3 84 rfl rfl
theorem lk_X7_222 : mLk "SilenceMinute" 222 MX7_tenthsInLowestTerms := gd3 88 rfl rfl
theorem lk_L_131 : mLk "SilenceMinuteLaw" 131 MX7_year := gd3 91 rfl rfl
theorem lk_X7_226 : mLk "SilenceMinute" 226 MX5_doDrawn := gd3 96 rfl rfl
theorem lk_X5_84 : mLk "SilenceMinute$Train" 84 MX5_passMinute := gd3 100 rfl rfl
theorem lk_X5_88 : mLk "SilenceMinute$Train" 88 MX5_setBid := gd3 101 rfl rfl
theorem lk_X5_91 : mLk "SilenceMinute$Train" 91 MX5_takeCough := gd3 102 rfl rfl
theorem lk_L_135 : mLk "SilenceMinuteLaw" 135 MX7_image := gd3 103 rfl rfl
theorem lk_X7_230 : mLk "SilenceMinute" 230 MX7_imageAt := gd3 107 rfl rfl
theorem lk_X7_234 : mLk "SilenceMinute" 234 MX0_keep := gd3 111 rfl rfl
theorem lk_X0_23 : mLk "SilenceMinute$Image" 23 MX5_copyFrom := gd3 115 rfl rfl
theorem lk_X0_27 : mLk "SilenceMinute$Image" 27 MX4_copyFrom := gd3 116 rfl rfl
theorem lk_L_139 : mLk "SilenceMinuteLaw" 139 MX7_restore := gd3 120 rfl rfl
theorem lk_X7_238 : mLk "SilenceMinute" 238 MX0_bringBack := gd3 124 rfl rfl
theorem lk_L_143 : mLk "SilenceMinuteLaw" 143 MX7_told := gd3 128 rfl rfl
theorem lk_X7_242 : mLk "SilenceMinute" 242 MX7_toldOf := gd3 132 rfl rfl
theorem lk_L_17 : mLk "SilenceMinuteLaw" 17 MX8_line := gd3 225 rfl rfl
theorem lk_X8_60 : mLk "SilenceMinuteModel" 60 MX8_in := gd3 229 rfl rfl
theorem lk_L_22 : mLk "SilenceMinuteLaw" 22 MX8_tunnel := gd3 232 rfl rfl
theorem lk_X8_70 : mLk "SilenceMinuteModel" 70 MX8_bits := gd3 236 rfl rfl
theorem lk_L_27 : mLk "SilenceMinuteLaw" 27 MX8_ride := gd3 239 rfl rfl
theorem lk_X8_74 : mLk "SilenceMinuteModel" 74 MX8_isOne := gd4 3 rfl rfl
theorem lk_X8_78 : mLk "SilenceMinuteModel" 78 MX8_rides := gd4 6 rfl rfl
theorem lk_L_32 : mLk "SilenceMinuteLaw" 32 MX8_seat := gd4 10 rfl rfl
theorem lk_X8_82 : mLk "SilenceMinuteModel" 82 MX8_isRoom := gd4 14 rfl rfl
theorem lk_L_36 : mLk "SilenceMinuteLaw" 36 MX8_purse := gd4 17 rfl rfl
theorem lk_L_40 : mLk "SilenceMinuteLaw" 40 MX8_fine := gd4 21 rfl rfl
theorem lk_L_44 : mLk "SilenceMinuteLaw" 44 MX8_say := gd4 25 rfl rfl
theorem lk_L_49 : mLk "SilenceMinuteLaw" 49 MX8_wipe := gd4 29 rfl rfl
theorem lk_L_53 : mLk "SilenceMinuteLaw" 53 MX8_fault := gd4 33 rfl rfl
theorem lk_X8_94 : mLk "SilenceMinuteModel" 94 MX8_faultOf := gd4 37 rfl rfl
theorem lk_X8_88 : mLk "SilenceMinuteModel" 88 MX8_isLetter := gd4 41 rfl rfl
theorem lk_X8_91 : mLk "SilenceMinuteModel" 91 MX8_isDigit := gd4 44 rfl rfl
theorem lk_L_57 : mLk "SilenceMinuteLaw" 57 MX8_judge := gd4 47 rfl rfl
theorem lk_X8_145 : mLk "SilenceMinuteModel" 145 MX8_goRides := gd4 51 rfl rfl
theorem lk_X8_125 : mLk "SilenceMinuteModel" 125 MX8_asNow := gd4 55 rfl rfl
theorem lk_X8_134 : mLk "SilenceMinuteModel" 134 MX8_pass := gd4 59 rfl rfl
theorem lk_X8_116 : mLk "SilenceMinuteModel" 116 MX8_holder := gd4 63 rfl rfl
theorem lk_X8_113 : mLk "SilenceMinuteModel" 113 MX8_isTunnel := gd4 67 rfl rfl
theorem lk_X8_110 : mLk "SilenceMinuteModel" 110 MX8_has := gd4 71 rfl rfl
theorem lk_X8_137 : mLk "SilenceMinuteModel" 137 MX8_whyNot := gd4 74 rfl rfl
theorem lk_X8_119 : mLk "SilenceMinuteModel" 119 MX8_ridesNow := gd4 78 rfl rfl
theorem lk_X8_122 : mLk "SilenceMinuteModel" 122 MX8_maySpeak := gd4 82 rfl rfl
theorem lk_X8_141 : mLk "SilenceMinuteModel" 141 MX8_cough := gd4 86 rfl rfl
theorem lk_L_61 : mLk "SilenceMinuteLaw" 61 MX8_done := gd4 90 rfl rfl
theorem lk_X8_148 : mLk "SilenceMinuteModel" 148 MX8_barOfRides := gd4 94 rfl rfl
theorem lk_L_65 : mLk "SilenceMinuteLaw" 65 MX8_behind := gd4 98 rfl rfl
theorem lk_L_69 : mLk "SilenceMinuteLaw" 69 MX8_holds := gd4 102 rfl rfl
theorem lk_L_73 : mLk "SilenceMinuteLaw" 73 MX8_hears := gd4 106 rfl rfl
theorem lk_L_77 : mLk "SilenceMinuteLaw" 77 MX8_forecast := gd4 110 rfl rfl
theorem lk_L_81 : mLk "SilenceMinuteLaw" 81 MX8_rests := gd4 114 rfl rfl
theorem lk_X8_151 : mLk "SilenceMinuteModel" 151 MX8_toEnd := gd4 118 rfl rfl
theorem lk_L_85 : mLk "SilenceMinuteLaw" 85 MX8_talks := gd4 122 rfl rfl
theorem lk_L_89 : mLk "SilenceMinuteLaw" 89 MX8_buy := gd4 126 rfl rfl
theorem lk_L_93 : mLk "SilenceMinuteLaw" 93 MX8_seats := gd4 130 rfl rfl
theorem lk_X8_154 : mLk "SilenceMinuteModel" 154 MX8_ridesAtAll := gd4 134 rfl rfl
theorem lk_X8_157 : mLk "SilenceMinuteModel" 157 MX8_rideAtOnce := gd4 138 rfl rfl
theorem lk_L_97 : mLk "SilenceMinuteLaw" 97 MX8_word := gd4 142 rfl rfl
theorem lk_X8_163 : mLk "SilenceMinuteModel" 163 MX8_goWord := gd4 146 rfl rfl
theorem lk_L_101 : mLk "SilenceMinuteLaw" 101 MX8_heard := gd4 150 rfl rfl
theorem lk_L_105 : mLk "SilenceMinuteLaw" 105 MX8_richest := gd4 154 rfl rfl
theorem lk_L_109 : mLk "SilenceMinuteLaw" 109 MX8_seen := gd4 158 rfl rfl
theorem lk_L_113 : mLk "SilenceMinuteLaw" 113 MX8_forget := gd4 162 rfl rfl
theorem lk_L_117 : mLk "SilenceMinuteLaw" 117 MX8_hum := gd4 166 rfl rfl
theorem lk_X8_170 : mLk "SilenceMinuteModel" 170 MX8_humSet := gd4 170 rfl rfl
theorem lk_L_121 : mLk "SilenceMinuteLaw" 121 MX8_watch := gd4 174 rfl rfl
theorem lk_L_125 : mLk "SilenceMinuteLaw" 125 MX8_auction := gd4 179 rfl rfl
theorem lk_L_130 : mLk "SilenceMinuteLaw" 130 MX8_coughs := gd4 183 rfl rfl
theorem lk_L_134 : mLk "SilenceMinuteLaw" 134 MX8_year := gd4 190 rfl rfl
theorem lk_L_138 : mLk "SilenceMinuteLaw" 138 MX8_image := gd4 195 rfl rfl
theorem lk_L_142 : mLk "SilenceMinuteLaw" 142 MX8_restore := gd4 199 rfl rfl
theorem lk_L_146 : mLk "SilenceMinuteLaw" 146 MX8_told := gd4 203 rfl rfl
theorem fl_X5_9 : fLk "SilenceMinute$Train" 9 5 0 := ⟨RX5, TX5, 11, rfl, by decide, rfl, gd1 26 rfl rfl⟩
theorem fl_X7_68 : fLk "SilenceMinute" 68 5 0 := ⟨RX5, TX5, 11, rfl, by decide, rfl, gd1 27 rfl rfl⟩
theorem fl_X5_34 : fLk "SilenceMinute$Train" 34 5 1 := ⟨RX5, TX5, 11, rfl, by decide, rfl, gd1 28 rfl rfl⟩
theorem fl_X7_72 : fLk "SilenceMinute" 72 5 1 := ⟨RX5, TX5, 11, rfl, by decide, rfl, gd1 29 rfl rfl⟩
theorem fl_X5_37 : fLk "SilenceMinute$Train" 37 5 2 := ⟨RX5, TX5, 11, rfl, by decide, rfl, gd1 30 rfl rfl⟩
theorem fl_X7_136 : fLk "SilenceMinute" 136 5 2 := ⟨RX5, TX5, 11, rfl, by decide, rfl, gd1 31 rfl rfl⟩
theorem fl_X5_15 : fLk "SilenceMinute$Train" 15 5 3 := ⟨RX5, TX5, 11, rfl, by decide, rfl, gd1 32 rfl rfl⟩
theorem fl_X7_107 : fLk "SilenceMinute" 107 5 3 := ⟨RX5, TX5, 11, rfl, by decide, rfl, gd1 33 rfl rfl⟩
theorem fl_X5_40 : fLk "SilenceMinute$Train" 40 5 4 := ⟨RX5, TX5, 11, rfl, by decide, rfl, gd1 34 rfl rfl⟩
theorem fl_X7_139 : fLk "SilenceMinute" 139 5 4 := ⟨RX5, TX5, 11, rfl, by decide, rfl, gd1 35 rfl rfl⟩
theorem fl_X5_43 : fLk "SilenceMinute$Train" 43 5 5 := ⟨RX5, TX5, 11, rfl, by decide, rfl, gd1 36 rfl rfl⟩
theorem fl_X7_79 : fLk "SilenceMinute" 79 5 5 := ⟨RX5, TX5, 11, rfl, by decide, rfl, gd1 37 rfl rfl⟩
theorem fl_X5_18 : fLk "SilenceMinute$Train" 18 5 6 := ⟨RX5, TX5, 11, rfl, by decide, rfl, gd1 38 rfl rfl⟩
theorem fl_X7_271 : fLk "SilenceMinute" 271 5 6 := ⟨RX5, TX5, 11, rfl, by decide, rfl, gd1 39 rfl rfl⟩
theorem fl_X5_22 : fLk "SilenceMinute$Train" 22 5 7 := ⟨RX5, TX5, 11, rfl, by decide, rfl, gd1 40 rfl rfl⟩
theorem fl_X7_274 : fLk "SilenceMinute" 274 5 7 := ⟨RX5, TX5, 11, rfl, by decide, rfl, gd1 41 rfl rfl⟩
theorem fl_X5_25 : fLk "SilenceMinute$Train" 25 5 8 := ⟨RX5, TX5, 11, rfl, by decide, rfl, gd1 42 rfl rfl⟩
theorem fl_X7_100 : fLk "SilenceMinute" 100 5 8 := ⟨RX5, TX5, 11, rfl, by decide, rfl, gd1 43 rfl rfl⟩
theorem fl_X5_28 : fLk "SilenceMinute$Train" 28 5 9 := ⟨RX5, TX5, 11, rfl, by decide, rfl, gd1 44 rfl rfl⟩
theorem fl_X7_104 : fLk "SilenceMinute" 104 5 9 := ⟨RX5, TX5, 11, rfl, by decide, rfl, gd1 45 rfl rfl⟩
theorem fl_X5_31 : fLk "SilenceMinute$Train" 31 5 10 := ⟨RX5, TX5, 11, rfl, by decide, rfl, gd1 46 rfl rfl⟩
theorem fl_X7_277 : fLk "SilenceMinute" 277 5 10 := ⟨RX5, TX5, 11, rfl, by decide, rfl, gd1 47 rfl rfl⟩
theorem fl_X1_11 : fLk "SilenceMinute$Pad" 11 1 0 := ⟨RX1, TX1, 2, rfl, by decide, rfl, gd1 78 rfl rfl⟩
theorem fl_X1_15 : fLk "SilenceMinute$Pad" 15 1 1 := ⟨RX1, TX1, 2, rfl, by decide, rfl, gd1 79 rfl rfl⟩
theorem fl_X6_20 : fLk "SilenceMinute$Verdict" 20 1 1 := ⟨RX1, TX1, 2, rfl, by decide, rfl, gd1 80 rfl rfl⟩
theorem fl_X7_113 : fLk "SilenceMinute" 113 1 1 := ⟨RX1, TX1, 2, rfl, by decide, rfl, gd1 81 rfl rfl⟩
theorem fl_X6_9 : fLk "SilenceMinute$Verdict" 9 6 0 := ⟨RX6, TX6, 2, rfl, by decide, rfl, gd1 93 rfl rfl⟩
theorem fl_X7_126 : fLk "SilenceMinute" 126 6 0 := ⟨RX6, TX6, 2, rfl, by decide, rfl, gd1 94 rfl rfl⟩
theorem fl_X6_15 : fLk "SilenceMinute$Verdict" 15 6 1 := ⟨RX6, TX6, 2, rfl, by decide, rfl, gd1 95 rfl rfl⟩
theorem fl_X7_129 : fLk "SilenceMinute" 129 6 1 := ⟨RX6, TX6, 2, rfl, by decide, rfl, gd1 96 rfl rfl⟩
theorem fl_X4_9 : fLk "SilenceMinute$Sights" 9 4 0 := ⟨RX4, TX4, 3, rfl, by decide, rfl, gd1 108 rfl rfl⟩
theorem fl_X4_13 : fLk "SilenceMinute$Sights" 13 4 1 := ⟨RX4, TX4, 3, rfl, by decide, rfl, gd1 109 rfl rfl⟩
theorem fl_X4_16 : fLk "SilenceMinute$Sights" 16 4 2 := ⟨RX4, TX4, 3, rfl, by decide, rfl, gd1 110 rfl rfl⟩
theorem fl_X7_193 : fLk "SilenceMinute" 193 4 2 := ⟨RX4, TX4, 3, rfl, by decide, rfl, gd1 111 rfl rfl⟩
theorem fl_X3_15 : fLk "SilenceMinute$Seating" 15 3 0 := ⟨RX3, TX3, 4, rfl, by decide, rfl, gd1 125 rfl rfl⟩
theorem fl_X7_175 : fLk "SilenceMinute" 175 3 0 := ⟨RX3, TX3, 4, rfl, by decide, rfl, gd1 126 rfl rfl⟩
theorem fl_X3_19 : fLk "SilenceMinute$Seating" 19 3 1 := ⟨RX3, TX3, 4, rfl, by decide, rfl, gd1 127 rfl rfl⟩
theorem fl_X7_178 : fLk "SilenceMinute" 178 3 1 := ⟨RX3, TX3, 4, rfl, by decide, rfl, gd1 128 rfl rfl⟩
theorem fl_X3_28 : fLk "SilenceMinute$Seating" 28 3 2 := ⟨RX3, TX3, 4, rfl, by decide, rfl, gd1 129 rfl rfl⟩
theorem fl_X3_9 : fLk "SilenceMinute$Seating" 9 3 3 := ⟨RX3, TX3, 4, rfl, by decide, rfl, gd1 130 rfl rfl⟩
theorem fl_X2_31 : fLk "SilenceMinute$Sale" 31 2 0 := ⟨RX2, TX2, 3, rfl, by decide, rfl, gd1 146 rfl rfl⟩
theorem fl_X7_209 : fLk "SilenceMinute" 209 2 0 := ⟨RX2, TX2, 3, rfl, by decide, rfl, gd1 147 rfl rfl⟩
theorem fl_X2_35 : fLk "SilenceMinute$Sale" 35 2 1 := ⟨RX2, TX2, 3, rfl, by decide, rfl, gd1 148 rfl rfl⟩
theorem fl_X7_212 : fLk "SilenceMinute" 212 2 1 := ⟨RX2, TX2, 3, rfl, by decide, rfl, gd1 149 rfl rfl⟩
theorem fl_X2_38 : fLk "SilenceMinute$Sale" 38 2 2 := ⟨RX2, TX2, 3, rfl, by decide, rfl, gd1 150 rfl rfl⟩
theorem fl_X0_30 : fLk "SilenceMinute$Image" 30 0 0 := ⟨RX0, TX0, 3, rfl, by decide, rfl, gd1 168 rfl rfl⟩
theorem fl_X0_10 : fLk "SilenceMinute$Image" 10 0 1 := ⟨RX0, TX0, 3, rfl, by decide, rfl, gd1 169 rfl rfl⟩
theorem fl_X0_19 : fLk "SilenceMinute$Image" 19 0 2 := ⟨RX0, TX0, 3, rfl, by decide, rfl, gd1 170 rfl rfl⟩
theorem fl_X7_10 : fLk "SilenceMinute" 10 7 0 := ⟨RX7, TX7, 9, rfl, by decide, rfl, gd1 178 rfl rfl⟩
theorem fl_X7_16 : fLk "SilenceMinute" 16 7 1 := ⟨RX7, TX7, 9, rfl, by decide, rfl, gd1 179 rfl rfl⟩
theorem fl_X7_22 : fLk "SilenceMinute" 22 7 2 := ⟨RX7, TX7, 9, rfl, by decide, rfl, gd1 180 rfl rfl⟩
theorem fl_X7_29 : fLk "SilenceMinute" 29 7 3 := ⟨RX7, TX7, 9, rfl, by decide, rfl, gd1 181 rfl rfl⟩
theorem fl_X7_36 : fLk "SilenceMinute" 36 7 4 := ⟨RX7, TX7, 9, rfl, by decide, rfl, gd1 182 rfl rfl⟩
theorem fl_X7_43 : fLk "SilenceMinute" 43 7 5 := ⟨RX7, TX7, 9, rfl, by decide, rfl, gd1 183 rfl rfl⟩
theorem fl_X7_50 : fLk "SilenceMinute" 50 7 6 := ⟨RX7, TX7, 9, rfl, by decide, rfl, gd1 184 rfl rfl⟩
theorem fl_X7_57 : fLk "SilenceMinute" 57 7 7 := ⟨RX7, TX7, 9, rfl, by decide, rfl, gd1 185 rfl rfl⟩
theorem fl_X7_61 : fLk "SilenceMinute" 61 7 8 := ⟨RX7, TX7, 9, rfl, by decide, rfl, gd1 186 rfl rfl⟩
theorem fl_X8_7 : fLk "SilenceMinuteModel" 7 8 0 := ⟨RX8, TX8, 27, rfl, by decide, rfl, gd3 142 rfl rfl⟩
theorem fl_X8_67 : fLk "SilenceMinuteModel" 67 8 1 := ⟨RX8, TX8, 27, rfl, by decide, rfl, gd3 143 rfl rfl⟩
theorem fl_X8_13 : fLk "SilenceMinuteModel" 13 8 2 := ⟨RX8, TX8, 27, rfl, by decide, rfl, gd3 144 rfl rfl⟩
theorem fl_X8_17 : fLk "SilenceMinuteModel" 17 8 3 := ⟨RX8, TX8, 27, rfl, by decide, rfl, gd3 145 rfl rfl⟩
theorem fl_X8_20 : fLk "SilenceMinuteModel" 20 8 4 := ⟨RX8, TX8, 27, rfl, by decide, rfl, gd3 146 rfl rfl⟩
theorem fl_X8_23 : fLk "SilenceMinuteModel" 23 8 5 := ⟨RX8, TX8, 27, rfl, by decide, rfl, gd3 147 rfl rfl⟩
theorem fl_X8_26 : fLk "SilenceMinuteModel" 26 8 6 := ⟨RX8, TX8, 27, rfl, by decide, rfl, gd3 148 rfl rfl⟩
theorem fl_X8_29 : fLk "SilenceMinuteModel" 29 8 7 := ⟨RX8, TX8, 27, rfl, by decide, rfl, gd3 149 rfl rfl⟩
theorem fl_X8_64 : fLk "SilenceMinuteModel" 64 8 8 := ⟨RX8, TX8, 27, rfl, by decide, rfl, gd3 150 rfl rfl⟩
theorem fl_X8_101 : fLk "SilenceMinuteModel" 101 8 9 := ⟨RX8, TX8, 27, rfl, by decide, rfl, gd3 151 rfl rfl⟩
theorem fl_X8_167 : fLk "SilenceMinuteModel" 167 8 10 := ⟨RX8, TX8, 27, rfl, by decide, rfl, gd3 152 rfl rfl⟩
theorem fl_X8_32 : fLk "SilenceMinuteModel" 32 8 11 := ⟨RX8, TX8, 27, rfl, by decide, rfl, gd3 153 rfl rfl⟩
theorem fl_X8_85 : fLk "SilenceMinuteModel" 85 8 12 := ⟨RX8, TX8, 27, rfl, by decide, rfl, gd3 154 rfl rfl⟩
theorem fl_X8_35 : fLk "SilenceMinuteModel" 35 8 13 := ⟨RX8, TX8, 27, rfl, by decide, rfl, gd3 155 rfl rfl⟩
theorem fl_X8_38 : fLk "SilenceMinuteModel" 38 8 14 := ⟨RX8, TX8, 27, rfl, by decide, rfl, gd3 156 rfl rfl⟩
theorem fl_X8_41 : fLk "SilenceMinuteModel" 41 8 15 := ⟨RX8, TX8, 27, rfl, by decide, rfl, gd3 157 rfl rfl⟩
theorem fl_X8_98 : fLk "SilenceMinuteModel" 98 8 16 := ⟨RX8, TX8, 27, rfl, by decide, rfl, gd3 158 rfl rfl⟩
theorem fl_X8_104 : fLk "SilenceMinuteModel" 104 8 17 := ⟨RX8, TX8, 27, rfl, by decide, rfl, gd3 159 rfl rfl⟩
theorem fl_X8_107 : fLk "SilenceMinuteModel" 107 8 18 := ⟨RX8, TX8, 27, rfl, by decide, rfl, gd3 160 rfl rfl⟩
theorem fl_X8_44 : fLk "SilenceMinuteModel" 44 8 19 := ⟨RX8, TX8, 27, rfl, by decide, rfl, gd3 161 rfl rfl⟩
theorem fl_X8_47 : fLk "SilenceMinuteModel" 47 8 20 := ⟨RX8, TX8, 27, rfl, by decide, rfl, gd3 162 rfl rfl⟩
theorem fl_X8_131 : fLk "SilenceMinuteModel" 131 8 21 := ⟨RX8, TX8, 27, rfl, by decide, rfl, gd3 163 rfl rfl⟩
theorem fl_X8_128 : fLk "SilenceMinuteModel" 128 8 22 := ⟨RX8, TX8, 27, rfl, by decide, rfl, gd3 164 rfl rfl⟩
theorem fl_X8_160 : fLk "SilenceMinuteModel" 160 8 23 := ⟨RX8, TX8, 27, rfl, by decide, rfl, gd3 165 rfl rfl⟩
theorem fl_X8_50 : fLk "SilenceMinuteModel" 50 8 24 := ⟨RX8, TX8, 27, rfl, by decide, rfl, gd3 166 rfl rfl⟩
theorem fl_X8_53 : fLk "SilenceMinuteModel" 53 8 25 := ⟨RX8, TX8, 27, rfl, by decide, rfl, gd3 167 rfl rfl⟩
theorem fl_X8_56 : fLk "SilenceMinuteModel" 56 8 26 := ⟨RX8, TX8, 27, rfl, by decide, rfl, gd3 168 rfl rfl⟩
theorem cu_X0 : ∀ w ∈ u_ws RX0 TX0 3, w ∈ lw_gd := by
  intro w hw
  have h : u_ws RX0 TX0 3 = [206, 208, 210].filterMap (fun i => lw_tbl[i]?) := by decide +kernel
  have hg : (u_ws RX0 TX0 3).all goodWord = true := by decide +kernel
  refine List.mem_filter.mpr ⟨?_, List.all_eq_true.mp hg w hw⟩
  rw [h] at hw
  obtain ⟨i, -, hi⟩ := List.mem_filterMap.mp hw
  exact List.mem_of_getElem? hi
theorem ck_X0 : cOk 0 := ⟨RX0, TX0, 3, tyX0, rfl, cu_X0, tyX0_ok, nmX0, gd1 159 rfl rfl, gd1 8 rfl rfl⟩
theorem cu_X1 : ∀ w ∈ u_ws RX1 TX1 2, w ∈ lw_gd := by
  intro w hw
  have h : u_ws RX1 TX1 2 = [117, 119].filterMap (fun i => lw_tbl[i]?) := by decide +kernel
  have hg : (u_ws RX1 TX1 2).all goodWord = true := by decide +kernel
  refine List.mem_filter.mpr ⟨?_, List.all_eq_true.mp hg w hw⟩
  rw [h] at hw
  obtain ⟨i, -, hi⟩ := List.mem_filterMap.mp hw
  exact List.mem_of_getElem? hi
theorem ck_X1 : cOk 1 := ⟨RX1, TX1, 2, tyX1, rfl, cu_X1, tyX1_ok, nmX1, gd1 73 rfl rfl, gd1 3 rfl rfl⟩
theorem cu_X2 : ∀ w ∈ u_ws RX2 TX2 3, w ∈ lw_gd := by
  intro w hw
  have h : u_ws RX2 TX2 3 = [186, 188, 190].filterMap (fun i => lw_tbl[i]?) := by decide +kernel
  have hg : (u_ws RX2 TX2 3).all goodWord = true := by decide +kernel
  refine List.mem_filter.mpr ⟨?_, List.all_eq_true.mp hg w hw⟩
  rw [h] at hw
  obtain ⟨i, -, hi⟩ := List.mem_filterMap.mp hw
  exact List.mem_of_getElem? hi
theorem ck_X2 : cOk 2 := ⟨RX2, TX2, 3, tyX2, rfl, cu_X2, tyX2_ok, nmX2, gd1 141 rfl rfl, gd1 7 rfl rfl⟩
theorem cu_X3 : ∀ w ∈ u_ws RX3 TX3 4, w ∈ lw_gd := by
  intro w hw
  have h : u_ws RX3 TX3 4 = [166, 168, 170, 172].filterMap (fun i => lw_tbl[i]?) := by decide +kernel
  have hg : (u_ws RX3 TX3 4).all goodWord = true := by decide +kernel
  refine List.mem_filter.mpr ⟨?_, List.all_eq_true.mp hg w hw⟩
  rw [h] at hw
  obtain ⟨i, -, hi⟩ := List.mem_filterMap.mp hw
  exact List.mem_of_getElem? hi
theorem ck_X3 : cOk 3 := ⟨RX3, TX3, 4, tyX3, rfl, cu_X3, tyX3_ok, nmX3, gd1 120 rfl rfl, gd1 6 rfl rfl⟩
theorem cu_X4 : ∀ w ∈ u_ws RX4 TX4 3, w ∈ lw_gd := by
  intro w hw
  have h : u_ws RX4 TX4 3 = [147, 149, 151].filterMap (fun i => lw_tbl[i]?) := by decide +kernel
  have hg : (u_ws RX4 TX4 3).all goodWord = true := by decide +kernel
  refine List.mem_filter.mpr ⟨?_, List.all_eq_true.mp hg w hw⟩
  rw [h] at hw
  obtain ⟨i, -, hi⟩ := List.mem_filterMap.mp hw
  exact List.mem_of_getElem? hi
theorem ck_X4 : cOk 4 := ⟨RX4, TX4, 3, tyX4, rfl, cu_X4, tyX4_ok, nmX4, gd1 103 rfl rfl, gd1 5 rfl rfl⟩
theorem cu_X5 : ∀ w ∈ u_ws RX5 TX5 11, w ∈ lw_gd := by
  intro w hw
  have h : u_ws RX5 TX5 11 = [83, 85, 87, 89, 91, 93, 95, 97, 99, 101, 103].filterMap (fun i => lw_tbl[i]?) := by decide +kernel
  have hg : (u_ws RX5 TX5 11).all goodWord = true := by decide +kernel
  refine List.mem_filter.mpr ⟨?_, List.all_eq_true.mp hg w hw⟩
  rw [h] at hw
  obtain ⟨i, -, hi⟩ := List.mem_filterMap.mp hw
  exact List.mem_of_getElem? hi
theorem ck_X5 : cOk 5 := ⟨RX5, TX5, 11, tyX5, rfl, cu_X5, tyX5_ok, nmX5, gd1 21 rfl rfl, gd1 2 rfl rfl⟩
theorem cu_X6 : ∀ w ∈ u_ws RX6 TX6 2, w ∈ lw_gd := by
  intro w hw
  have h : u_ws RX6 TX6 2 = [132, 134].filterMap (fun i => lw_tbl[i]?) := by decide +kernel
  have hg : (u_ws RX6 TX6 2).all goodWord = true := by decide +kernel
  refine List.mem_filter.mpr ⟨?_, List.all_eq_true.mp hg w hw⟩
  rw [h] at hw
  obtain ⟨i, -, hi⟩ := List.mem_filterMap.mp hw
  exact List.mem_of_getElem? hi
theorem ck_X6 : cOk 6 := ⟨RX6, TX6, 2, tyX6, rfl, cu_X6, tyX6_ok, nmX6, gd1 88 rfl rfl, gd1 4 rfl rfl⟩
theorem cu_X7 : ∀ w ∈ u_ws RX7 TX7 9, w ∈ lw_gd := by
  intro w hw
  have h : u_ws RX7 TX7 9 = [222, 224, 226, 228, 230, 232, 234, 236, 238].filterMap (fun i => lw_tbl[i]?) := by decide +kernel
  have hg : (u_ws RX7 TX7 9).all goodWord = true := by decide +kernel
  refine List.mem_filter.mpr ⟨?_, List.all_eq_true.mp hg w hw⟩
  rw [h] at hw
  obtain ⟨i, -, hi⟩ := List.mem_filterMap.mp hw
  exact List.mem_of_getElem? hi
theorem ck_X7 : cOk 7 := ⟨RX7, TX7, 9, tyX7, rfl, cu_X7, tyX7_ok, nmX7, gd1 13 rfl rfl, gd1 1 rfl rfl⟩
theorem cu_X8 : ∀ w ∈ u_ws RX8 TX8 27, w ∈ lw_gd := by
  intro w hw
  have h : u_ws RX8 TX8 27 = [684, 686, 688, 690, 692, 694, 696, 698, 700, 702, 704, 706, 708, 710, 712, 714, 716, 718, 720, 722, 724, 726, 728, 730, 732, 734, 736].filterMap (fun i => lw_tbl[i]?) := by decide +kernel
  have hg : (u_ws RX8 TX8 27).all goodWord = true := by decide +kernel
  refine List.mem_filter.mpr ⟨?_, List.all_eq_true.mp hg w hw⟩
  rw [h] at hw
  obtain ⟨i, -, hi⟩ := List.mem_filterMap.mp hw
  exact List.mem_of_getElem? hi
theorem ck_X8 : cOk 8 := ⟨RX8, TX8, 27, tyX8, rfl, cu_X8, tyX8_ok, nmX8, gd3 137 rfl rfl, gd1 9 rfl rfl⟩
theorem kc_J6_265 : Cond.constant "java/lang/Integer" 265 (1431655765) ∈ lw_gd := gd3 49 rfl rfl
theorem kc_J6_266 : Cond.constant "java/lang/Integer" 266 (858993459) ∈ lw_gd := gd3 50 rfl rfl
theorem kc_J6_267 : Cond.constant "java/lang/Integer" 267 (252645135) ∈ lw_gd := gd3 51 rfl rfl
theorem kl_X7_215 : Cond.constantLong "SilenceMinute" 215 (-1000000000000000001) ∈ lw_gd := gd3 82 rfl rfl
theorem kl_X7_217 : Cond.constantLong "SilenceMinute" 217 (-1000000000000000002) ∈ lw_gd := gd3 83 rfl rfl
theorem kc_X7_225 : Cond.constant "SilenceMinute" 225 (65537) ∈ lw_gd := gd3 95 rfl rfl
theorem kc_X8_173 : Cond.constant "SilenceMinuteModel" 173 (1000000) ∈ lw_gd := gd4 178 rfl rfl
theorem kl_X8_174 : Cond.constantLong "SilenceMinuteModel" 174 (-1000000000000000001) ∈ lw_gd := gd4 187 rfl rfl
theorem kl_X8_176 : Cond.constantLong "SilenceMinuteModel" 176 (-1000000000000000002) ∈ lw_gd := gd4 188 rfl rfl
theorem kl_X8_178 : Cond.constantLong "SilenceMinuteModel" 178 (10) ∈ lw_gd := gd4 189 rfl rfl
theorem kc_X8_180 : Cond.constant "SilenceMinuteModel" 180 (65537) ∈ lw_gd := gd4 194 rfl rfl
end
section
abbrev St : Type := Nat → Nat → Int32
abbrev Sh : Type := (Nat × List (Option Nat)) ⊕ (Nat × Bool)
/-- the world: objects (class, fields: a place, or an int), arrays (length, of booleans?) -/
def shL : List Sh := [.inl (7, [some 1, some 7, some 13, some 15, some 16, some 19, some 21, some 22, some 32]), .inl (5, [none, none, none, none, none, none, some 2, some 3, some 4, some 5, some 6]), .inr (6, false), .inr (6, false), .inr (6, false), .inr (6, false), .inr (6, false), .inl (5, [none, none, none, none, none, none, some 8, some 9, some 10, some 11, some 12]), .inr (6, false), .inr (6, false), .inr (6, false), .inr (6, false), .inr (6, false), .inl (1, [some 14, none]), .inr (60, false), .inl (6, [none, none]), .inl (4, [some 17, some 18, none]), .inr (8, false), .inr (8, false), .inl (3, [none, none, none, some 20]), .inr (6, false), .inl (2, [none, none, none]), .inl (0, [none, some 23, some 29]), .inl (5, [none, none, none, none, none, none, some 24, some 25, some 26, some 27, some 28]), .inr (6, false), .inr (6, false), .inr (6, false), .inr (6, false), .inr (6, false), .inl (4, [some 30, some 31, none]), .inr (8, false), .inr (8, false), .inl (0, [none, some 33, some 39]), .inl (5, [none, none, none, none, none, none, some 34, some 35, some 36, some 37, some 38]), .inr (6, false), .inr (6, false), .inr (6, false), .inr (6, false), .inr (6, false), .inl (4, [some 40, some 41, none]), .inr (8, false), .inr (8, false), .inl (8, [none, none, some 43, some 44, some 45, some 46, some 47, none, none, none, none, some 48, none, some 49, some 50, some 51, none, none, none, some 52, some 53, none, none, none, some 54, some 55, some 56]), .inr (6, false), .inr (6, false), .inr (6, false), .inr (6, false), .inr (6, false), .inr (16, false), .inr (60, false), .inr (6, false), .inr (6, false), .inr (6, false), .inr (3, false), .inr (21, false), .inr (140, false), .inr (2, true)]
def sh (p : Nat) : Sh := shL.getD p (.inr (0, false))
theorem sh_0 : sh 0 = .inl (7, [some 1, some 7, some 13, some 15, some 16, some 19, some 21, some 22, some 32]) := rfl
theorem sh_1 : sh 1 = .inl (5, [none, none, none, none, none, none, some 2, some 3, some 4, some 5, some 6]) := rfl
theorem sh_2 : sh 2 = .inr (6, false) := rfl
theorem sh_3 : sh 3 = .inr (6, false) := rfl
theorem sh_4 : sh 4 = .inr (6, false) := rfl
theorem sh_5 : sh 5 = .inr (6, false) := rfl
theorem sh_6 : sh 6 = .inr (6, false) := rfl
theorem sh_7 : sh 7 = .inl (5, [none, none, none, none, none, none, some 8, some 9, some 10, some 11, some 12]) := rfl
theorem sh_8 : sh 8 = .inr (6, false) := rfl
theorem sh_9 : sh 9 = .inr (6, false) := rfl
theorem sh_10 : sh 10 = .inr (6, false) := rfl
theorem sh_11 : sh 11 = .inr (6, false) := rfl
theorem sh_12 : sh 12 = .inr (6, false) := rfl
theorem sh_13 : sh 13 = .inl (1, [some 14, none]) := rfl
theorem sh_14 : sh 14 = .inr (60, false) := rfl
theorem sh_15 : sh 15 = .inl (6, [none, none]) := rfl
theorem sh_16 : sh 16 = .inl (4, [some 17, some 18, none]) := rfl
theorem sh_17 : sh 17 = .inr (8, false) := rfl
theorem sh_18 : sh 18 = .inr (8, false) := rfl
theorem sh_19 : sh 19 = .inl (3, [none, none, none, some 20]) := rfl
theorem sh_20 : sh 20 = .inr (6, false) := rfl
theorem sh_21 : sh 21 = .inl (2, [none, none, none]) := rfl
theorem sh_22 : sh 22 = .inl (0, [none, some 23, some 29]) := rfl
theorem sh_23 : sh 23 = .inl (5, [none, none, none, none, none, none, some 24, some 25, some 26, some 27, some 28]) := rfl
theorem sh_24 : sh 24 = .inr (6, false) := rfl
theorem sh_25 : sh 25 = .inr (6, false) := rfl
theorem sh_26 : sh 26 = .inr (6, false) := rfl
theorem sh_27 : sh 27 = .inr (6, false) := rfl
theorem sh_28 : sh 28 = .inr (6, false) := rfl
theorem sh_29 : sh 29 = .inl (4, [some 30, some 31, none]) := rfl
theorem sh_30 : sh 30 = .inr (8, false) := rfl
theorem sh_31 : sh 31 = .inr (8, false) := rfl
theorem sh_32 : sh 32 = .inl (0, [none, some 33, some 39]) := rfl
theorem sh_33 : sh 33 = .inl (5, [none, none, none, none, none, none, some 34, some 35, some 36, some 37, some 38]) := rfl
theorem sh_34 : sh 34 = .inr (6, false) := rfl
theorem sh_35 : sh 35 = .inr (6, false) := rfl
theorem sh_36 : sh 36 = .inr (6, false) := rfl
theorem sh_37 : sh 37 = .inr (6, false) := rfl
theorem sh_38 : sh 38 = .inr (6, false) := rfl
theorem sh_39 : sh 39 = .inl (4, [some 40, some 41, none]) := rfl
theorem sh_40 : sh 40 = .inr (8, false) := rfl
theorem sh_41 : sh 41 = .inr (8, false) := rfl
theorem sh_42 : sh 42 = .inl (8, [none, none, some 43, some 44, some 45, some 46, some 47, none, none, none, none, some 48, none, some 49, some 50, some 51, none, none, none, some 52, some 53, none, none, none, some 54, some 55, some 56]) := rfl
theorem sh_43 : sh 43 = .inr (6, false) := rfl
theorem sh_44 : sh 44 = .inr (6, false) := rfl
theorem sh_45 : sh 45 = .inr (6, false) := rfl
theorem sh_46 : sh 46 = .inr (6, false) := rfl
theorem sh_47 : sh 47 = .inr (6, false) := rfl
theorem sh_48 : sh 48 = .inr (16, false) := rfl
theorem sh_49 : sh 49 = .inr (60, false) := rfl
theorem sh_50 : sh 50 = .inr (6, false) := rfl
theorem sh_51 : sh 51 = .inr (6, false) := rfl
theorem sh_52 : sh 52 = .inr (6, false) := rfl
theorem sh_53 : sh 53 = .inr (3, false) := rfl
theorem sh_54 : sh 54 = .inr (21, false) := rfl
theorem sh_55 : sh 55 = .inr (140, false) := rfl
theorem sh_56 : sh 56 = .inr (2, true) := rfl
theorem sh_lt {p : Nat} (h : sh p ≠ .inr (0, false)) : p < 57 := by
  rcases Nat.lt_or_ge p 57 with q | q
  · exact q
  · exact absurd (by unfold sh; rw [List.getD_eq_getElem?_getD, List.getElem?_eq_none (show shL.length ≤ p from q)]; rfl) h
def ups (σ : St) (p i : Nat) (x : Int32) : St := fun q j => if q = p then (if j = i then x else σ q j) else σ q j
theorem ups_at (σ : St) (p i : Nat) (x : Int32) : ups σ p i x p = upd (σ p) i x := by funext j; simp [ups, upd]
theorem ups_ne (σ : St) {p q : Nat} (i : Nat) (x : Int32) (h : q ≠ p) : ups σ p i x q = σ q := by funext j; simp [ups, h]
def cv (ad : Nat → Nat) : Value → Value
  | .ref p => .ref (ad p)
  | v => v
theorem cv_cat (ad : Nat → Nat) (v : Value) : (cv ad v).category = v.category := by cases v <;> rfl
def fv (ad : Nat → Nat) (f : Nat → Int32) : List (Option Nat) → Nat → List Value
  | [], _ => []
  | none :: r, i => .int (f i) :: fv ad f r (i + 1)
  | some q :: r, i => .ref (ad q) :: fv ad f r (i + 1)
theorem fv_at (ad : Nat → Nat) (f : Nat → Int32) : ∀ (ks : List (Option Nat)) (i j : Nat), (fv ad f ks i)[j]? = (ks[j]?).map (fun o => match o with | none => Value.int (f (i + j)) | some q => .ref (ad q))
  | [], i, j => by simp [fv]
  | none :: r, i, 0 => by simp [fv]
  | some q :: r, i, 0 => by simp [fv]
  | none :: r, i, j + 1 => by simp [fv, fv_at ad f r (i + 1) j, Nat.add_assoc, Nat.add_comm 1 j]
  | some q :: r, i, j + 1 => by simp [fv, fv_at ad f r (i + 1) j, Nat.add_assoc, Nat.add_comm 1 j]
theorem fv_len (ad : Nat → Nat) (f : Nat → Int32) : ∀ (ks : List (Option Nat)) (i : Nat), (fv ad f ks i).length = ks.length
  | [], i => rfl
  | none :: r, i => by simp [fv, fv_len ad f r (i + 1)]
  | some q :: r, i => by simp [fv, fv_len ad f r (i + 1)]
theorem fv_set (ad : Nat → Nat) (f : Nat → Int32) (ks : List (Option Nat)) (j : Nat) (x : Int32) (h : ks[j]? = some none) : (fv ad f ks 0).set j (.int x) = fv ad (upd f j x) ks 0 := by
  apply List.ext_getElem?
  intro n
  rw [List.getElem?_set, fv_at, fv_at]
  by_cases hn : j = n
  · subst hn
    have hl : j < ks.length := (List.getElem?_eq_some_iff.mp h).1
    have h2 : ks[j] = none := (List.getElem?_eq_some_iff.mp h).2
    simp [fv_len, hl, h2, upd]
  · rw [if_neg hn]
    cases hk : ks[n]? with
    | none => rfl
    | some o => cases o with
      | none => simp [upd, Ne.symm hn]
      | some q => rfl
def ent (ad : Nat → Nat) (cA : Nat → ClassId) (σ : St) (p : Nat) : va_E := match sh p with
  | .inl (ci, ks) => .inr (ci, fv ad (σ p) ks 0)
  | .inr (n, _) => .inl (cA p, n, .inl (σ p))
def wl (ad : Nat → Nat) (cA : Nat → ClassId) (σ : St) : va_W := (List.range 57).map (fun p => (ad p, ent ad cA σ p))
def tyl (cA : Nat → ClassId) : List (ClassId × FieldType) := (List.range 57).map (fun p => (cA p, match sh p with | .inr (_, true) => .boolean | _ => .int))
theorem wl_at {ad : Nat → Nat} {cA : Nat → ClassId} {σ : St} {p : Nat} (h : p < 57) : (wl ad cA σ)[p]? = some (ad p, ent ad cA σ p) := by
  simp [wl, h]
theorem wl_len (ad : Nat → Nat) (cA : Nat → ClassId) (σ : St) : (wl ad cA σ).length = 57 := by simp [wl]
theorem wl_obj {ad : Nat → Nat} {cA : Nat → ClassId} {σ : St} {p ci : Nat} {ks : List (Option Nat)} (h : sh p = .inl (ci, ks)) : (wl ad cA σ)[p]? = some (ad p, .inr (ci, fv ad (σ p) ks 0)) := by
  rw [wl_at (sh_lt (by rw [h]; simp))]; simp only [ent, h]
theorem wl_arr {ad : Nat → Nat} {cA : Nat → ClassId} {σ : St} {p n : Nat} {b : Bool} (h : sh p = .inr (n, b)) (hn : 0 < n) : (wl ad cA σ)[p]? = some (ad p, .inl (cA p, n, .inl (σ p))) := by
  rw [wl_at (sh_lt (by rw [h]; intro e; cases e; omega))]; simp only [ent, h]
theorem ty_arr {cA : Nat → ClassId} {p n : Nat} (h : sh p = .inr (n, false)) (hn : 0 < n) : (tyl cA)[p]? = some (cA p, .int) := by
  have hp : p < 57 := sh_lt (by rw [h]; intro e; cases e; omega)
  simp [tyl, hp, h]
theorem ty_arrZ {cA : Nat → ClassId} {p n : Nat} (h : sh p = .inr (n, true)) : (tyl cA)[p]? = some (cA p, .boolean) := by
  have hp : p < 57 := sh_lt (by rw [h]; intro e; cases e)
  simp [tyl, hp, h]
theorem wl_set {ad : Nat → Nat} {cA : Nat → ClassId} {σ : St} {p i : Nat} {x : Int32} {e : va_E} (he : ent ad cA (ups σ p i x) p = e) : (wl ad cA σ).set p (ad p, e) = wl ad cA (ups σ p i x) := by
  apply List.ext_getElem?
  intro n
  rw [List.getElem?_set, wl_len]
  by_cases hn : p = n
  · subst hn
    by_cases hp : p < 57
    · rw [if_pos rfl, if_pos hp, wl_at hp, he]
    · rw [if_pos rfl, if_neg hp, List.getElem?_eq_none (by rw [wl_len]; omega)]
  · rw [if_neg hn]
    by_cases hq : n < 57
    · rw [wl_at hq, wl_at hq]
      simp only [ent, ups_ne σ i x (Ne.symm hn)]
    · rw [List.getElem?_eq_none (by rw [wl_len]; omega), List.getElem?_eq_none (by rw [wl_len]; omega)]
theorem wl_putO {ad : Nat → Nat} {cA : Nat → ClassId} {σ : St} {p ci j : Nat} {ks : List (Option Nat)} {x : Int32} (h : sh p = .inl (ci, ks)) (hj : ks[j]? = some none) : (wl ad cA σ).set p (ad p, .inr (ci, (fv ad (σ p) ks 0).set j (.int x))) = wl ad cA (ups σ p j x) := by
  refine wl_set ?_
  simp only [ent, h, ups_at, fv_set ad (σ p) ks j x hj]
theorem wl_putA {ad : Nat → Nat} {cA : Nat → ClassId} {σ : St} {p n i : Nat} {b : Bool} {x : Int32} (h : sh p = .inr (n, b)) : (wl ad cA σ).set p (ad p, .inl (cA p, n, .inl (upd (σ p) i x))) = wl ad cA (ups σ p i x) := by
  refine wl_set ?_
  simp only [ent, h, ups_at]
/-! locals -/
def lvl (ad : Nat → Nat) : Nat → List (Option Value) → List (Nat × Value)
  | _, [] => []
  | i, none :: r => lvl ad (i + 1) r
  | i, some v :: r => (i, cv ad v) :: lvl ad (i + 1) r
theorem lvl_mem {ad : Nat → Nat} : ∀ {ls : List (Option Value)} {i : Nat} {q : Nat × Value}, q ∈ lvl ad i ls → ∃ (k : Nat) (v : Value), ls[k]? = some (some v) ∧ q = (i + k, cv ad v)
  | [], i, q, h => by simp [lvl] at h
  | none :: r, i, q, h => by
    obtain ⟨k, v, h1, h2⟩ := lvl_mem (ls := r) (i := i + 1) h
    exact ⟨k + 1, v, by simpa using h1, by rw [h2]; congr 1; omega⟩
  | some w :: r, i, q, h => by
    rcases List.mem_cons.mp h with h | h
    · exact ⟨0, w, by simp, by rw [h]; rfl⟩
    · obtain ⟨k, v, h1, h2⟩ := lvl_mem (ls := r) (i := i + 1) h
      exact ⟨k + 1, v, by simpa using h1, by rw [h2]; congr 1; omega⟩
theorem lvl_in {ad : Nat → Nat} : ∀ {ls : List (Option Value)} {i k : Nat} {v : Value}, ls[k]? = some (some v) → (i + k, cv ad v) ∈ lvl ad i ls
  | [], i, k, v, h => by simp at h
  | none :: r, i, 0, v, h => by simp at h
  | none :: r, i, k + 1, v, h => by
    have := lvl_in (ad := ad) (ls := r) (i := i + 1) (k := k) (v := v) (by simpa using h)
    rw [show i + (k + 1) = i + 1 + k by omega]
    exact this
  | some w :: r, i, 0, v, h => by
    simp at h
    subst h
    exact List.mem_cons_self
  | some w :: r, i, k + 1, v, h => by
    have := lvl_in (ad := ad) (ls := r) (i := i + 1) (k := k) (v := v) (by simpa using h)
    rw [show i + (k + 1) = i + 1 + k by omega]
    exact List.mem_cons_of_mem _ this
theorem lv_mono {ls : Array Slot} {n : Nat} {l l' : List (Nat × Value)} (h : lv_has ls n l) (hl : ∀ q ∈ l', q ∈ l) : lv_has ls n l' := ⟨h.1, h.2.1, fun q hq => h.2.2 q (hl q hq)⟩
def nlg : Option Value → Bool
  | some (.long _) => false
  | some (.double _) => false
  | _ => true
theorem nlg_cat {v : Value} (h : nlg (some v) = true) : ¬ v.category = 2 := by cases v <;> simp [nlg, Value.category] at h ⊢
/-- the value ahead of place i is no long -/
def nlp (ls : List (Option Value)) (i : Nat) : Bool := match i with
  | 0 => true
  | j + 1 => nlg ((ls[j]?).getD none)
theorem st_mem {ad : Nat → Nat} {ls : List (Option Value)} {i : Nat} {v : Value} (hi : i < ls.length) (hp : nlp ls i = true) : ∀ q ∈ lvl ad 0 (ls.set i (some v)), q ∈ (i, cv ad v) :: (lvl ad 0 ls).filter (fun q => !(q.1 == i) && !(q.1 + 1 == i && q.2.category == 2)) := by
  intro q hq
  obtain ⟨k, w, h1, h2⟩ := lvl_mem hq
  rw [Nat.zero_add] at h2
  by_cases hk : k = i
  · subst hk
    rw [List.getElem?_set_self hi] at h1
    cases h1
    rw [h2]
    exact List.mem_cons_self
  · rw [List.getElem?_set_ne (Ne.symm hk)] at h1
    refine List.mem_cons_of_mem _ (List.mem_filter.mpr ⟨?_, ?_⟩)
    · rw [h2]
      have := lvl_in (ad := ad) (i := 0) h1
      rwa [Nat.zero_add] at this
    · rw [h2]
      simp only [Bool.and_eq_true, Bool.not_eq_true', beq_eq_false_iff_ne, ne_eq, hk, not_false_eq_true, true_and]
      rw [Bool.eq_false_iff]
      intro hc
      simp only [Bool.and_eq_true, beq_iff_eq] at hc
      obtain ⟨c1, c2⟩ := hc
      subst c1
      rw [cv_cat] at c2
      have hp2 : nlg ((ls[k]?).getD none) = true := hp
      rw [h1] at hp2
      exact nlg_cat hp2 c2
theorem st_mem2 {ad : Nat → Nat} {ls : List (Option Value)} {i : Nat} {v : Value} (hi : i + 1 < ls.length) (hp : nlp ls i = true) : ∀ q ∈ lvl ad 0 ((ls.set i (some v)).set (i + 1) none), q ∈ (i, cv ad v) :: (lvl ad 0 ls).filter (fun q => !(q.1 == i) && (!(q.1 == i + 1) && !(q.1 + 1 == i && q.2.category == 2))) := by
  intro q hq
  obtain ⟨k, w, h1, h2⟩ := lvl_mem hq
  rw [Nat.zero_add] at h2
  by_cases hk1 : k = i + 1
  · subst hk1
    rw [List.getElem?_set_self (by simpa using hi)] at h1
    cases h1
  · rw [List.getElem?_set_ne (Ne.symm hk1)] at h1
    by_cases hk : k = i
    · subst hk
      rw [List.getElem?_set_self (by omega)] at h1
      cases h1
      rw [h2]
      exact List.mem_cons_self
    · rw [List.getElem?_set_ne (Ne.symm hk)] at h1
      refine List.mem_cons_of_mem _ (List.mem_filter.mpr ⟨?_, ?_⟩)
      · rw [h2]
        have := lvl_in (ad := ad) (i := 0) h1
        rwa [Nat.zero_add] at this
      · rw [h2]
        simp only [Bool.and_eq_true, Bool.not_eq_true', beq_eq_false_iff_ne, ne_eq, hk, hk1, not_false_eq_true, true_and]
        rw [Bool.eq_false_iff]
        intro hc
        simp only [Bool.and_eq_true, beq_iff_eq] at hc
        obtain ⟨c1, c2⟩ := hc
        subst c1
        rw [cv_cat] at c2
        have hp2 : nlg ((ls[k]?).getD none) = true := hp
        rw [h1] at hp2
        exact nlg_cat hp2 c2
/-! the judgement -/
abbrev Gt : Type := (Program × Launch × Env × Room × State × MethodId × Array Value × List Frame × Method × Code) × va_G × (Nat → Nat) × (Nat → ClassId) × (Nat → Prop) × (Nat × Nat) × (State → Prop)
def Nst (U : State) : Prop := ∀ w ∈ nst, va_Nw w U
def CX (g : Gt) (M : Mt) : Prop := match g with
  | ((p, l, e, R, s, m, args, below, meth, c), D, ad, cA, A, (kc, ks), Q) => p.tables.exec = Jvm.exec ∧ c.code = mC M ∧ c.maxLocals = mL M ∧ s.vm.findClass (mY M).cls = some m.cls ∧ (∀ w ∈ lw_gd, w.before args s = true) ∧ Nst s ∧ va_K D cls (tyl cA) s ∧ (∀ q, s.heap.size ≤ q → A q) ∧ (mF M ≤ R.frames ∧ mO M ≤ R.locals) ∧ (kc ≤ R.cells ∧ ks ≤ R.slots)
def ZW (g : Gt) (pc : Nat) (ls : List (Option Value)) (st : List Value) (σ : St) : Prop := match g with
  | ((p, l, e, R, s, m, args, below, meth, c), D, ad, cA, A, (kc, ks), Q) => ∀ (H : Heap) (locs : List Loc) (lsa : Array Slot), va_P D cls (wl ad cA σ) H → va_D A (wl ad cA σ) → va_S A s.heap H locs → ls.length = c.maxLocals → lv_has lsa c.maxLocals (lvl ad 0 ls) → W p l e R s m args below meth c H locs kc ks Q (F0 m pc lsa (st.map (cv ad)))
/-- a row of the code: what stands at pc, how long it is, where the next one is -/
def Dc (M : Mt) (pc pc1 : Nat) (i : Instr) (len : Nat) : Prop := decode (mC M) pc = .ok (i, len) ∧ pc + len = pc1
theorem lvl_at {ad : Nat → Nat} {ls : List (Option Value)} {lsa : Array Slot} {n i : Nat} {v : Value} (h : lv_has lsa n (lvl ad 0 ls)) (hi : ls[i]? = some (some v)) : lsa[i]? = some (.val (cv ad v)) := by
  have h1 := lvl_in (ad := ad) (i := 0) hi
  rw [Nat.zero_add] at h1
  exact h.2.2 _ h1
section ZR
variable {g : Gt} {M : Mt} {pc pc1 i : Nat} {ls : List (Option Value)} {st : List Value} {σ : St}
theorem zw_iloadn {x : Int32} (X : CX g M) {q : Fin 4} (hq : (q : Nat) = i) (d : Dc M pc pc1 (.iload_n q) 1) (hl : ls[i]? = some (some (.int x))) (k : ZW g pc1 ls (.int x :: st) σ) : ZW g pc ls st σ := by
  obtain ⟨⟨p, l, e, R, s, m, args, below, meth, c⟩, D, ad, cA, A, ⟨kc, ks⟩, Q⟩ := g
  obtain ⟨hx, hb, -⟩ := X
  obtain ⟨d1, rfl⟩ := d
  intro H locs lsa hP hD hS hn hh
  exact lv_iload_n hx hb d1 hq (lvl_at hh hl) (k H locs lsa hP hD hS hn hh)
theorem zw_iload {x : Int32} (X : CX g M) (d : Dc M pc pc1 (.iload i) 2) (hl : ls[i]? = some (some (.int x))) (k : ZW g pc1 ls (.int x :: st) σ) : ZW g pc ls st σ := by
  obtain ⟨⟨p, l, e, R, s, m, args, below, meth, c⟩, D, ad, cA, A, ⟨kc, ks⟩, Q⟩ := g
  obtain ⟨hx, hb, -⟩ := X
  obtain ⟨d1, rfl⟩ := d
  intro H locs lsa hP hD hS hn hh
  exact lv_iload hx hb d1 (lvl_at hh hl) (k H locs lsa hP hD hS hn hh)
theorem zw_lloadn {x : Int64} (X : CX g M) {q : Fin 4} (hq : (q : Nat) = i) (d : Dc M pc pc1 (.lload_n q) 1) (hl : ls[i]? = some (some (.long x))) (k : ZW g pc1 ls (.long x :: st) σ) : ZW g pc ls st σ := by
  obtain ⟨⟨p, l, e, R, s, m, args, below, meth, c⟩, D, ad, cA, A, ⟨kc, ks⟩, Q⟩ := g
  obtain ⟨hx, hb, -⟩ := X
  obtain ⟨d1, rfl⟩ := d
  intro H locs lsa hP hD hS hn hh
  exact lv_lload_n hx hb d1 hq (lvl_at hh hl) (k H locs lsa hP hD hS hn hh)
theorem zw_lload {x : Int64} (X : CX g M) (d : Dc M pc pc1 (.lload i) 2) (hl : ls[i]? = some (some (.long x))) (k : ZW g pc1 ls (.long x :: st) σ) : ZW g pc ls st σ := by
  obtain ⟨⟨p, l, e, R, s, m, args, below, meth, c⟩, D, ad, cA, A, ⟨kc, ks⟩, Q⟩ := g
  obtain ⟨hx, hb, -⟩ := X
  obtain ⟨d1, rfl⟩ := d
  intro H locs lsa hP hD hS hn hh
  exact lv_lload hx hb d1 (lvl_at hh hl) (k H locs lsa hP hD hS hn hh)
theorem zw_aloadn {x : Nat} (X : CX g M) {q : Fin 4} (hq : (q : Nat) = i) (d : Dc M pc pc1 (.aload_n q) 1) (hl : ls[i]? = some (some (.ref x))) (k : ZW g pc1 ls (.ref x :: st) σ) : ZW g pc ls st σ := by
  obtain ⟨⟨p, l, e, R, s, m, args, below, meth, c⟩, D, ad, cA, A, ⟨kc, ks⟩, Q⟩ := g
  obtain ⟨hx, hb, -⟩ := X
  obtain ⟨d1, rfl⟩ := d
  intro H locs lsa hP hD hS hn hh
  exact lv_aload_n hx hb d1 hq (lvl_at hh hl) (k H locs lsa hP hD hS hn hh)
theorem zw_istoren {x : Int32} (X : CX g M) {q : Fin 4} (hq : (q : Nat) = i) (d : Dc M pc pc1 (.istore_n q) 1) (hi : i < ls.length) (hp : nlp ls i = true) (k : ZW g pc1 (ls.set i (some (.int x))) st σ) : ZW g pc ls (.int x :: st) σ := by
  obtain ⟨⟨p, l, e, R, s, m, args, below, meth, c⟩, D, ad, cA, A, ⟨kc, ks⟩, Q⟩ := g
  obtain ⟨hx, hb, -⟩ := X
  obtain ⟨d1, rfl⟩ := d
  intro H locs lsa hP hD hS hn hh
  exact lv_istore_n hx hb d1 hq hh (by rw [← hn]; exact hi) rfl (fun ls' h' => k H locs ls' hP hD hS (by rw [List.length_set]; exact hn) (lv_mono h' (st_mem hi hp)))
theorem zw_istore {x : Int32} (X : CX g M) (d : Dc M pc pc1 (.istore i) 2) (hi : i < ls.length) (hp : nlp ls i = true) (k : ZW g pc1 (ls.set i (some (.int x))) st σ) : ZW g pc ls (.int x :: st) σ := by
  obtain ⟨⟨p, l, e, R, s, m, args, below, meth, c⟩, D, ad, cA, A, ⟨kc, ks⟩, Q⟩ := g
  obtain ⟨hx, hb, -⟩ := X
  obtain ⟨d1, rfl⟩ := d
  intro H locs lsa hP hD hS hn hh
  exact lv_istore hx hb d1 hh (by rw [← hn]; exact hi) rfl (fun ls' h' => k H locs ls' hP hD hS (by rw [List.length_set]; exact hn) (lv_mono h' (st_mem hi hp)))
theorem zw_astoren {x : Nat} (X : CX g M) {q : Fin 4} (hq : (q : Nat) = i) (d : Dc M pc pc1 (.astore_n q) 1) (hi : i < ls.length) (hp : nlp ls i = true) (k : ZW g pc1 (ls.set i (some (.ref x))) st σ) : ZW g pc ls (.ref x :: st) σ := by
  obtain ⟨⟨p, l, e, R, s, m, args, below, meth, c⟩, D, ad, cA, A, ⟨kc, ks⟩, Q⟩ := g
  obtain ⟨hx, hb, -⟩ := X
  obtain ⟨d1, rfl⟩ := d
  intro H locs lsa hP hD hS hn hh
  exact lv_astore_n hx hb d1 hq hh (by rw [← hn]; exact hi) rfl (fun ls' h' => k H locs ls' hP hD hS (by rw [List.length_set]; exact hn) (lv_mono h' (st_mem (v := .ref x) hi hp)))
theorem zw_lstoren {x : Int64} (X : CX g M) {q : Fin 4} (hq : (q : Nat) = i) (d : Dc M pc pc1 (.lstore_n q) 1) (hi : i + 1 < ls.length) (hp : nlp ls i = true) (k : ZW g pc1 ((ls.set i (some (.long x))).set (i + 1) none) st σ) : ZW g pc ls (.long x :: st) σ := by
  obtain ⟨⟨p, l, e, R, s, m, args, below, meth, c⟩, D, ad, cA, A, ⟨kc, ks⟩, Q⟩ := g
  obtain ⟨hx, hb, -⟩ := X
  obtain ⟨d1, rfl⟩ := d
  intro H locs lsa hP hD hS hn hh
  exact lv_lstore_n hx hb d1 hq hh (by rw [← hn]; exact hi) rfl (fun ls' h' => k H locs ls' hP hD hS (by rw [List.length_set, List.length_set]; exact hn) (lv_mono h' (st_mem2 hi hp)))
theorem zw_lstore {x : Int64} (X : CX g M) (d : Dc M pc pc1 (.lstore i) 2) (hi : i + 1 < ls.length) (hp : nlp ls i = true) (k : ZW g pc1 ((ls.set i (some (.long x))).set (i + 1) none) st σ) : ZW g pc ls (.long x :: st) σ := by
  obtain ⟨⟨p, l, e, R, s, m, args, below, meth, c⟩, D, ad, cA, A, ⟨kc, ks⟩, Q⟩ := g
  obtain ⟨hx, hb, -⟩ := X
  obtain ⟨d1, rfl⟩ := d
  intro H locs lsa hP hD hS hn hh
  exact lv_lstore hx hb d1 hh (by rw [← hn]; exact hi) rfl (fun ls' h' => k H locs ls' hP hD hS (by rw [List.length_set, List.length_set]; exact hn) (lv_mono h' (st_mem2 hi hp)))
theorem lvl_place {ad : Nat → Nat} {ls : List (Option Value)} {k : Nat} {v : Value} (h : ls[k]? = some (some v)) : ∃ j : Nat, (lvl ad 0 ls)[j]? = some (k, cv ad v) := by
  have h1 := lvl_in (ad := ad) (i := 0) h
  rw [Nat.zero_add] at h1
  exact List.getElem?_of_mem h1
theorem zw_iinc {x v : Int32} {n : Int} (X : CX g M) (d : Dc M pc pc1 (.iinc i n) 3) (hl : ls[i]? = some (some (.int x))) (hv : x + Int32.ofInt n = v) (hi : i < ls.length) (hp : nlp ls i = true) (k : ZW g pc1 (ls.set i (some (.int v))) st σ) : ZW g pc ls st σ := by
  obtain ⟨⟨p, l, e, R, s, m, args, below, meth, c⟩, D, ad, cA, A, ⟨kc, ks⟩, Q⟩ := g
  obtain ⟨hx, hb, -⟩ := X
  obtain ⟨d1, rfl⟩ := d
  intro H locs lsa hP hD hS hn hh
  obtain ⟨j, hj⟩ := lvl_place (ad := ad) hl
  exact lv_iinc hx hb d1 hh hj hv (by rw [← hn]; exact hi) rfl (fun ls' h' => k H locs ls' hP hD hS (by rw [List.length_set]; exact hn) (lv_mono h' (st_mem hi hp)))
end ZR

theorem zw_iload_0 {g : Gt} {M : Mt} {pc pc1 : Nat} {st : List Value} {σ : St} {x : Int32} {r : List (Option Value)} (X : CX g M) (d : Dc M pc pc1 (.iload_n 0) 1) (k : ZW g pc1 (some (.int x) :: r) (.int x :: st) σ) : ZW g pc (some (.int x) :: r) st σ := zw_iloadn (i := 0) X (q := 0) rfl d rfl k
theorem zw_lload_0 {g : Gt} {M : Mt} {pc pc1 : Nat} {st : List Value} {σ : St} {x : Int64} {r : List (Option Value)} (X : CX g M) (d : Dc M pc pc1 (.lload_n 0) 1) (k : ZW g pc1 (some (.long x) :: r) (.long x :: st) σ) : ZW g pc (some (.long x) :: r) st σ := zw_lloadn (i := 0) X (q := 0) rfl d rfl k
theorem zw_aload_0 {g : Gt} {M : Mt} {pc pc1 : Nat} {st : List Value} {σ : St} {x : Nat} {r : List (Option Value)} (X : CX g M) (d : Dc M pc pc1 (.aload_n 0) 1) (k : ZW g pc1 (some (.ref x) :: r) (.ref x :: st) σ) : ZW g pc (some (.ref x) :: r) st σ := zw_aloadn (i := 0) X (q := 0) rfl d rfl k
theorem zw_iload_1 {g : Gt} {M : Mt} {pc pc1 : Nat} {st : List Value} {σ : St} {x : Int32} {a0 : Option Value} {r : List (Option Value)} (X : CX g M) (d : Dc M pc pc1 (.iload_n 1) 1) (k : ZW g pc1 (a0 :: some (.int x) :: r) (.int x :: st) σ) : ZW g pc (a0 :: some (.int x) :: r) st σ := zw_iloadn (i := 1) X (q := 1) rfl d rfl k
theorem zw_lload_1 {g : Gt} {M : Mt} {pc pc1 : Nat} {st : List Value} {σ : St} {x : Int64} {a0 : Option Value} {r : List (Option Value)} (X : CX g M) (d : Dc M pc pc1 (.lload_n 1) 1) (k : ZW g pc1 (a0 :: some (.long x) :: r) (.long x :: st) σ) : ZW g pc (a0 :: some (.long x) :: r) st σ := zw_lloadn (i := 1) X (q := 1) rfl d rfl k
theorem zw_aload_1 {g : Gt} {M : Mt} {pc pc1 : Nat} {st : List Value} {σ : St} {x : Nat} {a0 : Option Value} {r : List (Option Value)} (X : CX g M) (d : Dc M pc pc1 (.aload_n 1) 1) (k : ZW g pc1 (a0 :: some (.ref x) :: r) (.ref x :: st) σ) : ZW g pc (a0 :: some (.ref x) :: r) st σ := zw_aloadn (i := 1) X (q := 1) rfl d rfl k
theorem zw_iload_2 {g : Gt} {M : Mt} {pc pc1 : Nat} {st : List Value} {σ : St} {x : Int32} {a0 a1 : Option Value} {r : List (Option Value)} (X : CX g M) (d : Dc M pc pc1 (.iload_n 2) 1) (k : ZW g pc1 (a0 :: a1 :: some (.int x) :: r) (.int x :: st) σ) : ZW g pc (a0 :: a1 :: some (.int x) :: r) st σ := zw_iloadn (i := 2) X (q := 2) rfl d rfl k
theorem zw_lload_2 {g : Gt} {M : Mt} {pc pc1 : Nat} {st : List Value} {σ : St} {x : Int64} {a0 a1 : Option Value} {r : List (Option Value)} (X : CX g M) (d : Dc M pc pc1 (.lload_n 2) 1) (k : ZW g pc1 (a0 :: a1 :: some (.long x) :: r) (.long x :: st) σ) : ZW g pc (a0 :: a1 :: some (.long x) :: r) st σ := zw_lloadn (i := 2) X (q := 2) rfl d rfl k
theorem zw_aload_2 {g : Gt} {M : Mt} {pc pc1 : Nat} {st : List Value} {σ : St} {x : Nat} {a0 a1 : Option Value} {r : List (Option Value)} (X : CX g M) (d : Dc M pc pc1 (.aload_n 2) 1) (k : ZW g pc1 (a0 :: a1 :: some (.ref x) :: r) (.ref x :: st) σ) : ZW g pc (a0 :: a1 :: some (.ref x) :: r) st σ := zw_aloadn (i := 2) X (q := 2) rfl d rfl k
theorem zw_iload_3 {g : Gt} {M : Mt} {pc pc1 : Nat} {st : List Value} {σ : St} {x : Int32} {a0 a1 a2 : Option Value} {r : List (Option Value)} (X : CX g M) (d : Dc M pc pc1 (.iload_n 3) 1) (k : ZW g pc1 (a0 :: a1 :: a2 :: some (.int x) :: r) (.int x :: st) σ) : ZW g pc (a0 :: a1 :: a2 :: some (.int x) :: r) st σ := zw_iloadn (i := 3) X (q := 3) rfl d rfl k
theorem zw_lload_3 {g : Gt} {M : Mt} {pc pc1 : Nat} {st : List Value} {σ : St} {x : Int64} {a0 a1 a2 : Option Value} {r : List (Option Value)} (X : CX g M) (d : Dc M pc pc1 (.lload_n 3) 1) (k : ZW g pc1 (a0 :: a1 :: a2 :: some (.long x) :: r) (.long x :: st) σ) : ZW g pc (a0 :: a1 :: a2 :: some (.long x) :: r) st σ := zw_lloadn (i := 3) X (q := 3) rfl d rfl k
theorem zw_aload_3 {g : Gt} {M : Mt} {pc pc1 : Nat} {st : List Value} {σ : St} {x : Nat} {a0 a1 a2 : Option Value} {r : List (Option Value)} (X : CX g M) (d : Dc M pc pc1 (.aload_n 3) 1) (k : ZW g pc1 (a0 :: a1 :: a2 :: some (.ref x) :: r) (.ref x :: st) σ) : ZW g pc (a0 :: a1 :: a2 :: some (.ref x) :: r) st σ := zw_aloadn (i := 3) X (q := 3) rfl d rfl k
theorem zw_iload_4 {g : Gt} {M : Mt} {pc pc1 : Nat} {st : List Value} {σ : St} {x : Int32} {a0 a1 a2 a3 : Option Value} {r : List (Option Value)} (X : CX g M) (d : Dc M pc pc1 (.iload 4) 2) (k : ZW g pc1 (a0 :: a1 :: a2 :: a3 :: some (.int x) :: r) (.int x :: st) σ) : ZW g pc (a0 :: a1 :: a2 :: a3 :: some (.int x) :: r) st σ := zw_iload (i := 4) X d rfl k
theorem zw_lload_4 {g : Gt} {M : Mt} {pc pc1 : Nat} {st : List Value} {σ : St} {x : Int64} {a0 a1 a2 a3 : Option Value} {r : List (Option Value)} (X : CX g M) (d : Dc M pc pc1 (.lload 4) 2) (k : ZW g pc1 (a0 :: a1 :: a2 :: a3 :: some (.long x) :: r) (.long x :: st) σ) : ZW g pc (a0 :: a1 :: a2 :: a3 :: some (.long x) :: r) st σ := zw_lload (i := 4) X d rfl k
theorem zw_iload_5 {g : Gt} {M : Mt} {pc pc1 : Nat} {st : List Value} {σ : St} {x : Int32} {a0 a1 a2 a3 a4 : Option Value} {r : List (Option Value)} (X : CX g M) (d : Dc M pc pc1 (.iload 5) 2) (k : ZW g pc1 (a0 :: a1 :: a2 :: a3 :: a4 :: some (.int x) :: r) (.int x :: st) σ) : ZW g pc (a0 :: a1 :: a2 :: a3 :: a4 :: some (.int x) :: r) st σ := zw_iload (i := 5) X d rfl k
theorem zw_lload_5 {g : Gt} {M : Mt} {pc pc1 : Nat} {st : List Value} {σ : St} {x : Int64} {a0 a1 a2 a3 a4 : Option Value} {r : List (Option Value)} (X : CX g M) (d : Dc M pc pc1 (.lload 5) 2) (k : ZW g pc1 (a0 :: a1 :: a2 :: a3 :: a4 :: some (.long x) :: r) (.long x :: st) σ) : ZW g pc (a0 :: a1 :: a2 :: a3 :: a4 :: some (.long x) :: r) st σ := zw_lload (i := 5) X d rfl k
theorem zw_iload_6 {g : Gt} {M : Mt} {pc pc1 : Nat} {st : List Value} {σ : St} {x : Int32} {a0 a1 a2 a3 a4 a5 : Option Value} {r : List (Option Value)} (X : CX g M) (d : Dc M pc pc1 (.iload 6) 2) (k : ZW g pc1 (a0 :: a1 :: a2 :: a3 :: a4 :: a5 :: some (.int x) :: r) (.int x :: st) σ) : ZW g pc (a0 :: a1 :: a2 :: a3 :: a4 :: a5 :: some (.int x) :: r) st σ := zw_iload (i := 6) X d rfl k
theorem zw_lload_6 {g : Gt} {M : Mt} {pc pc1 : Nat} {st : List Value} {σ : St} {x : Int64} {a0 a1 a2 a3 a4 a5 : Option Value} {r : List (Option Value)} (X : CX g M) (d : Dc M pc pc1 (.lload 6) 2) (k : ZW g pc1 (a0 :: a1 :: a2 :: a3 :: a4 :: a5 :: some (.long x) :: r) (.long x :: st) σ) : ZW g pc (a0 :: a1 :: a2 :: a3 :: a4 :: a5 :: some (.long x) :: r) st σ := zw_lload (i := 6) X d rfl k
theorem zw_iload_7 {g : Gt} {M : Mt} {pc pc1 : Nat} {st : List Value} {σ : St} {x : Int32} {a0 a1 a2 a3 a4 a5 a6 : Option Value} {r : List (Option Value)} (X : CX g M) (d : Dc M pc pc1 (.iload 7) 2) (k : ZW g pc1 (a0 :: a1 :: a2 :: a3 :: a4 :: a5 :: a6 :: some (.int x) :: r) (.int x :: st) σ) : ZW g pc (a0 :: a1 :: a2 :: a3 :: a4 :: a5 :: a6 :: some (.int x) :: r) st σ := zw_iload (i := 7) X d rfl k
theorem zw_lload_7 {g : Gt} {M : Mt} {pc pc1 : Nat} {st : List Value} {σ : St} {x : Int64} {a0 a1 a2 a3 a4 a5 a6 : Option Value} {r : List (Option Value)} (X : CX g M) (d : Dc M pc pc1 (.lload 7) 2) (k : ZW g pc1 (a0 :: a1 :: a2 :: a3 :: a4 :: a5 :: a6 :: some (.long x) :: r) (.long x :: st) σ) : ZW g pc (a0 :: a1 :: a2 :: a3 :: a4 :: a5 :: a6 :: some (.long x) :: r) st σ := zw_lload (i := 7) X d rfl k
theorem zw_iload_8 {g : Gt} {M : Mt} {pc pc1 : Nat} {st : List Value} {σ : St} {x : Int32} {a0 a1 a2 a3 a4 a5 a6 a7 : Option Value} {r : List (Option Value)} (X : CX g M) (d : Dc M pc pc1 (.iload 8) 2) (k : ZW g pc1 (a0 :: a1 :: a2 :: a3 :: a4 :: a5 :: a6 :: a7 :: some (.int x) :: r) (.int x :: st) σ) : ZW g pc (a0 :: a1 :: a2 :: a3 :: a4 :: a5 :: a6 :: a7 :: some (.int x) :: r) st σ := zw_iload (i := 8) X d rfl k
theorem zw_lload_8 {g : Gt} {M : Mt} {pc pc1 : Nat} {st : List Value} {σ : St} {x : Int64} {a0 a1 a2 a3 a4 a5 a6 a7 : Option Value} {r : List (Option Value)} (X : CX g M) (d : Dc M pc pc1 (.lload 8) 2) (k : ZW g pc1 (a0 :: a1 :: a2 :: a3 :: a4 :: a5 :: a6 :: a7 :: some (.long x) :: r) (.long x :: st) σ) : ZW g pc (a0 :: a1 :: a2 :: a3 :: a4 :: a5 :: a6 :: a7 :: some (.long x) :: r) st σ := zw_lload (i := 8) X d rfl k
theorem zw_iload_9 {g : Gt} {M : Mt} {pc pc1 : Nat} {st : List Value} {σ : St} {x : Int32} {a0 a1 a2 a3 a4 a5 a6 a7 a8 : Option Value} {r : List (Option Value)} (X : CX g M) (d : Dc M pc pc1 (.iload 9) 2) (k : ZW g pc1 (a0 :: a1 :: a2 :: a3 :: a4 :: a5 :: a6 :: a7 :: a8 :: some (.int x) :: r) (.int x :: st) σ) : ZW g pc (a0 :: a1 :: a2 :: a3 :: a4 :: a5 :: a6 :: a7 :: a8 :: some (.int x) :: r) st σ := zw_iload (i := 9) X d rfl k
theorem zw_lload_9 {g : Gt} {M : Mt} {pc pc1 : Nat} {st : List Value} {σ : St} {x : Int64} {a0 a1 a2 a3 a4 a5 a6 a7 a8 : Option Value} {r : List (Option Value)} (X : CX g M) (d : Dc M pc pc1 (.lload 9) 2) (k : ZW g pc1 (a0 :: a1 :: a2 :: a3 :: a4 :: a5 :: a6 :: a7 :: a8 :: some (.long x) :: r) (.long x :: st) σ) : ZW g pc (a0 :: a1 :: a2 :: a3 :: a4 :: a5 :: a6 :: a7 :: a8 :: some (.long x) :: r) st σ := zw_lload (i := 9) X d rfl k
theorem zw_iload_10 {g : Gt} {M : Mt} {pc pc1 : Nat} {st : List Value} {σ : St} {x : Int32} {a0 a1 a2 a3 a4 a5 a6 a7 a8 a9 : Option Value} {r : List (Option Value)} (X : CX g M) (d : Dc M pc pc1 (.iload 10) 2) (k : ZW g pc1 (a0 :: a1 :: a2 :: a3 :: a4 :: a5 :: a6 :: a7 :: a8 :: a9 :: some (.int x) :: r) (.int x :: st) σ) : ZW g pc (a0 :: a1 :: a2 :: a3 :: a4 :: a5 :: a6 :: a7 :: a8 :: a9 :: some (.int x) :: r) st σ := zw_iload (i := 10) X d rfl k
theorem zw_lload_10 {g : Gt} {M : Mt} {pc pc1 : Nat} {st : List Value} {σ : St} {x : Int64} {a0 a1 a2 a3 a4 a5 a6 a7 a8 a9 : Option Value} {r : List (Option Value)} (X : CX g M) (d : Dc M pc pc1 (.lload 10) 2) (k : ZW g pc1 (a0 :: a1 :: a2 :: a3 :: a4 :: a5 :: a6 :: a7 :: a8 :: a9 :: some (.long x) :: r) (.long x :: st) σ) : ZW g pc (a0 :: a1 :: a2 :: a3 :: a4 :: a5 :: a6 :: a7 :: a8 :: a9 :: some (.long x) :: r) st σ := zw_lload (i := 10) X d rfl k
theorem zw_iload_11 {g : Gt} {M : Mt} {pc pc1 : Nat} {st : List Value} {σ : St} {x : Int32} {a0 a1 a2 a3 a4 a5 a6 a7 a8 a9 a10 : Option Value} {r : List (Option Value)} (X : CX g M) (d : Dc M pc pc1 (.iload 11) 2) (k : ZW g pc1 (a0 :: a1 :: a2 :: a3 :: a4 :: a5 :: a6 :: a7 :: a8 :: a9 :: a10 :: some (.int x) :: r) (.int x :: st) σ) : ZW g pc (a0 :: a1 :: a2 :: a3 :: a4 :: a5 :: a6 :: a7 :: a8 :: a9 :: a10 :: some (.int x) :: r) st σ := zw_iload (i := 11) X d rfl k
theorem zw_lload_11 {g : Gt} {M : Mt} {pc pc1 : Nat} {st : List Value} {σ : St} {x : Int64} {a0 a1 a2 a3 a4 a5 a6 a7 a8 a9 a10 : Option Value} {r : List (Option Value)} (X : CX g M) (d : Dc M pc pc1 (.lload 11) 2) (k : ZW g pc1 (a0 :: a1 :: a2 :: a3 :: a4 :: a5 :: a6 :: a7 :: a8 :: a9 :: a10 :: some (.long x) :: r) (.long x :: st) σ) : ZW g pc (a0 :: a1 :: a2 :: a3 :: a4 :: a5 :: a6 :: a7 :: a8 :: a9 :: a10 :: some (.long x) :: r) st σ := zw_lload (i := 11) X d rfl k
theorem zw_iload_12 {g : Gt} {M : Mt} {pc pc1 : Nat} {st : List Value} {σ : St} {x : Int32} {a0 a1 a2 a3 a4 a5 a6 a7 a8 a9 a10 a11 : Option Value} {r : List (Option Value)} (X : CX g M) (d : Dc M pc pc1 (.iload 12) 2) (k : ZW g pc1 (a0 :: a1 :: a2 :: a3 :: a4 :: a5 :: a6 :: a7 :: a8 :: a9 :: a10 :: a11 :: some (.int x) :: r) (.int x :: st) σ) : ZW g pc (a0 :: a1 :: a2 :: a3 :: a4 :: a5 :: a6 :: a7 :: a8 :: a9 :: a10 :: a11 :: some (.int x) :: r) st σ := zw_iload (i := 12) X d rfl k
theorem zw_lload_12 {g : Gt} {M : Mt} {pc pc1 : Nat} {st : List Value} {σ : St} {x : Int64} {a0 a1 a2 a3 a4 a5 a6 a7 a8 a9 a10 a11 : Option Value} {r : List (Option Value)} (X : CX g M) (d : Dc M pc pc1 (.lload 12) 2) (k : ZW g pc1 (a0 :: a1 :: a2 :: a3 :: a4 :: a5 :: a6 :: a7 :: a8 :: a9 :: a10 :: a11 :: some (.long x) :: r) (.long x :: st) σ) : ZW g pc (a0 :: a1 :: a2 :: a3 :: a4 :: a5 :: a6 :: a7 :: a8 :: a9 :: a10 :: a11 :: some (.long x) :: r) st σ := zw_lload (i := 12) X d rfl k
theorem zw_iload_13 {g : Gt} {M : Mt} {pc pc1 : Nat} {st : List Value} {σ : St} {x : Int32} {a0 a1 a2 a3 a4 a5 a6 a7 a8 a9 a10 a11 a12 : Option Value} {r : List (Option Value)} (X : CX g M) (d : Dc M pc pc1 (.iload 13) 2) (k : ZW g pc1 (a0 :: a1 :: a2 :: a3 :: a4 :: a5 :: a6 :: a7 :: a8 :: a9 :: a10 :: a11 :: a12 :: some (.int x) :: r) (.int x :: st) σ) : ZW g pc (a0 :: a1 :: a2 :: a3 :: a4 :: a5 :: a6 :: a7 :: a8 :: a9 :: a10 :: a11 :: a12 :: some (.int x) :: r) st σ := zw_iload (i := 13) X d rfl k
theorem zw_lload_13 {g : Gt} {M : Mt} {pc pc1 : Nat} {st : List Value} {σ : St} {x : Int64} {a0 a1 a2 a3 a4 a5 a6 a7 a8 a9 a10 a11 a12 : Option Value} {r : List (Option Value)} (X : CX g M) (d : Dc M pc pc1 (.lload 13) 2) (k : ZW g pc1 (a0 :: a1 :: a2 :: a3 :: a4 :: a5 :: a6 :: a7 :: a8 :: a9 :: a10 :: a11 :: a12 :: some (.long x) :: r) (.long x :: st) σ) : ZW g pc (a0 :: a1 :: a2 :: a3 :: a4 :: a5 :: a6 :: a7 :: a8 :: a9 :: a10 :: a11 :: a12 :: some (.long x) :: r) st σ := zw_lload (i := 13) X d rfl k
theorem zw_istore_0 {g : Gt} {M : Mt} {pc pc1 : Nat} {st : List Value} {σ : St} {x : Int32} {b : Option Value} {r : List (Option Value)} (X : CX g M) (d : Dc M pc pc1 (.istore_n 0) 1) (k : ZW g pc1 (some (.int x) :: r) st σ) : ZW g pc (b :: r) (.int x :: st) σ := zw_istoren (i := 0) X (q := 0) rfl d (by simp) rfl k
theorem zw_astore_0 {g : Gt} {M : Mt} {pc pc1 : Nat} {st : List Value} {σ : St} {x : Nat} {b : Option Value} {r : List (Option Value)} (X : CX g M) (d : Dc M pc pc1 (.astore_n 0) 1) (k : ZW g pc1 (some (.ref x) :: r) st σ) : ZW g pc (b :: r) (.ref x :: st) σ := zw_astoren (i := 0) X (q := 0) rfl d (by simp) rfl k
theorem zw_iinc_0_p1 {g : Gt} {M : Mt} {pc pc1 : Nat} {st : List Value} {σ : St} {x : Int32} {r : List (Option Value)} (X : CX g M) (d : Dc M pc pc1 (.iinc 0 1) 3) (k : ZW g pc1 (some (.int (x + 1)) :: r) st σ) : ZW g pc (some (.int x) :: r) st σ := zw_iinc (i := 0) (x := x) X d rfl (congrArg (x + ·) (by decide)) (by simp) rfl k
theorem zw_iinc_0_m1 {g : Gt} {M : Mt} {pc pc1 : Nat} {st : List Value} {σ : St} {x : Int32} {r : List (Option Value)} (X : CX g M) (d : Dc M pc pc1 (.iinc 0 (-1)) 3) (k : ZW g pc1 (some (.int (x + (-1))) :: r) st σ) : ZW g pc (some (.int x) :: r) st σ := zw_iinc (i := 0) (x := x) X d rfl (congrArg (x + ·) (by decide)) (by simp) rfl k
theorem zw_iinc_0_p2 {g : Gt} {M : Mt} {pc pc1 : Nat} {st : List Value} {σ : St} {x : Int32} {r : List (Option Value)} (X : CX g M) (d : Dc M pc pc1 (.iinc 0 2) 3) (k : ZW g pc1 (some (.int (x + 2)) :: r) st σ) : ZW g pc (some (.int x) :: r) st σ := zw_iinc (i := 0) (x := x) X d rfl (congrArg (x + ·) (by decide)) (by simp) rfl k
theorem zw_iinc_0_p3 {g : Gt} {M : Mt} {pc pc1 : Nat} {st : List Value} {σ : St} {x : Int32} {r : List (Option Value)} (X : CX g M) (d : Dc M pc pc1 (.iinc 0 3) 3) (k : ZW g pc1 (some (.int (x + 3)) :: r) st σ) : ZW g pc (some (.int x) :: r) st σ := zw_iinc (i := 0) (x := x) X d rfl (congrArg (x + ·) (by decide)) (by simp) rfl k
theorem zw_istore_1 {g : Gt} {M : Mt} {pc pc1 : Nat} {st : List Value} {σ : St} {x : Int32} {a0 : Option Value} {b : Option Value} {r : List (Option Value)} (X : CX g M) (d : Dc M pc pc1 (.istore_n 1) 1) (k : ZW g pc1 (a0 :: some (.int x) :: r) st σ) (hp : nlg a0 = true := by rfl) : ZW g pc (a0 :: b :: r) (.int x :: st) σ := zw_istoren (i := 1) X (q := 1) rfl d (by simp) hp k
theorem zw_astore_1 {g : Gt} {M : Mt} {pc pc1 : Nat} {st : List Value} {σ : St} {x : Nat} {a0 : Option Value} {b : Option Value} {r : List (Option Value)} (X : CX g M) (d : Dc M pc pc1 (.astore_n 1) 1) (k : ZW g pc1 (a0 :: some (.ref x) :: r) st σ) (hp : nlg a0 = true := by rfl) : ZW g pc (a0 :: b :: r) (.ref x :: st) σ := zw_astoren (i := 1) X (q := 1) rfl d (by simp) hp k
theorem zw_iinc_1_p1 {g : Gt} {M : Mt} {pc pc1 : Nat} {st : List Value} {σ : St} {x : Int32} {a0 : Option Value} {r : List (Option Value)} (X : CX g M) (d : Dc M pc pc1 (.iinc 1 1) 3) (k : ZW g pc1 (a0 :: some (.int (x + 1)) :: r) st σ) (hp : nlg a0 = true := by rfl) : ZW g pc (a0 :: some (.int x) :: r) st σ := zw_iinc (i := 1) (x := x) X d rfl (congrArg (x + ·) (by decide)) (by simp) hp k
theorem zw_iinc_1_m1 {g : Gt} {M : Mt} {pc pc1 : Nat} {st : List Value} {σ : St} {x : Int32} {a0 : Option Value} {r : List (Option Value)} (X : CX g M) (d : Dc M pc pc1 (.iinc 1 (-1)) 3) (k : ZW g pc1 (a0 :: some (.int (x + (-1))) :: r) st σ) (hp : nlg a0 = true := by rfl) : ZW g pc (a0 :: some (.int x) :: r) st σ := zw_iinc (i := 1) (x := x) X d rfl (congrArg (x + ·) (by decide)) (by simp) hp k
theorem zw_iinc_1_p2 {g : Gt} {M : Mt} {pc pc1 : Nat} {st : List Value} {σ : St} {x : Int32} {a0 : Option Value} {r : List (Option Value)} (X : CX g M) (d : Dc M pc pc1 (.iinc 1 2) 3) (k : ZW g pc1 (a0 :: some (.int (x + 2)) :: r) st σ) (hp : nlg a0 = true := by rfl) : ZW g pc (a0 :: some (.int x) :: r) st σ := zw_iinc (i := 1) (x := x) X d rfl (congrArg (x + ·) (by decide)) (by simp) hp k
theorem zw_iinc_1_p3 {g : Gt} {M : Mt} {pc pc1 : Nat} {st : List Value} {σ : St} {x : Int32} {a0 : Option Value} {r : List (Option Value)} (X : CX g M) (d : Dc M pc pc1 (.iinc 1 3) 3) (k : ZW g pc1 (a0 :: some (.int (x + 3)) :: r) st σ) (hp : nlg a0 = true := by rfl) : ZW g pc (a0 :: some (.int x) :: r) st σ := zw_iinc (i := 1) (x := x) X d rfl (congrArg (x + ·) (by decide)) (by simp) hp k
theorem zw_istore_2 {g : Gt} {M : Mt} {pc pc1 : Nat} {st : List Value} {σ : St} {x : Int32} {a0 a1 : Option Value} {b : Option Value} {r : List (Option Value)} (X : CX g M) (d : Dc M pc pc1 (.istore_n 2) 1) (k : ZW g pc1 (a0 :: a1 :: some (.int x) :: r) st σ) (hp : nlg a1 = true := by rfl) : ZW g pc (a0 :: a1 :: b :: r) (.int x :: st) σ := zw_istoren (i := 2) X (q := 2) rfl d (by simp) hp k
theorem zw_astore_2 {g : Gt} {M : Mt} {pc pc1 : Nat} {st : List Value} {σ : St} {x : Nat} {a0 a1 : Option Value} {b : Option Value} {r : List (Option Value)} (X : CX g M) (d : Dc M pc pc1 (.astore_n 2) 1) (k : ZW g pc1 (a0 :: a1 :: some (.ref x) :: r) st σ) (hp : nlg a1 = true := by rfl) : ZW g pc (a0 :: a1 :: b :: r) (.ref x :: st) σ := zw_astoren (i := 2) X (q := 2) rfl d (by simp) hp k
theorem zw_iinc_2_p1 {g : Gt} {M : Mt} {pc pc1 : Nat} {st : List Value} {σ : St} {x : Int32} {a0 a1 : Option Value} {r : List (Option Value)} (X : CX g M) (d : Dc M pc pc1 (.iinc 2 1) 3) (k : ZW g pc1 (a0 :: a1 :: some (.int (x + 1)) :: r) st σ) (hp : nlg a1 = true := by rfl) : ZW g pc (a0 :: a1 :: some (.int x) :: r) st σ := zw_iinc (i := 2) (x := x) X d rfl (congrArg (x + ·) (by decide)) (by simp) hp k
theorem zw_iinc_2_m1 {g : Gt} {M : Mt} {pc pc1 : Nat} {st : List Value} {σ : St} {x : Int32} {a0 a1 : Option Value} {r : List (Option Value)} (X : CX g M) (d : Dc M pc pc1 (.iinc 2 (-1)) 3) (k : ZW g pc1 (a0 :: a1 :: some (.int (x + (-1))) :: r) st σ) (hp : nlg a1 = true := by rfl) : ZW g pc (a0 :: a1 :: some (.int x) :: r) st σ := zw_iinc (i := 2) (x := x) X d rfl (congrArg (x + ·) (by decide)) (by simp) hp k
theorem zw_iinc_2_p2 {g : Gt} {M : Mt} {pc pc1 : Nat} {st : List Value} {σ : St} {x : Int32} {a0 a1 : Option Value} {r : List (Option Value)} (X : CX g M) (d : Dc M pc pc1 (.iinc 2 2) 3) (k : ZW g pc1 (a0 :: a1 :: some (.int (x + 2)) :: r) st σ) (hp : nlg a1 = true := by rfl) : ZW g pc (a0 :: a1 :: some (.int x) :: r) st σ := zw_iinc (i := 2) (x := x) X d rfl (congrArg (x + ·) (by decide)) (by simp) hp k
theorem zw_iinc_2_p3 {g : Gt} {M : Mt} {pc pc1 : Nat} {st : List Value} {σ : St} {x : Int32} {a0 a1 : Option Value} {r : List (Option Value)} (X : CX g M) (d : Dc M pc pc1 (.iinc 2 3) 3) (k : ZW g pc1 (a0 :: a1 :: some (.int (x + 3)) :: r) st σ) (hp : nlg a1 = true := by rfl) : ZW g pc (a0 :: a1 :: some (.int x) :: r) st σ := zw_iinc (i := 2) (x := x) X d rfl (congrArg (x + ·) (by decide)) (by simp) hp k
theorem zw_istore_3 {g : Gt} {M : Mt} {pc pc1 : Nat} {st : List Value} {σ : St} {x : Int32} {a0 a1 a2 : Option Value} {b : Option Value} {r : List (Option Value)} (X : CX g M) (d : Dc M pc pc1 (.istore_n 3) 1) (k : ZW g pc1 (a0 :: a1 :: a2 :: some (.int x) :: r) st σ) (hp : nlg a2 = true := by rfl) : ZW g pc (a0 :: a1 :: a2 :: b :: r) (.int x :: st) σ := zw_istoren (i := 3) X (q := 3) rfl d (by simp) hp k
theorem zw_astore_3 {g : Gt} {M : Mt} {pc pc1 : Nat} {st : List Value} {σ : St} {x : Nat} {a0 a1 a2 : Option Value} {b : Option Value} {r : List (Option Value)} (X : CX g M) (d : Dc M pc pc1 (.astore_n 3) 1) (k : ZW g pc1 (a0 :: a1 :: a2 :: some (.ref x) :: r) st σ) (hp : nlg a2 = true := by rfl) : ZW g pc (a0 :: a1 :: a2 :: b :: r) (.ref x :: st) σ := zw_astoren (i := 3) X (q := 3) rfl d (by simp) hp k
theorem zw_iinc_3_p1 {g : Gt} {M : Mt} {pc pc1 : Nat} {st : List Value} {σ : St} {x : Int32} {a0 a1 a2 : Option Value} {r : List (Option Value)} (X : CX g M) (d : Dc M pc pc1 (.iinc 3 1) 3) (k : ZW g pc1 (a0 :: a1 :: a2 :: some (.int (x + 1)) :: r) st σ) (hp : nlg a2 = true := by rfl) : ZW g pc (a0 :: a1 :: a2 :: some (.int x) :: r) st σ := zw_iinc (i := 3) (x := x) X d rfl (congrArg (x + ·) (by decide)) (by simp) hp k
theorem zw_iinc_3_m1 {g : Gt} {M : Mt} {pc pc1 : Nat} {st : List Value} {σ : St} {x : Int32} {a0 a1 a2 : Option Value} {r : List (Option Value)} (X : CX g M) (d : Dc M pc pc1 (.iinc 3 (-1)) 3) (k : ZW g pc1 (a0 :: a1 :: a2 :: some (.int (x + (-1))) :: r) st σ) (hp : nlg a2 = true := by rfl) : ZW g pc (a0 :: a1 :: a2 :: some (.int x) :: r) st σ := zw_iinc (i := 3) (x := x) X d rfl (congrArg (x + ·) (by decide)) (by simp) hp k
theorem zw_iinc_3_p2 {g : Gt} {M : Mt} {pc pc1 : Nat} {st : List Value} {σ : St} {x : Int32} {a0 a1 a2 : Option Value} {r : List (Option Value)} (X : CX g M) (d : Dc M pc pc1 (.iinc 3 2) 3) (k : ZW g pc1 (a0 :: a1 :: a2 :: some (.int (x + 2)) :: r) st σ) (hp : nlg a2 = true := by rfl) : ZW g pc (a0 :: a1 :: a2 :: some (.int x) :: r) st σ := zw_iinc (i := 3) (x := x) X d rfl (congrArg (x + ·) (by decide)) (by simp) hp k
theorem zw_iinc_3_p3 {g : Gt} {M : Mt} {pc pc1 : Nat} {st : List Value} {σ : St} {x : Int32} {a0 a1 a2 : Option Value} {r : List (Option Value)} (X : CX g M) (d : Dc M pc pc1 (.iinc 3 3) 3) (k : ZW g pc1 (a0 :: a1 :: a2 :: some (.int (x + 3)) :: r) st σ) (hp : nlg a2 = true := by rfl) : ZW g pc (a0 :: a1 :: a2 :: some (.int x) :: r) st σ := zw_iinc (i := 3) (x := x) X d rfl (congrArg (x + ·) (by decide)) (by simp) hp k
theorem zw_istore_4 {g : Gt} {M : Mt} {pc pc1 : Nat} {st : List Value} {σ : St} {x : Int32} {a0 a1 a2 a3 : Option Value} {b : Option Value} {r : List (Option Value)} (X : CX g M) (d : Dc M pc pc1 (.istore 4) 2) (k : ZW g pc1 (a0 :: a1 :: a2 :: a3 :: some (.int x) :: r) st σ) (hp : nlg a3 = true := by rfl) : ZW g pc (a0 :: a1 :: a2 :: a3 :: b :: r) (.int x :: st) σ := zw_istore (i := 4) X d (by simp) hp k
theorem zw_iinc_4_p1 {g : Gt} {M : Mt} {pc pc1 : Nat} {st : List Value} {σ : St} {x : Int32} {a0 a1 a2 a3 : Option Value} {r : List (Option Value)} (X : CX g M) (d : Dc M pc pc1 (.iinc 4 1) 3) (k : ZW g pc1 (a0 :: a1 :: a2 :: a3 :: some (.int (x + 1)) :: r) st σ) (hp : nlg a3 = true := by rfl) : ZW g pc (a0 :: a1 :: a2 :: a3 :: some (.int x) :: r) st σ := zw_iinc (i := 4) (x := x) X d rfl (congrArg (x + ·) (by decide)) (by simp) hp k
theorem zw_iinc_4_m1 {g : Gt} {M : Mt} {pc pc1 : Nat} {st : List Value} {σ : St} {x : Int32} {a0 a1 a2 a3 : Option Value} {r : List (Option Value)} (X : CX g M) (d : Dc M pc pc1 (.iinc 4 (-1)) 3) (k : ZW g pc1 (a0 :: a1 :: a2 :: a3 :: some (.int (x + (-1))) :: r) st σ) (hp : nlg a3 = true := by rfl) : ZW g pc (a0 :: a1 :: a2 :: a3 :: some (.int x) :: r) st σ := zw_iinc (i := 4) (x := x) X d rfl (congrArg (x + ·) (by decide)) (by simp) hp k
theorem zw_iinc_4_p2 {g : Gt} {M : Mt} {pc pc1 : Nat} {st : List Value} {σ : St} {x : Int32} {a0 a1 a2 a3 : Option Value} {r : List (Option Value)} (X : CX g M) (d : Dc M pc pc1 (.iinc 4 2) 3) (k : ZW g pc1 (a0 :: a1 :: a2 :: a3 :: some (.int (x + 2)) :: r) st σ) (hp : nlg a3 = true := by rfl) : ZW g pc (a0 :: a1 :: a2 :: a3 :: some (.int x) :: r) st σ := zw_iinc (i := 4) (x := x) X d rfl (congrArg (x + ·) (by decide)) (by simp) hp k
theorem zw_iinc_4_p3 {g : Gt} {M : Mt} {pc pc1 : Nat} {st : List Value} {σ : St} {x : Int32} {a0 a1 a2 a3 : Option Value} {r : List (Option Value)} (X : CX g M) (d : Dc M pc pc1 (.iinc 4 3) 3) (k : ZW g pc1 (a0 :: a1 :: a2 :: a3 :: some (.int (x + 3)) :: r) st σ) (hp : nlg a3 = true := by rfl) : ZW g pc (a0 :: a1 :: a2 :: a3 :: some (.int x) :: r) st σ := zw_iinc (i := 4) (x := x) X d rfl (congrArg (x + ·) (by decide)) (by simp) hp k
theorem zw_istore_5 {g : Gt} {M : Mt} {pc pc1 : Nat} {st : List Value} {σ : St} {x : Int32} {a0 a1 a2 a3 a4 : Option Value} {b : Option Value} {r : List (Option Value)} (X : CX g M) (d : Dc M pc pc1 (.istore 5) 2) (k : ZW g pc1 (a0 :: a1 :: a2 :: a3 :: a4 :: some (.int x) :: r) st σ) (hp : nlg a4 = true := by rfl) : ZW g pc (a0 :: a1 :: a2 :: a3 :: a4 :: b :: r) (.int x :: st) σ := zw_istore (i := 5) X d (by simp) hp k
theorem zw_iinc_5_p1 {g : Gt} {M : Mt} {pc pc1 : Nat} {st : List Value} {σ : St} {x : Int32} {a0 a1 a2 a3 a4 : Option Value} {r : List (Option Value)} (X : CX g M) (d : Dc M pc pc1 (.iinc 5 1) 3) (k : ZW g pc1 (a0 :: a1 :: a2 :: a3 :: a4 :: some (.int (x + 1)) :: r) st σ) (hp : nlg a4 = true := by rfl) : ZW g pc (a0 :: a1 :: a2 :: a3 :: a4 :: some (.int x) :: r) st σ := zw_iinc (i := 5) (x := x) X d rfl (congrArg (x + ·) (by decide)) (by simp) hp k
theorem zw_iinc_5_m1 {g : Gt} {M : Mt} {pc pc1 : Nat} {st : List Value} {σ : St} {x : Int32} {a0 a1 a2 a3 a4 : Option Value} {r : List (Option Value)} (X : CX g M) (d : Dc M pc pc1 (.iinc 5 (-1)) 3) (k : ZW g pc1 (a0 :: a1 :: a2 :: a3 :: a4 :: some (.int (x + (-1))) :: r) st σ) (hp : nlg a4 = true := by rfl) : ZW g pc (a0 :: a1 :: a2 :: a3 :: a4 :: some (.int x) :: r) st σ := zw_iinc (i := 5) (x := x) X d rfl (congrArg (x + ·) (by decide)) (by simp) hp k
theorem zw_iinc_5_p2 {g : Gt} {M : Mt} {pc pc1 : Nat} {st : List Value} {σ : St} {x : Int32} {a0 a1 a2 a3 a4 : Option Value} {r : List (Option Value)} (X : CX g M) (d : Dc M pc pc1 (.iinc 5 2) 3) (k : ZW g pc1 (a0 :: a1 :: a2 :: a3 :: a4 :: some (.int (x + 2)) :: r) st σ) (hp : nlg a4 = true := by rfl) : ZW g pc (a0 :: a1 :: a2 :: a3 :: a4 :: some (.int x) :: r) st σ := zw_iinc (i := 5) (x := x) X d rfl (congrArg (x + ·) (by decide)) (by simp) hp k
theorem zw_iinc_5_p3 {g : Gt} {M : Mt} {pc pc1 : Nat} {st : List Value} {σ : St} {x : Int32} {a0 a1 a2 a3 a4 : Option Value} {r : List (Option Value)} (X : CX g M) (d : Dc M pc pc1 (.iinc 5 3) 3) (k : ZW g pc1 (a0 :: a1 :: a2 :: a3 :: a4 :: some (.int (x + 3)) :: r) st σ) (hp : nlg a4 = true := by rfl) : ZW g pc (a0 :: a1 :: a2 :: a3 :: a4 :: some (.int x) :: r) st σ := zw_iinc (i := 5) (x := x) X d rfl (congrArg (x + ·) (by decide)) (by simp) hp k
theorem zw_istore_6 {g : Gt} {M : Mt} {pc pc1 : Nat} {st : List Value} {σ : St} {x : Int32} {a0 a1 a2 a3 a4 a5 : Option Value} {b : Option Value} {r : List (Option Value)} (X : CX g M) (d : Dc M pc pc1 (.istore 6) 2) (k : ZW g pc1 (a0 :: a1 :: a2 :: a3 :: a4 :: a5 :: some (.int x) :: r) st σ) (hp : nlg a5 = true := by rfl) : ZW g pc (a0 :: a1 :: a2 :: a3 :: a4 :: a5 :: b :: r) (.int x :: st) σ := zw_istore (i := 6) X d (by simp) hp k
theorem zw_iinc_6_p1 {g : Gt} {M : Mt} {pc pc1 : Nat} {st : List Value} {σ : St} {x : Int32} {a0 a1 a2 a3 a4 a5 : Option Value} {r : List (Option Value)} (X : CX g M) (d : Dc M pc pc1 (.iinc 6 1) 3) (k : ZW g pc1 (a0 :: a1 :: a2 :: a3 :: a4 :: a5 :: some (.int (x + 1)) :: r) st σ) (hp : nlg a5 = true := by rfl) : ZW g pc (a0 :: a1 :: a2 :: a3 :: a4 :: a5 :: some (.int x) :: r) st σ := zw_iinc (i := 6) (x := x) X d rfl (congrArg (x + ·) (by decide)) (by simp) hp k
theorem zw_iinc_6_m1 {g : Gt} {M : Mt} {pc pc1 : Nat} {st : List Value} {σ : St} {x : Int32} {a0 a1 a2 a3 a4 a5 : Option Value} {r : List (Option Value)} (X : CX g M) (d : Dc M pc pc1 (.iinc 6 (-1)) 3) (k : ZW g pc1 (a0 :: a1 :: a2 :: a3 :: a4 :: a5 :: some (.int (x + (-1))) :: r) st σ) (hp : nlg a5 = true := by rfl) : ZW g pc (a0 :: a1 :: a2 :: a3 :: a4 :: a5 :: some (.int x) :: r) st σ := zw_iinc (i := 6) (x := x) X d rfl (congrArg (x + ·) (by decide)) (by simp) hp k
theorem zw_iinc_6_p2 {g : Gt} {M : Mt} {pc pc1 : Nat} {st : List Value} {σ : St} {x : Int32} {a0 a1 a2 a3 a4 a5 : Option Value} {r : List (Option Value)} (X : CX g M) (d : Dc M pc pc1 (.iinc 6 2) 3) (k : ZW g pc1 (a0 :: a1 :: a2 :: a3 :: a4 :: a5 :: some (.int (x + 2)) :: r) st σ) (hp : nlg a5 = true := by rfl) : ZW g pc (a0 :: a1 :: a2 :: a3 :: a4 :: a5 :: some (.int x) :: r) st σ := zw_iinc (i := 6) (x := x) X d rfl (congrArg (x + ·) (by decide)) (by simp) hp k
theorem zw_iinc_6_p3 {g : Gt} {M : Mt} {pc pc1 : Nat} {st : List Value} {σ : St} {x : Int32} {a0 a1 a2 a3 a4 a5 : Option Value} {r : List (Option Value)} (X : CX g M) (d : Dc M pc pc1 (.iinc 6 3) 3) (k : ZW g pc1 (a0 :: a1 :: a2 :: a3 :: a4 :: a5 :: some (.int (x + 3)) :: r) st σ) (hp : nlg a5 = true := by rfl) : ZW g pc (a0 :: a1 :: a2 :: a3 :: a4 :: a5 :: some (.int x) :: r) st σ := zw_iinc (i := 6) (x := x) X d rfl (congrArg (x + ·) (by decide)) (by simp) hp k
theorem zw_istore_7 {g : Gt} {M : Mt} {pc pc1 : Nat} {st : List Value} {σ : St} {x : Int32} {a0 a1 a2 a3 a4 a5 a6 : Option Value} {b : Option Value} {r : List (Option Value)} (X : CX g M) (d : Dc M pc pc1 (.istore 7) 2) (k : ZW g pc1 (a0 :: a1 :: a2 :: a3 :: a4 :: a5 :: a6 :: some (.int x) :: r) st σ) (hp : nlg a6 = true := by rfl) : ZW g pc (a0 :: a1 :: a2 :: a3 :: a4 :: a5 :: a6 :: b :: r) (.int x :: st) σ := zw_istore (i := 7) X d (by simp) hp k
theorem zw_iinc_7_p1 {g : Gt} {M : Mt} {pc pc1 : Nat} {st : List Value} {σ : St} {x : Int32} {a0 a1 a2 a3 a4 a5 a6 : Option Value} {r : List (Option Value)} (X : CX g M) (d : Dc M pc pc1 (.iinc 7 1) 3) (k : ZW g pc1 (a0 :: a1 :: a2 :: a3 :: a4 :: a5 :: a6 :: some (.int (x + 1)) :: r) st σ) (hp : nlg a6 = true := by rfl) : ZW g pc (a0 :: a1 :: a2 :: a3 :: a4 :: a5 :: a6 :: some (.int x) :: r) st σ := zw_iinc (i := 7) (x := x) X d rfl (congrArg (x + ·) (by decide)) (by simp) hp k
theorem zw_iinc_7_m1 {g : Gt} {M : Mt} {pc pc1 : Nat} {st : List Value} {σ : St} {x : Int32} {a0 a1 a2 a3 a4 a5 a6 : Option Value} {r : List (Option Value)} (X : CX g M) (d : Dc M pc pc1 (.iinc 7 (-1)) 3) (k : ZW g pc1 (a0 :: a1 :: a2 :: a3 :: a4 :: a5 :: a6 :: some (.int (x + (-1))) :: r) st σ) (hp : nlg a6 = true := by rfl) : ZW g pc (a0 :: a1 :: a2 :: a3 :: a4 :: a5 :: a6 :: some (.int x) :: r) st σ := zw_iinc (i := 7) (x := x) X d rfl (congrArg (x + ·) (by decide)) (by simp) hp k
theorem zw_iinc_7_p2 {g : Gt} {M : Mt} {pc pc1 : Nat} {st : List Value} {σ : St} {x : Int32} {a0 a1 a2 a3 a4 a5 a6 : Option Value} {r : List (Option Value)} (X : CX g M) (d : Dc M pc pc1 (.iinc 7 2) 3) (k : ZW g pc1 (a0 :: a1 :: a2 :: a3 :: a4 :: a5 :: a6 :: some (.int (x + 2)) :: r) st σ) (hp : nlg a6 = true := by rfl) : ZW g pc (a0 :: a1 :: a2 :: a3 :: a4 :: a5 :: a6 :: some (.int x) :: r) st σ := zw_iinc (i := 7) (x := x) X d rfl (congrArg (x + ·) (by decide)) (by simp) hp k
theorem zw_iinc_7_p3 {g : Gt} {M : Mt} {pc pc1 : Nat} {st : List Value} {σ : St} {x : Int32} {a0 a1 a2 a3 a4 a5 a6 : Option Value} {r : List (Option Value)} (X : CX g M) (d : Dc M pc pc1 (.iinc 7 3) 3) (k : ZW g pc1 (a0 :: a1 :: a2 :: a3 :: a4 :: a5 :: a6 :: some (.int (x + 3)) :: r) st σ) (hp : nlg a6 = true := by rfl) : ZW g pc (a0 :: a1 :: a2 :: a3 :: a4 :: a5 :: a6 :: some (.int x) :: r) st σ := zw_iinc (i := 7) (x := x) X d rfl (congrArg (x + ·) (by decide)) (by simp) hp k
theorem zw_istore_8 {g : Gt} {M : Mt} {pc pc1 : Nat} {st : List Value} {σ : St} {x : Int32} {a0 a1 a2 a3 a4 a5 a6 a7 : Option Value} {b : Option Value} {r : List (Option Value)} (X : CX g M) (d : Dc M pc pc1 (.istore 8) 2) (k : ZW g pc1 (a0 :: a1 :: a2 :: a3 :: a4 :: a5 :: a6 :: a7 :: some (.int x) :: r) st σ) (hp : nlg a7 = true := by rfl) : ZW g pc (a0 :: a1 :: a2 :: a3 :: a4 :: a5 :: a6 :: a7 :: b :: r) (.int x :: st) σ := zw_istore (i := 8) X d (by simp) hp k
theorem zw_iinc_8_p1 {g : Gt} {M : Mt} {pc pc1 : Nat} {st : List Value} {σ : St} {x : Int32} {a0 a1 a2 a3 a4 a5 a6 a7 : Option Value} {r : List (Option Value)} (X : CX g M) (d : Dc M pc pc1 (.iinc 8 1) 3) (k : ZW g pc1 (a0 :: a1 :: a2 :: a3 :: a4 :: a5 :: a6 :: a7 :: some (.int (x + 1)) :: r) st σ) (hp : nlg a7 = true := by rfl) : ZW g pc (a0 :: a1 :: a2 :: a3 :: a4 :: a5 :: a6 :: a7 :: some (.int x) :: r) st σ := zw_iinc (i := 8) (x := x) X d rfl (congrArg (x + ·) (by decide)) (by simp) hp k
theorem zw_iinc_8_m1 {g : Gt} {M : Mt} {pc pc1 : Nat} {st : List Value} {σ : St} {x : Int32} {a0 a1 a2 a3 a4 a5 a6 a7 : Option Value} {r : List (Option Value)} (X : CX g M) (d : Dc M pc pc1 (.iinc 8 (-1)) 3) (k : ZW g pc1 (a0 :: a1 :: a2 :: a3 :: a4 :: a5 :: a6 :: a7 :: some (.int (x + (-1))) :: r) st σ) (hp : nlg a7 = true := by rfl) : ZW g pc (a0 :: a1 :: a2 :: a3 :: a4 :: a5 :: a6 :: a7 :: some (.int x) :: r) st σ := zw_iinc (i := 8) (x := x) X d rfl (congrArg (x + ·) (by decide)) (by simp) hp k
theorem zw_iinc_8_p2 {g : Gt} {M : Mt} {pc pc1 : Nat} {st : List Value} {σ : St} {x : Int32} {a0 a1 a2 a3 a4 a5 a6 a7 : Option Value} {r : List (Option Value)} (X : CX g M) (d : Dc M pc pc1 (.iinc 8 2) 3) (k : ZW g pc1 (a0 :: a1 :: a2 :: a3 :: a4 :: a5 :: a6 :: a7 :: some (.int (x + 2)) :: r) st σ) (hp : nlg a7 = true := by rfl) : ZW g pc (a0 :: a1 :: a2 :: a3 :: a4 :: a5 :: a6 :: a7 :: some (.int x) :: r) st σ := zw_iinc (i := 8) (x := x) X d rfl (congrArg (x + ·) (by decide)) (by simp) hp k
theorem zw_iinc_8_p3 {g : Gt} {M : Mt} {pc pc1 : Nat} {st : List Value} {σ : St} {x : Int32} {a0 a1 a2 a3 a4 a5 a6 a7 : Option Value} {r : List (Option Value)} (X : CX g M) (d : Dc M pc pc1 (.iinc 8 3) 3) (k : ZW g pc1 (a0 :: a1 :: a2 :: a3 :: a4 :: a5 :: a6 :: a7 :: some (.int (x + 3)) :: r) st σ) (hp : nlg a7 = true := by rfl) : ZW g pc (a0 :: a1 :: a2 :: a3 :: a4 :: a5 :: a6 :: a7 :: some (.int x) :: r) st σ := zw_iinc (i := 8) (x := x) X d rfl (congrArg (x + ·) (by decide)) (by simp) hp k
theorem zw_istore_9 {g : Gt} {M : Mt} {pc pc1 : Nat} {st : List Value} {σ : St} {x : Int32} {a0 a1 a2 a3 a4 a5 a6 a7 a8 : Option Value} {b : Option Value} {r : List (Option Value)} (X : CX g M) (d : Dc M pc pc1 (.istore 9) 2) (k : ZW g pc1 (a0 :: a1 :: a2 :: a3 :: a4 :: a5 :: a6 :: a7 :: a8 :: some (.int x) :: r) st σ) (hp : nlg a8 = true := by rfl) : ZW g pc (a0 :: a1 :: a2 :: a3 :: a4 :: a5 :: a6 :: a7 :: a8 :: b :: r) (.int x :: st) σ := zw_istore (i := 9) X d (by simp) hp k
theorem zw_iinc_9_p1 {g : Gt} {M : Mt} {pc pc1 : Nat} {st : List Value} {σ : St} {x : Int32} {a0 a1 a2 a3 a4 a5 a6 a7 a8 : Option Value} {r : List (Option Value)} (X : CX g M) (d : Dc M pc pc1 (.iinc 9 1) 3) (k : ZW g pc1 (a0 :: a1 :: a2 :: a3 :: a4 :: a5 :: a6 :: a7 :: a8 :: some (.int (x + 1)) :: r) st σ) (hp : nlg a8 = true := by rfl) : ZW g pc (a0 :: a1 :: a2 :: a3 :: a4 :: a5 :: a6 :: a7 :: a8 :: some (.int x) :: r) st σ := zw_iinc (i := 9) (x := x) X d rfl (congrArg (x + ·) (by decide)) (by simp) hp k
theorem zw_iinc_9_m1 {g : Gt} {M : Mt} {pc pc1 : Nat} {st : List Value} {σ : St} {x : Int32} {a0 a1 a2 a3 a4 a5 a6 a7 a8 : Option Value} {r : List (Option Value)} (X : CX g M) (d : Dc M pc pc1 (.iinc 9 (-1)) 3) (k : ZW g pc1 (a0 :: a1 :: a2 :: a3 :: a4 :: a5 :: a6 :: a7 :: a8 :: some (.int (x + (-1))) :: r) st σ) (hp : nlg a8 = true := by rfl) : ZW g pc (a0 :: a1 :: a2 :: a3 :: a4 :: a5 :: a6 :: a7 :: a8 :: some (.int x) :: r) st σ := zw_iinc (i := 9) (x := x) X d rfl (congrArg (x + ·) (by decide)) (by simp) hp k
theorem zw_iinc_9_p2 {g : Gt} {M : Mt} {pc pc1 : Nat} {st : List Value} {σ : St} {x : Int32} {a0 a1 a2 a3 a4 a5 a6 a7 a8 : Option Value} {r : List (Option Value)} (X : CX g M) (d : Dc M pc pc1 (.iinc 9 2) 3) (k : ZW g pc1 (a0 :: a1 :: a2 :: a3 :: a4 :: a5 :: a6 :: a7 :: a8 :: some (.int (x + 2)) :: r) st σ) (hp : nlg a8 = true := by rfl) : ZW g pc (a0 :: a1 :: a2 :: a3 :: a4 :: a5 :: a6 :: a7 :: a8 :: some (.int x) :: r) st σ := zw_iinc (i := 9) (x := x) X d rfl (congrArg (x + ·) (by decide)) (by simp) hp k
theorem zw_iinc_9_p3 {g : Gt} {M : Mt} {pc pc1 : Nat} {st : List Value} {σ : St} {x : Int32} {a0 a1 a2 a3 a4 a5 a6 a7 a8 : Option Value} {r : List (Option Value)} (X : CX g M) (d : Dc M pc pc1 (.iinc 9 3) 3) (k : ZW g pc1 (a0 :: a1 :: a2 :: a3 :: a4 :: a5 :: a6 :: a7 :: a8 :: some (.int (x + 3)) :: r) st σ) (hp : nlg a8 = true := by rfl) : ZW g pc (a0 :: a1 :: a2 :: a3 :: a4 :: a5 :: a6 :: a7 :: a8 :: some (.int x) :: r) st σ := zw_iinc (i := 9) (x := x) X d rfl (congrArg (x + ·) (by decide)) (by simp) hp k
theorem zw_istore_10 {g : Gt} {M : Mt} {pc pc1 : Nat} {st : List Value} {σ : St} {x : Int32} {a0 a1 a2 a3 a4 a5 a6 a7 a8 a9 : Option Value} {b : Option Value} {r : List (Option Value)} (X : CX g M) (d : Dc M pc pc1 (.istore 10) 2) (k : ZW g pc1 (a0 :: a1 :: a2 :: a3 :: a4 :: a5 :: a6 :: a7 :: a8 :: a9 :: some (.int x) :: r) st σ) (hp : nlg a9 = true := by rfl) : ZW g pc (a0 :: a1 :: a2 :: a3 :: a4 :: a5 :: a6 :: a7 :: a8 :: a9 :: b :: r) (.int x :: st) σ := zw_istore (i := 10) X d (by simp) hp k
theorem zw_iinc_10_p1 {g : Gt} {M : Mt} {pc pc1 : Nat} {st : List Value} {σ : St} {x : Int32} {a0 a1 a2 a3 a4 a5 a6 a7 a8 a9 : Option Value} {r : List (Option Value)} (X : CX g M) (d : Dc M pc pc1 (.iinc 10 1) 3) (k : ZW g pc1 (a0 :: a1 :: a2 :: a3 :: a4 :: a5 :: a6 :: a7 :: a8 :: a9 :: some (.int (x + 1)) :: r) st σ) (hp : nlg a9 = true := by rfl) : ZW g pc (a0 :: a1 :: a2 :: a3 :: a4 :: a5 :: a6 :: a7 :: a8 :: a9 :: some (.int x) :: r) st σ := zw_iinc (i := 10) (x := x) X d rfl (congrArg (x + ·) (by decide)) (by simp) hp k
theorem zw_iinc_10_m1 {g : Gt} {M : Mt} {pc pc1 : Nat} {st : List Value} {σ : St} {x : Int32} {a0 a1 a2 a3 a4 a5 a6 a7 a8 a9 : Option Value} {r : List (Option Value)} (X : CX g M) (d : Dc M pc pc1 (.iinc 10 (-1)) 3) (k : ZW g pc1 (a0 :: a1 :: a2 :: a3 :: a4 :: a5 :: a6 :: a7 :: a8 :: a9 :: some (.int (x + (-1))) :: r) st σ) (hp : nlg a9 = true := by rfl) : ZW g pc (a0 :: a1 :: a2 :: a3 :: a4 :: a5 :: a6 :: a7 :: a8 :: a9 :: some (.int x) :: r) st σ := zw_iinc (i := 10) (x := x) X d rfl (congrArg (x + ·) (by decide)) (by simp) hp k
theorem zw_iinc_10_p2 {g : Gt} {M : Mt} {pc pc1 : Nat} {st : List Value} {σ : St} {x : Int32} {a0 a1 a2 a3 a4 a5 a6 a7 a8 a9 : Option Value} {r : List (Option Value)} (X : CX g M) (d : Dc M pc pc1 (.iinc 10 2) 3) (k : ZW g pc1 (a0 :: a1 :: a2 :: a3 :: a4 :: a5 :: a6 :: a7 :: a8 :: a9 :: some (.int (x + 2)) :: r) st σ) (hp : nlg a9 = true := by rfl) : ZW g pc (a0 :: a1 :: a2 :: a3 :: a4 :: a5 :: a6 :: a7 :: a8 :: a9 :: some (.int x) :: r) st σ := zw_iinc (i := 10) (x := x) X d rfl (congrArg (x + ·) (by decide)) (by simp) hp k
theorem zw_iinc_10_p3 {g : Gt} {M : Mt} {pc pc1 : Nat} {st : List Value} {σ : St} {x : Int32} {a0 a1 a2 a3 a4 a5 a6 a7 a8 a9 : Option Value} {r : List (Option Value)} (X : CX g M) (d : Dc M pc pc1 (.iinc 10 3) 3) (k : ZW g pc1 (a0 :: a1 :: a2 :: a3 :: a4 :: a5 :: a6 :: a7 :: a8 :: a9 :: some (.int (x + 3)) :: r) st σ) (hp : nlg a9 = true := by rfl) : ZW g pc (a0 :: a1 :: a2 :: a3 :: a4 :: a5 :: a6 :: a7 :: a8 :: a9 :: some (.int x) :: r) st σ := zw_iinc (i := 10) (x := x) X d rfl (congrArg (x + ·) (by decide)) (by simp) hp k
theorem zw_istore_11 {g : Gt} {M : Mt} {pc pc1 : Nat} {st : List Value} {σ : St} {x : Int32} {a0 a1 a2 a3 a4 a5 a6 a7 a8 a9 a10 : Option Value} {b : Option Value} {r : List (Option Value)} (X : CX g M) (d : Dc M pc pc1 (.istore 11) 2) (k : ZW g pc1 (a0 :: a1 :: a2 :: a3 :: a4 :: a5 :: a6 :: a7 :: a8 :: a9 :: a10 :: some (.int x) :: r) st σ) (hp : nlg a10 = true := by rfl) : ZW g pc (a0 :: a1 :: a2 :: a3 :: a4 :: a5 :: a6 :: a7 :: a8 :: a9 :: a10 :: b :: r) (.int x :: st) σ := zw_istore (i := 11) X d (by simp) hp k
theorem zw_iinc_11_p1 {g : Gt} {M : Mt} {pc pc1 : Nat} {st : List Value} {σ : St} {x : Int32} {a0 a1 a2 a3 a4 a5 a6 a7 a8 a9 a10 : Option Value} {r : List (Option Value)} (X : CX g M) (d : Dc M pc pc1 (.iinc 11 1) 3) (k : ZW g pc1 (a0 :: a1 :: a2 :: a3 :: a4 :: a5 :: a6 :: a7 :: a8 :: a9 :: a10 :: some (.int (x + 1)) :: r) st σ) (hp : nlg a10 = true := by rfl) : ZW g pc (a0 :: a1 :: a2 :: a3 :: a4 :: a5 :: a6 :: a7 :: a8 :: a9 :: a10 :: some (.int x) :: r) st σ := zw_iinc (i := 11) (x := x) X d rfl (congrArg (x + ·) (by decide)) (by simp) hp k
theorem zw_iinc_11_m1 {g : Gt} {M : Mt} {pc pc1 : Nat} {st : List Value} {σ : St} {x : Int32} {a0 a1 a2 a3 a4 a5 a6 a7 a8 a9 a10 : Option Value} {r : List (Option Value)} (X : CX g M) (d : Dc M pc pc1 (.iinc 11 (-1)) 3) (k : ZW g pc1 (a0 :: a1 :: a2 :: a3 :: a4 :: a5 :: a6 :: a7 :: a8 :: a9 :: a10 :: some (.int (x + (-1))) :: r) st σ) (hp : nlg a10 = true := by rfl) : ZW g pc (a0 :: a1 :: a2 :: a3 :: a4 :: a5 :: a6 :: a7 :: a8 :: a9 :: a10 :: some (.int x) :: r) st σ := zw_iinc (i := 11) (x := x) X d rfl (congrArg (x + ·) (by decide)) (by simp) hp k
theorem zw_iinc_11_p2 {g : Gt} {M : Mt} {pc pc1 : Nat} {st : List Value} {σ : St} {x : Int32} {a0 a1 a2 a3 a4 a5 a6 a7 a8 a9 a10 : Option Value} {r : List (Option Value)} (X : CX g M) (d : Dc M pc pc1 (.iinc 11 2) 3) (k : ZW g pc1 (a0 :: a1 :: a2 :: a3 :: a4 :: a5 :: a6 :: a7 :: a8 :: a9 :: a10 :: some (.int (x + 2)) :: r) st σ) (hp : nlg a10 = true := by rfl) : ZW g pc (a0 :: a1 :: a2 :: a3 :: a4 :: a5 :: a6 :: a7 :: a8 :: a9 :: a10 :: some (.int x) :: r) st σ := zw_iinc (i := 11) (x := x) X d rfl (congrArg (x + ·) (by decide)) (by simp) hp k
theorem zw_iinc_11_p3 {g : Gt} {M : Mt} {pc pc1 : Nat} {st : List Value} {σ : St} {x : Int32} {a0 a1 a2 a3 a4 a5 a6 a7 a8 a9 a10 : Option Value} {r : List (Option Value)} (X : CX g M) (d : Dc M pc pc1 (.iinc 11 3) 3) (k : ZW g pc1 (a0 :: a1 :: a2 :: a3 :: a4 :: a5 :: a6 :: a7 :: a8 :: a9 :: a10 :: some (.int (x + 3)) :: r) st σ) (hp : nlg a10 = true := by rfl) : ZW g pc (a0 :: a1 :: a2 :: a3 :: a4 :: a5 :: a6 :: a7 :: a8 :: a9 :: a10 :: some (.int x) :: r) st σ := zw_iinc (i := 11) (x := x) X d rfl (congrArg (x + ·) (by decide)) (by simp) hp k
theorem zw_istore_12 {g : Gt} {M : Mt} {pc pc1 : Nat} {st : List Value} {σ : St} {x : Int32} {a0 a1 a2 a3 a4 a5 a6 a7 a8 a9 a10 a11 : Option Value} {b : Option Value} {r : List (Option Value)} (X : CX g M) (d : Dc M pc pc1 (.istore 12) 2) (k : ZW g pc1 (a0 :: a1 :: a2 :: a3 :: a4 :: a5 :: a6 :: a7 :: a8 :: a9 :: a10 :: a11 :: some (.int x) :: r) st σ) (hp : nlg a11 = true := by rfl) : ZW g pc (a0 :: a1 :: a2 :: a3 :: a4 :: a5 :: a6 :: a7 :: a8 :: a9 :: a10 :: a11 :: b :: r) (.int x :: st) σ := zw_istore (i := 12) X d (by simp) hp k
theorem zw_iinc_12_p1 {g : Gt} {M : Mt} {pc pc1 : Nat} {st : List Value} {σ : St} {x : Int32} {a0 a1 a2 a3 a4 a5 a6 a7 a8 a9 a10 a11 : Option Value} {r : List (Option Value)} (X : CX g M) (d : Dc M pc pc1 (.iinc 12 1) 3) (k : ZW g pc1 (a0 :: a1 :: a2 :: a3 :: a4 :: a5 :: a6 :: a7 :: a8 :: a9 :: a10 :: a11 :: some (.int (x + 1)) :: r) st σ) (hp : nlg a11 = true := by rfl) : ZW g pc (a0 :: a1 :: a2 :: a3 :: a4 :: a5 :: a6 :: a7 :: a8 :: a9 :: a10 :: a11 :: some (.int x) :: r) st σ := zw_iinc (i := 12) (x := x) X d rfl (congrArg (x + ·) (by decide)) (by simp) hp k
theorem zw_iinc_12_m1 {g : Gt} {M : Mt} {pc pc1 : Nat} {st : List Value} {σ : St} {x : Int32} {a0 a1 a2 a3 a4 a5 a6 a7 a8 a9 a10 a11 : Option Value} {r : List (Option Value)} (X : CX g M) (d : Dc M pc pc1 (.iinc 12 (-1)) 3) (k : ZW g pc1 (a0 :: a1 :: a2 :: a3 :: a4 :: a5 :: a6 :: a7 :: a8 :: a9 :: a10 :: a11 :: some (.int (x + (-1))) :: r) st σ) (hp : nlg a11 = true := by rfl) : ZW g pc (a0 :: a1 :: a2 :: a3 :: a4 :: a5 :: a6 :: a7 :: a8 :: a9 :: a10 :: a11 :: some (.int x) :: r) st σ := zw_iinc (i := 12) (x := x) X d rfl (congrArg (x + ·) (by decide)) (by simp) hp k
theorem zw_iinc_12_p2 {g : Gt} {M : Mt} {pc pc1 : Nat} {st : List Value} {σ : St} {x : Int32} {a0 a1 a2 a3 a4 a5 a6 a7 a8 a9 a10 a11 : Option Value} {r : List (Option Value)} (X : CX g M) (d : Dc M pc pc1 (.iinc 12 2) 3) (k : ZW g pc1 (a0 :: a1 :: a2 :: a3 :: a4 :: a5 :: a6 :: a7 :: a8 :: a9 :: a10 :: a11 :: some (.int (x + 2)) :: r) st σ) (hp : nlg a11 = true := by rfl) : ZW g pc (a0 :: a1 :: a2 :: a3 :: a4 :: a5 :: a6 :: a7 :: a8 :: a9 :: a10 :: a11 :: some (.int x) :: r) st σ := zw_iinc (i := 12) (x := x) X d rfl (congrArg (x + ·) (by decide)) (by simp) hp k
theorem zw_iinc_12_p3 {g : Gt} {M : Mt} {pc pc1 : Nat} {st : List Value} {σ : St} {x : Int32} {a0 a1 a2 a3 a4 a5 a6 a7 a8 a9 a10 a11 : Option Value} {r : List (Option Value)} (X : CX g M) (d : Dc M pc pc1 (.iinc 12 3) 3) (k : ZW g pc1 (a0 :: a1 :: a2 :: a3 :: a4 :: a5 :: a6 :: a7 :: a8 :: a9 :: a10 :: a11 :: some (.int (x + 3)) :: r) st σ) (hp : nlg a11 = true := by rfl) : ZW g pc (a0 :: a1 :: a2 :: a3 :: a4 :: a5 :: a6 :: a7 :: a8 :: a9 :: a10 :: a11 :: some (.int x) :: r) st σ := zw_iinc (i := 12) (x := x) X d rfl (congrArg (x + ·) (by decide)) (by simp) hp k
theorem zw_istore_13 {g : Gt} {M : Mt} {pc pc1 : Nat} {st : List Value} {σ : St} {x : Int32} {a0 a1 a2 a3 a4 a5 a6 a7 a8 a9 a10 a11 a12 : Option Value} {b : Option Value} {r : List (Option Value)} (X : CX g M) (d : Dc M pc pc1 (.istore 13) 2) (k : ZW g pc1 (a0 :: a1 :: a2 :: a3 :: a4 :: a5 :: a6 :: a7 :: a8 :: a9 :: a10 :: a11 :: a12 :: some (.int x) :: r) st σ) (hp : nlg a12 = true := by rfl) : ZW g pc (a0 :: a1 :: a2 :: a3 :: a4 :: a5 :: a6 :: a7 :: a8 :: a9 :: a10 :: a11 :: a12 :: b :: r) (.int x :: st) σ := zw_istore (i := 13) X d (by simp) hp k
theorem zw_iinc_13_p1 {g : Gt} {M : Mt} {pc pc1 : Nat} {st : List Value} {σ : St} {x : Int32} {a0 a1 a2 a3 a4 a5 a6 a7 a8 a9 a10 a11 a12 : Option Value} {r : List (Option Value)} (X : CX g M) (d : Dc M pc pc1 (.iinc 13 1) 3) (k : ZW g pc1 (a0 :: a1 :: a2 :: a3 :: a4 :: a5 :: a6 :: a7 :: a8 :: a9 :: a10 :: a11 :: a12 :: some (.int (x + 1)) :: r) st σ) (hp : nlg a12 = true := by rfl) : ZW g pc (a0 :: a1 :: a2 :: a3 :: a4 :: a5 :: a6 :: a7 :: a8 :: a9 :: a10 :: a11 :: a12 :: some (.int x) :: r) st σ := zw_iinc (i := 13) (x := x) X d rfl (congrArg (x + ·) (by decide)) (by simp) hp k
theorem zw_iinc_13_m1 {g : Gt} {M : Mt} {pc pc1 : Nat} {st : List Value} {σ : St} {x : Int32} {a0 a1 a2 a3 a4 a5 a6 a7 a8 a9 a10 a11 a12 : Option Value} {r : List (Option Value)} (X : CX g M) (d : Dc M pc pc1 (.iinc 13 (-1)) 3) (k : ZW g pc1 (a0 :: a1 :: a2 :: a3 :: a4 :: a5 :: a6 :: a7 :: a8 :: a9 :: a10 :: a11 :: a12 :: some (.int (x + (-1))) :: r) st σ) (hp : nlg a12 = true := by rfl) : ZW g pc (a0 :: a1 :: a2 :: a3 :: a4 :: a5 :: a6 :: a7 :: a8 :: a9 :: a10 :: a11 :: a12 :: some (.int x) :: r) st σ := zw_iinc (i := 13) (x := x) X d rfl (congrArg (x + ·) (by decide)) (by simp) hp k
theorem zw_iinc_13_p2 {g : Gt} {M : Mt} {pc pc1 : Nat} {st : List Value} {σ : St} {x : Int32} {a0 a1 a2 a3 a4 a5 a6 a7 a8 a9 a10 a11 a12 : Option Value} {r : List (Option Value)} (X : CX g M) (d : Dc M pc pc1 (.iinc 13 2) 3) (k : ZW g pc1 (a0 :: a1 :: a2 :: a3 :: a4 :: a5 :: a6 :: a7 :: a8 :: a9 :: a10 :: a11 :: a12 :: some (.int (x + 2)) :: r) st σ) (hp : nlg a12 = true := by rfl) : ZW g pc (a0 :: a1 :: a2 :: a3 :: a4 :: a5 :: a6 :: a7 :: a8 :: a9 :: a10 :: a11 :: a12 :: some (.int x) :: r) st σ := zw_iinc (i := 13) (x := x) X d rfl (congrArg (x + ·) (by decide)) (by simp) hp k
theorem zw_iinc_13_p3 {g : Gt} {M : Mt} {pc pc1 : Nat} {st : List Value} {σ : St} {x : Int32} {a0 a1 a2 a3 a4 a5 a6 a7 a8 a9 a10 a11 a12 : Option Value} {r : List (Option Value)} (X : CX g M) (d : Dc M pc pc1 (.iinc 13 3) 3) (k : ZW g pc1 (a0 :: a1 :: a2 :: a3 :: a4 :: a5 :: a6 :: a7 :: a8 :: a9 :: a10 :: a11 :: a12 :: some (.int (x + 3)) :: r) st σ) (hp : nlg a12 = true := by rfl) : ZW g pc (a0 :: a1 :: a2 :: a3 :: a4 :: a5 :: a6 :: a7 :: a8 :: a9 :: a10 :: a11 :: a12 :: some (.int x) :: r) st σ := zw_iinc (i := 13) (x := x) X d rfl (congrArg (x + ·) (by decide)) (by simp) hp k
theorem zw_lstore_0 {g : Gt} {M : Mt} {pc pc1 : Nat} {st : List Value} {σ : St} {x : Int64} {b b1 : Option Value} {r : List (Option Value)} (X : CX g M) (d : Dc M pc pc1 (.lstore_n 0) 1) (k : ZW g pc1 (some (.long x) :: none :: r) st σ) : ZW g pc (b :: b1 :: r) (.long x :: st) σ := zw_lstoren (i := 0) X (q := 0) rfl d (by simp) rfl k
theorem zw_lstore_1 {g : Gt} {M : Mt} {pc pc1 : Nat} {st : List Value} {σ : St} {x : Int64} {a0 : Option Value} {b b1 : Option Value} {r : List (Option Value)} (X : CX g M) (d : Dc M pc pc1 (.lstore_n 1) 1) (k : ZW g pc1 (a0 :: some (.long x) :: none :: r) st σ) (hp : nlg a0 = true := by rfl) : ZW g pc (a0 :: b :: b1 :: r) (.long x :: st) σ := zw_lstoren (i := 1) X (q := 1) rfl d (by simp) hp k
theorem zw_lstore_2 {g : Gt} {M : Mt} {pc pc1 : Nat} {st : List Value} {σ : St} {x : Int64} {a0 a1 : Option Value} {b b1 : Option Value} {r : List (Option Value)} (X : CX g M) (d : Dc M pc pc1 (.lstore_n 2) 1) (k : ZW g pc1 (a0 :: a1 :: some (.long x) :: none :: r) st σ) (hp : nlg a1 = true := by rfl) : ZW g pc (a0 :: a1 :: b :: b1 :: r) (.long x :: st) σ := zw_lstoren (i := 2) X (q := 2) rfl d (by simp) hp k
theorem zw_lstore_3 {g : Gt} {M : Mt} {pc pc1 : Nat} {st : List Value} {σ : St} {x : Int64} {a0 a1 a2 : Option Value} {b b1 : Option Value} {r : List (Option Value)} (X : CX g M) (d : Dc M pc pc1 (.lstore_n 3) 1) (k : ZW g pc1 (a0 :: a1 :: a2 :: some (.long x) :: none :: r) st σ) (hp : nlg a2 = true := by rfl) : ZW g pc (a0 :: a1 :: a2 :: b :: b1 :: r) (.long x :: st) σ := zw_lstoren (i := 3) X (q := 3) rfl d (by simp) hp k
theorem zw_lstore_4 {g : Gt} {M : Mt} {pc pc1 : Nat} {st : List Value} {σ : St} {x : Int64} {a0 a1 a2 a3 : Option Value} {b b1 : Option Value} {r : List (Option Value)} (X : CX g M) (d : Dc M pc pc1 (.lstore 4) 2) (k : ZW g pc1 (a0 :: a1 :: a2 :: a3 :: some (.long x) :: none :: r) st σ) (hp : nlg a3 = true := by rfl) : ZW g pc (a0 :: a1 :: a2 :: a3 :: b :: b1 :: r) (.long x :: st) σ := zw_lstore (i := 4) X d (by simp) hp k
theorem zw_lstore_5 {g : Gt} {M : Mt} {pc pc1 : Nat} {st : List Value} {σ : St} {x : Int64} {a0 a1 a2 a3 a4 : Option Value} {b b1 : Option Value} {r : List (Option Value)} (X : CX g M) (d : Dc M pc pc1 (.lstore 5) 2) (k : ZW g pc1 (a0 :: a1 :: a2 :: a3 :: a4 :: some (.long x) :: none :: r) st σ) (hp : nlg a4 = true := by rfl) : ZW g pc (a0 :: a1 :: a2 :: a3 :: a4 :: b :: b1 :: r) (.long x :: st) σ := zw_lstore (i := 5) X d (by simp) hp k
theorem zw_lstore_6 {g : Gt} {M : Mt} {pc pc1 : Nat} {st : List Value} {σ : St} {x : Int64} {a0 a1 a2 a3 a4 a5 : Option Value} {b b1 : Option Value} {r : List (Option Value)} (X : CX g M) (d : Dc M pc pc1 (.lstore 6) 2) (k : ZW g pc1 (a0 :: a1 :: a2 :: a3 :: a4 :: a5 :: some (.long x) :: none :: r) st σ) (hp : nlg a5 = true := by rfl) : ZW g pc (a0 :: a1 :: a2 :: a3 :: a4 :: a5 :: b :: b1 :: r) (.long x :: st) σ := zw_lstore (i := 6) X d (by simp) hp k
theorem zw_lstore_7 {g : Gt} {M : Mt} {pc pc1 : Nat} {st : List Value} {σ : St} {x : Int64} {a0 a1 a2 a3 a4 a5 a6 : Option Value} {b b1 : Option Value} {r : List (Option Value)} (X : CX g M) (d : Dc M pc pc1 (.lstore 7) 2) (k : ZW g pc1 (a0 :: a1 :: a2 :: a3 :: a4 :: a5 :: a6 :: some (.long x) :: none :: r) st σ) (hp : nlg a6 = true := by rfl) : ZW g pc (a0 :: a1 :: a2 :: a3 :: a4 :: a5 :: a6 :: b :: b1 :: r) (.long x :: st) σ := zw_lstore (i := 7) X d (by simp) hp k
theorem zw_lstore_8 {g : Gt} {M : Mt} {pc pc1 : Nat} {st : List Value} {σ : St} {x : Int64} {a0 a1 a2 a3 a4 a5 a6 a7 : Option Value} {b b1 : Option Value} {r : List (Option Value)} (X : CX g M) (d : Dc M pc pc1 (.lstore 8) 2) (k : ZW g pc1 (a0 :: a1 :: a2 :: a3 :: a4 :: a5 :: a6 :: a7 :: some (.long x) :: none :: r) st σ) (hp : nlg a7 = true := by rfl) : ZW g pc (a0 :: a1 :: a2 :: a3 :: a4 :: a5 :: a6 :: a7 :: b :: b1 :: r) (.long x :: st) σ := zw_lstore (i := 8) X d (by simp) hp k
theorem zw_lstore_9 {g : Gt} {M : Mt} {pc pc1 : Nat} {st : List Value} {σ : St} {x : Int64} {a0 a1 a2 a3 a4 a5 a6 a7 a8 : Option Value} {b b1 : Option Value} {r : List (Option Value)} (X : CX g M) (d : Dc M pc pc1 (.lstore 9) 2) (k : ZW g pc1 (a0 :: a1 :: a2 :: a3 :: a4 :: a5 :: a6 :: a7 :: a8 :: some (.long x) :: none :: r) st σ) (hp : nlg a8 = true := by rfl) : ZW g pc (a0 :: a1 :: a2 :: a3 :: a4 :: a5 :: a6 :: a7 :: a8 :: b :: b1 :: r) (.long x :: st) σ := zw_lstore (i := 9) X d (by simp) hp k
theorem zw_lstore_10 {g : Gt} {M : Mt} {pc pc1 : Nat} {st : List Value} {σ : St} {x : Int64} {a0 a1 a2 a3 a4 a5 a6 a7 a8 a9 : Option Value} {b b1 : Option Value} {r : List (Option Value)} (X : CX g M) (d : Dc M pc pc1 (.lstore 10) 2) (k : ZW g pc1 (a0 :: a1 :: a2 :: a3 :: a4 :: a5 :: a6 :: a7 :: a8 :: a9 :: some (.long x) :: none :: r) st σ) (hp : nlg a9 = true := by rfl) : ZW g pc (a0 :: a1 :: a2 :: a3 :: a4 :: a5 :: a6 :: a7 :: a8 :: a9 :: b :: b1 :: r) (.long x :: st) σ := zw_lstore (i := 10) X d (by simp) hp k
theorem zw_lstore_11 {g : Gt} {M : Mt} {pc pc1 : Nat} {st : List Value} {σ : St} {x : Int64} {a0 a1 a2 a3 a4 a5 a6 a7 a8 a9 a10 : Option Value} {b b1 : Option Value} {r : List (Option Value)} (X : CX g M) (d : Dc M pc pc1 (.lstore 11) 2) (k : ZW g pc1 (a0 :: a1 :: a2 :: a3 :: a4 :: a5 :: a6 :: a7 :: a8 :: a9 :: a10 :: some (.long x) :: none :: r) st σ) (hp : nlg a10 = true := by rfl) : ZW g pc (a0 :: a1 :: a2 :: a3 :: a4 :: a5 :: a6 :: a7 :: a8 :: a9 :: a10 :: b :: b1 :: r) (.long x :: st) σ := zw_lstore (i := 11) X d (by simp) hp k
section ZS
variable {g : Gt} {M : Mt} {pc pc1 : Nat} {ls : List (Option Value)} {st : List Value} {σ : St}
theorem zw_iconst {n : Int} {v : Int32} (X : CX g M) (d : Dc M pc pc1 (.iconst n) 1) (hv : Int32.ofInt n = v) (k : ZW g pc1 ls (.int v :: st) σ) : ZW g pc ls (st) σ := by
  obtain ⟨⟨p, l, e, R, s, m, args, below, meth, c⟩, D, ad, cA, A, ⟨kc, ks⟩, Q⟩ := g
  obtain ⟨hx, hb, -⟩ := X
  obtain ⟨d1, rfl⟩ := d
  intro H locs lsa hP hD hS hn hh
  exact lv_iconst hx hb d1 hv (k H locs lsa hP hD hS hn hh)
theorem zw_bipush {n : Int} {v : Int32} (X : CX g M) (d : Dc M pc pc1 (.bipush n) 2) (hv : (Int8.ofInt n).toInt32 = v) (k : ZW g pc1 ls (.int v :: st) σ) : ZW g pc ls (st) σ := by
  obtain ⟨⟨p, l, e, R, s, m, args, below, meth, c⟩, D, ad, cA, A, ⟨kc, ks⟩, Q⟩ := g
  obtain ⟨hx, hb, -⟩ := X
  obtain ⟨d1, rfl⟩ := d
  intro H locs lsa hP hD hS hn hh
  exact lv_bipush hx hb d1 hv (k H locs lsa hP hD hS hn hh)
theorem zw_sipush {n : Int} {v : Int32} (X : CX g M) (d : Dc M pc pc1 (.sipush n) 3) (hv : (Int16.ofInt n).toInt32 = v) (k : ZW g pc1 ls (.int v :: st) σ) : ZW g pc ls (st) σ := by
  obtain ⟨⟨p, l, e, R, s, m, args, below, meth, c⟩, D, ad, cA, A, ⟨kc, ks⟩, Q⟩ := g
  obtain ⟨hx, hb, -⟩ := X
  obtain ⟨d1, rfl⟩ := d
  intro H locs lsa hP hD hS hn hh
  exact lv_sipush hx hb d1 hv (k H locs lsa hP hD hS hn hh)
theorem zw_lconst {n : Fin 2} {v : Int64} (X : CX g M) (d : Dc M pc pc1 (.lconst n) 1) (hv : Int64.ofNat (n : Nat) = v) (k : ZW g pc1 ls (.long v :: st) σ) : ZW g pc ls (st) σ := by
  obtain ⟨⟨p, l, e, R, s, m, args, below, meth, c⟩, D, ad, cA, A, ⟨kc, ks⟩, Q⟩ := g
  obtain ⟨hx, hb, -⟩ := X
  obtain ⟨d1, rfl⟩ := d
  intro H locs lsa hP hD hS hn hh
  exact lv_lconst hx hb d1 hv (k H locs lsa hP hD hS hn hh)
theorem zw_iadd {x y : Int32} (X : CX g M) (d : Dc M pc pc1 .iadd 1) (k : ZW g pc1 ls (.int (x + y) :: st) σ) : ZW g pc ls (.int y :: .int x :: st) σ := by
  obtain ⟨⟨p, l, e, R, s, m, args, below, meth, c⟩, D, ad, cA, A, ⟨kc, ks⟩, Q⟩ := g
  obtain ⟨hx, hb, -⟩ := X
  obtain ⟨d1, rfl⟩ := d
  intro H locs lsa hP hD hS hn hh
  exact lv_iadd hx hb d1 (k H locs lsa hP hD hS hn hh)
theorem zw_isub {x y : Int32} (X : CX g M) (d : Dc M pc pc1 .isub 1) (k : ZW g pc1 ls (.int (x - y) :: st) σ) : ZW g pc ls (.int y :: .int x :: st) σ := by
  obtain ⟨⟨p, l, e, R, s, m, args, below, meth, c⟩, D, ad, cA, A, ⟨kc, ks⟩, Q⟩ := g
  obtain ⟨hx, hb, -⟩ := X
  obtain ⟨d1, rfl⟩ := d
  intro H locs lsa hP hD hS hn hh
  exact lv_isub hx hb d1 (k H locs lsa hP hD hS hn hh)
theorem zw_imul {x y : Int32} (X : CX g M) (d : Dc M pc pc1 .imul 1) (k : ZW g pc1 ls (.int (x * y) :: st) σ) : ZW g pc ls (.int y :: .int x :: st) σ := by
  obtain ⟨⟨p, l, e, R, s, m, args, below, meth, c⟩, D, ad, cA, A, ⟨kc, ks⟩, Q⟩ := g
  obtain ⟨hx, hb, -⟩ := X
  obtain ⟨d1, rfl⟩ := d
  intro H locs lsa hP hD hS hn hh
  exact lv_imul hx hb d1 (k H locs lsa hP hD hS hn hh)
theorem zw_iand {x y : Int32} (X : CX g M) (d : Dc M pc pc1 .iand 1) (k : ZW g pc1 ls (.int (x &&& y) :: st) σ) : ZW g pc ls (.int y :: .int x :: st) σ := by
  obtain ⟨⟨p, l, e, R, s, m, args, below, meth, c⟩, D, ad, cA, A, ⟨kc, ks⟩, Q⟩ := g
  obtain ⟨hx, hb, -⟩ := X
  obtain ⟨d1, rfl⟩ := d
  intro H locs lsa hP hD hS hn hh
  exact lv_iand hx hb d1 (k H locs lsa hP hD hS hn hh)
theorem zw_ior {x y : Int32} (X : CX g M) (d : Dc M pc pc1 .ior 1) (k : ZW g pc1 ls (.int (x ||| y) :: st) σ) : ZW g pc ls (.int y :: .int x :: st) σ := by
  obtain ⟨⟨p, l, e, R, s, m, args, below, meth, c⟩, D, ad, cA, A, ⟨kc, ks⟩, Q⟩ := g
  obtain ⟨hx, hb, -⟩ := X
  obtain ⟨d1, rfl⟩ := d
  intro H locs lsa hP hD hS hn hh
  exact lv_ior hx hb d1 (k H locs lsa hP hD hS hn hh)
theorem zw_ixor {x y : Int32} (X : CX g M) (d : Dc M pc pc1 .ixor 1) (k : ZW g pc1 ls (.int (x ^^^ y) :: st) σ) : ZW g pc ls (.int y :: .int x :: st) σ := by
  obtain ⟨⟨p, l, e, R, s, m, args, below, meth, c⟩, D, ad, cA, A, ⟨kc, ks⟩, Q⟩ := g
  obtain ⟨hx, hb, -⟩ := X
  obtain ⟨d1, rfl⟩ := d
  intro H locs lsa hP hD hS hn hh
  exact lv_ixor hx hb d1 (k H locs lsa hP hD hS hn hh)
theorem zw_ishl {x y : Int32} (X : CX g M) (d : Dc M pc pc1 .ishl 1) (k : ZW g pc1 ls (.int (x <<< (y &&& 31)) :: st) σ) : ZW g pc ls (.int y :: .int x :: st) σ := by
  obtain ⟨⟨p, l, e, R, s, m, args, below, meth, c⟩, D, ad, cA, A, ⟨kc, ks⟩, Q⟩ := g
  obtain ⟨hx, hb, -⟩ := X
  obtain ⟨d1, rfl⟩ := d
  intro H locs lsa hP hD hS hn hh
  exact lv_ishl hx hb d1 (k H locs lsa hP hD hS hn hh)
theorem zw_ishr {x y : Int32} (X : CX g M) (d : Dc M pc pc1 .ishr 1) (k : ZW g pc1 ls (.int (x >>> (y &&& 31)) :: st) σ) : ZW g pc ls (.int y :: .int x :: st) σ := by
  obtain ⟨⟨p, l, e, R, s, m, args, below, meth, c⟩, D, ad, cA, A, ⟨kc, ks⟩, Q⟩ := g
  obtain ⟨hx, hb, -⟩ := X
  obtain ⟨d1, rfl⟩ := d
  intro H locs lsa hP hD hS hn hh
  exact lv_ishr hx hb d1 (k H locs lsa hP hD hS hn hh)
theorem zw_iushr {x y : Int32} (X : CX g M) (d : Dc M pc pc1 .iushr 1) (k : ZW g pc1 ls (.int (x.toUInt32 >>> (y.toUInt32 &&& Int32.toUInt32 31)).toInt32 :: st) σ) : ZW g pc ls (.int y :: .int x :: st) σ := by
  obtain ⟨⟨p, l, e, R, s, m, args, below, meth, c⟩, D, ad, cA, A, ⟨kc, ks⟩, Q⟩ := g
  obtain ⟨hx, hb, -⟩ := X
  obtain ⟨d1, rfl⟩ := d
  intro H locs lsa hP hD hS hn hh
  exact lv_iushr hx hb d1 rfl (k H locs lsa hP hD hS hn hh)
theorem zw_idiv {x y : Int32} (X : CX g M) (d : Dc M pc pc1 .idiv 1) (hne : ¬ y = 0) (k : ZW g pc1 ls (.int (x / y) :: st) σ) : ZW g pc ls (.int y :: .int x :: st) σ := by
  obtain ⟨⟨p, l, e, R, s, m, args, below, meth, c⟩, D, ad, cA, A, ⟨kc, ks⟩, Q⟩ := g
  obtain ⟨hx, hb, -⟩ := X
  obtain ⟨d1, rfl⟩ := d
  intro H locs lsa hP hD hS hn hh
  exact lv_idiv hx hb d1 hne (k H locs lsa hP hD hS hn hh)
theorem zw_irem {x y : Int32} (X : CX g M) (d : Dc M pc pc1 .irem 1) (hne : ¬ y = 0) (k : ZW g pc1 ls (.int (x - x / y * y) :: st) σ) : ZW g pc ls (.int y :: .int x :: st) σ := by
  obtain ⟨⟨p, l, e, R, s, m, args, below, meth, c⟩, D, ad, cA, A, ⟨kc, ks⟩, Q⟩ := g
  obtain ⟨hx, hb, -⟩ := X
  obtain ⟨d1, rfl⟩ := d
  intro H locs lsa hP hD hS hn hh
  exact lv_irem hx hb d1 hne (k H locs lsa hP hD hS hn hh)
theorem zw_ineg {x : Int32} (X : CX g M) (d : Dc M pc pc1 .ineg 1) (k : ZW g pc1 ls (.int (-x) :: st) σ) : ZW g pc ls (.int x :: st) σ := by
  obtain ⟨⟨p, l, e, R, s, m, args, below, meth, c⟩, D, ad, cA, A, ⟨kc, ks⟩, Q⟩ := g
  obtain ⟨hx, hb, -⟩ := X
  obtain ⟨d1, rfl⟩ := d
  intro H locs lsa hP hD hS hn hh
  exact lv_ineg hx hb d1 (k H locs lsa hP hD hS hn hh)
theorem zw_ladd {x y : Int64} (X : CX g M) (d : Dc M pc pc1 .ladd 1) (k : ZW g pc1 ls (.long (x + y) :: st) σ) : ZW g pc ls (.long y :: .long x :: st) σ := by
  obtain ⟨⟨p, l, e, R, s, m, args, below, meth, c⟩, D, ad, cA, A, ⟨kc, ks⟩, Q⟩ := g
  obtain ⟨hx, hb, -⟩ := X
  obtain ⟨d1, rfl⟩ := d
  intro H locs lsa hP hD hS hn hh
  exact lv_ladd hx hb d1 (k H locs lsa hP hD hS hn hh)
theorem zw_ldiv {x y : Int64} (X : CX g M) (d : Dc M pc pc1 .ldiv 1) (hne : ¬ y = 0) (k : ZW g pc1 ls (.long (x / y) :: st) σ) : ZW g pc ls (.long y :: .long x :: st) σ := by
  obtain ⟨⟨p, l, e, R, s, m, args, below, meth, c⟩, D, ad, cA, A, ⟨kc, ks⟩, Q⟩ := g
  obtain ⟨hx, hb, -⟩ := X
  obtain ⟨d1, rfl⟩ := d
  intro H locs lsa hP hD hS hn hh
  exact lv_ldiv hx hb d1 hne (k H locs lsa hP hD hS hn hh)
theorem zw_lrem {x y : Int64} (X : CX g M) (d : Dc M pc pc1 .lrem 1) (hne : ¬ y = 0) (k : ZW g pc1 ls (.long (x - x / y * y) :: st) σ) : ZW g pc ls (.long y :: .long x :: st) σ := by
  obtain ⟨⟨p, l, e, R, s, m, args, below, meth, c⟩, D, ad, cA, A, ⟨kc, ks⟩, Q⟩ := g
  obtain ⟨hx, hb, -⟩ := X
  obtain ⟨d1, rfl⟩ := d
  intro H locs lsa hP hD hS hn hh
  exact lv_lrem hx hb d1 hne (k H locs lsa hP hD hS hn hh)
theorem zw_lcmp {x y : Int64} (X : CX g M) (d : Dc M pc pc1 .lcmp 1) (k : ZW g pc1 ls (.int (lg_cmp x y) :: st) σ) : ZW g pc ls (.long y :: .long x :: st) σ := by
  obtain ⟨⟨p, l, e, R, s, m, args, below, meth, c⟩, D, ad, cA, A, ⟨kc, ks⟩, Q⟩ := g
  obtain ⟨hx, hb, -⟩ := X
  obtain ⟨d1, rfl⟩ := d
  intro H locs lsa hP hD hS hn hh
  exact W.lcmp hx hb d1 (k H locs lsa hP hD hS hn hh)
theorem zw_i2l {x : Int32} (X : CX g M) (d : Dc M pc pc1 .i2l 1) (k : ZW g pc1 ls (.long x.toInt64 :: st) σ) : ZW g pc ls (.int x :: st) σ := by
  obtain ⟨⟨p, l, e, R, s, m, args, below, meth, c⟩, D, ad, cA, A, ⟨kc, ks⟩, Q⟩ := g
  obtain ⟨hx, hb, -⟩ := X
  obtain ⟨d1, rfl⟩ := d
  intro H locs lsa hP hD hS hn hh
  exact lv_i2l hx hb d1 rfl (k H locs lsa hP hD hS hn hh)
theorem zw_dup_r {x : Nat} (X : CX g M) (d : Dc M pc pc1 .dup 1) (k : ZW g pc1 ls (.ref x :: .ref x :: st) σ) : ZW g pc ls (.ref x :: st) σ := by
  obtain ⟨⟨p, l, e, R, s, m, args, below, meth, c⟩, D, ad, cA, A, ⟨kc, ks⟩, Q⟩ := g
  obtain ⟨hx, hb, -⟩ := X
  obtain ⟨d1, rfl⟩ := d
  intro H locs lsa hP hD hS hn hh
  exact lv_dup hx hb d1 rfl (k H locs lsa hP hD hS hn hh)
theorem zw_dup_i {x : Int32} (X : CX g M) (d : Dc M pc pc1 .dup 1) (k : ZW g pc1 ls (.int x :: .int x :: st) σ) : ZW g pc ls (.int x :: st) σ := by
  obtain ⟨⟨p, l, e, R, s, m, args, below, meth, c⟩, D, ad, cA, A, ⟨kc, ks⟩, Q⟩ := g
  obtain ⟨hx, hb, -⟩ := X
  obtain ⟨d1, rfl⟩ := d
  intro H locs lsa hP hD hS hn hh
  exact lv_dup hx hb d1 rfl (k H locs lsa hP hD hS hn hh)
theorem zw_pop_i {x : Int32} (X : CX g M) (d : Dc M pc pc1 .pop 1) (k : ZW g pc1 ls (st) σ) : ZW g pc ls (.int x :: st) σ := by
  obtain ⟨⟨p, l, e, R, s, m, args, below, meth, c⟩, D, ad, cA, A, ⟨kc, ks⟩, Q⟩ := g
  obtain ⟨hx, hb, -⟩ := X
  obtain ⟨d1, rfl⟩ := d
  intro H locs lsa hP hD hS hn hh
  exact lv_pop hx hb d1 rfl (k H locs lsa hP hD hS hn hh)
theorem zw_dup2_ir {x : Int32} {y : Nat} (X : CX g M) (d : Dc M pc pc1 .dup2 1) (k : ZW g pc1 ls (.int x :: .ref y :: .int x :: .ref y :: st) σ) : ZW g pc ls (.int x :: .ref y :: st) σ := by
  obtain ⟨⟨p, l, e, R, s, m, args, below, meth, c⟩, D, ad, cA, A, ⟨kc, ks⟩, Q⟩ := g
  obtain ⟨hx, hb, -⟩ := X
  obtain ⟨d1, rfl⟩ := d
  intro H locs lsa hP hD hS hn hh
  exact lv_dup2_11 hx hb d1 rfl rfl (k H locs lsa hP hD hS hn hh)
theorem zw_icmpeq {x y : Int32} {off : Int} {tgt : Nat} (X : CX g M) (d : Dc M pc pc1 (.if_icmp .eq off) 3) (ht : (pc : Int) + off = (tgt : Int)) (kt : x = y → ZW g tgt ls st σ) (kf : ¬ x = y → ZW g pc1 ls st σ) : ZW g pc ls (.int y :: .int x :: st) σ := by
  obtain ⟨⟨p, l, e, R, s, m, args, below, meth, c⟩, D, ad, cA, A, ⟨kc, ks⟩, Q⟩ := g
  obtain ⟨hx, hb, -⟩ := X
  obtain ⟨d1, rfl⟩ := d
  intro H locs lsa hP hD hS hn hh
  exact lv_icmp_eq hx hb d1 ht (fun h => kt h H locs lsa hP hD hS hn hh) (fun h => kf h H locs lsa hP hD hS hn hh)
theorem zw_ifeq {x : Int32} {off : Int} {tgt : Nat} (X : CX g M) (d : Dc M pc pc1 (.ifCond .eq off) 3) (ht : (pc : Int) + off = (tgt : Int)) (kt : x = 0 → ZW g tgt ls st σ) (kf : ¬ x = 0 → ZW g pc1 ls st σ) : ZW g pc ls (.int x :: st) σ := by
  obtain ⟨⟨p, l, e, R, s, m, args, below, meth, c⟩, D, ad, cA, A, ⟨kc, ks⟩, Q⟩ := g
  obtain ⟨hx, hb, -⟩ := X
  obtain ⟨d1, rfl⟩ := d
  intro H locs lsa hP hD hS hn hh
  exact lv_if_eq hx hb d1 ht (fun h => kt h H locs lsa hP hD hS hn hh) (fun h => kf h H locs lsa hP hD hS hn hh)
theorem zw_icmpne {x y : Int32} {off : Int} {tgt : Nat} (X : CX g M) (d : Dc M pc pc1 (.if_icmp .ne off) 3) (ht : (pc : Int) + off = (tgt : Int)) (kt : ¬ x = y → ZW g tgt ls st σ) (kf : x = y → ZW g pc1 ls st σ) : ZW g pc ls (.int y :: .int x :: st) σ := by
  obtain ⟨⟨p, l, e, R, s, m, args, below, meth, c⟩, D, ad, cA, A, ⟨kc, ks⟩, Q⟩ := g
  obtain ⟨hx, hb, -⟩ := X
  obtain ⟨d1, rfl⟩ := d
  intro H locs lsa hP hD hS hn hh
  exact lv_icmp_ne hx hb d1 ht (fun h => kt h H locs lsa hP hD hS hn hh) (fun h => kf h H locs lsa hP hD hS hn hh)
theorem zw_ifne {x : Int32} {off : Int} {tgt : Nat} (X : CX g M) (d : Dc M pc pc1 (.ifCond .ne off) 3) (ht : (pc : Int) + off = (tgt : Int)) (kt : ¬ x = 0 → ZW g tgt ls st σ) (kf : x = 0 → ZW g pc1 ls st σ) : ZW g pc ls (.int x :: st) σ := by
  obtain ⟨⟨p, l, e, R, s, m, args, below, meth, c⟩, D, ad, cA, A, ⟨kc, ks⟩, Q⟩ := g
  obtain ⟨hx, hb, -⟩ := X
  obtain ⟨d1, rfl⟩ := d
  intro H locs lsa hP hD hS hn hh
  exact lv_if_ne hx hb d1 ht (fun h => kt h H locs lsa hP hD hS hn hh) (fun h => kf h H locs lsa hP hD hS hn hh)
theorem zw_icmplt {x y : Int32} {off : Int} {tgt : Nat} (X : CX g M) (d : Dc M pc pc1 (.if_icmp .lt off) 3) (ht : (pc : Int) + off = (tgt : Int)) (kt : x < y → ZW g tgt ls st σ) (kf : ¬ x < y → ZW g pc1 ls st σ) : ZW g pc ls (.int y :: .int x :: st) σ := by
  obtain ⟨⟨p, l, e, R, s, m, args, below, meth, c⟩, D, ad, cA, A, ⟨kc, ks⟩, Q⟩ := g
  obtain ⟨hx, hb, -⟩ := X
  obtain ⟨d1, rfl⟩ := d
  intro H locs lsa hP hD hS hn hh
  exact lv_icmp_lt hx hb d1 ht (fun h => kt h H locs lsa hP hD hS hn hh) (fun h => kf h H locs lsa hP hD hS hn hh)
theorem zw_iflt {x : Int32} {off : Int} {tgt : Nat} (X : CX g M) (d : Dc M pc pc1 (.ifCond .lt off) 3) (ht : (pc : Int) + off = (tgt : Int)) (kt : x < 0 → ZW g tgt ls st σ) (kf : ¬ x < 0 → ZW g pc1 ls st σ) : ZW g pc ls (.int x :: st) σ := by
  obtain ⟨⟨p, l, e, R, s, m, args, below, meth, c⟩, D, ad, cA, A, ⟨kc, ks⟩, Q⟩ := g
  obtain ⟨hx, hb, -⟩ := X
  obtain ⟨d1, rfl⟩ := d
  intro H locs lsa hP hD hS hn hh
  exact lv_if_lt hx hb d1 ht (fun h => kt h H locs lsa hP hD hS hn hh) (fun h => kf h H locs lsa hP hD hS hn hh)
theorem zw_icmpgt {x y : Int32} {off : Int} {tgt : Nat} (X : CX g M) (d : Dc M pc pc1 (.if_icmp .gt off) 3) (ht : (pc : Int) + off = (tgt : Int)) (kt : y < x → ZW g tgt ls st σ) (kf : ¬ y < x → ZW g pc1 ls st σ) : ZW g pc ls (.int y :: .int x :: st) σ := by
  obtain ⟨⟨p, l, e, R, s, m, args, below, meth, c⟩, D, ad, cA, A, ⟨kc, ks⟩, Q⟩ := g
  obtain ⟨hx, hb, -⟩ := X
  obtain ⟨d1, rfl⟩ := d
  intro H locs lsa hP hD hS hn hh
  exact lv_icmp_gt hx hb d1 ht (fun h => kt h H locs lsa hP hD hS hn hh) (fun h => kf h H locs lsa hP hD hS hn hh)
theorem zw_ifgt {x : Int32} {off : Int} {tgt : Nat} (X : CX g M) (d : Dc M pc pc1 (.ifCond .gt off) 3) (ht : (pc : Int) + off = (tgt : Int)) (kt : 0 < x → ZW g tgt ls st σ) (kf : ¬ 0 < x → ZW g pc1 ls st σ) : ZW g pc ls (.int x :: st) σ := by
  obtain ⟨⟨p, l, e, R, s, m, args, below, meth, c⟩, D, ad, cA, A, ⟨kc, ks⟩, Q⟩ := g
  obtain ⟨hx, hb, -⟩ := X
  obtain ⟨d1, rfl⟩ := d
  intro H locs lsa hP hD hS hn hh
  exact lv_if_gt hx hb d1 ht (fun h => kt h H locs lsa hP hD hS hn hh) (fun h => kf h H locs lsa hP hD hS hn hh)
theorem zw_icmpge {x y : Int32} {off : Int} {tgt : Nat} (X : CX g M) (d : Dc M pc pc1 (.if_icmp .ge off) 3) (ht : (pc : Int) + off = (tgt : Int)) (kt : ¬ x < y → ZW g tgt ls st σ) (kf : x < y → ZW g pc1 ls st σ) : ZW g pc ls (.int y :: .int x :: st) σ := by
  obtain ⟨⟨p, l, e, R, s, m, args, below, meth, c⟩, D, ad, cA, A, ⟨kc, ks⟩, Q⟩ := g
  obtain ⟨hx, hb, -⟩ := X
  obtain ⟨d1, rfl⟩ := d
  intro H locs lsa hP hD hS hn hh
  exact lv_icmp_ge hx hb d1 ht (fun h => kt (fun q => Int32.not_lt.mpr h q) H locs lsa hP hD hS hn hh) (fun h => kf (Int32.not_le.mp h) H locs lsa hP hD hS hn hh)
theorem zw_ifge {x : Int32} {off : Int} {tgt : Nat} (X : CX g M) (d : Dc M pc pc1 (.ifCond .ge off) 3) (ht : (pc : Int) + off = (tgt : Int)) (kt : ¬ x < 0 → ZW g tgt ls st σ) (kf : x < 0 → ZW g pc1 ls st σ) : ZW g pc ls (.int x :: st) σ := by
  obtain ⟨⟨p, l, e, R, s, m, args, below, meth, c⟩, D, ad, cA, A, ⟨kc, ks⟩, Q⟩ := g
  obtain ⟨hx, hb, -⟩ := X
  obtain ⟨d1, rfl⟩ := d
  intro H locs lsa hP hD hS hn hh
  exact lv_if_ge hx hb d1 ht (fun h => kt (fun q => Int32.not_lt.mpr h q) H locs lsa hP hD hS hn hh) (fun h => kf (Int32.not_le.mp h) H locs lsa hP hD hS hn hh)
theorem zw_icmple {x y : Int32} {off : Int} {tgt : Nat} (X : CX g M) (d : Dc M pc pc1 (.if_icmp .le off) 3) (ht : (pc : Int) + off = (tgt : Int)) (kt : ¬ y < x → ZW g tgt ls st σ) (kf : y < x → ZW g pc1 ls st σ) : ZW g pc ls (.int y :: .int x :: st) σ := by
  obtain ⟨⟨p, l, e, R, s, m, args, below, meth, c⟩, D, ad, cA, A, ⟨kc, ks⟩, Q⟩ := g
  obtain ⟨hx, hb, -⟩ := X
  obtain ⟨d1, rfl⟩ := d
  intro H locs lsa hP hD hS hn hh
  exact lv_icmp_le hx hb d1 ht (fun h => kt (fun q => Int32.not_lt.mpr h q) H locs lsa hP hD hS hn hh) (fun h => kf (Int32.not_le.mp h) H locs lsa hP hD hS hn hh)
theorem zw_ifle {x : Int32} {off : Int} {tgt : Nat} (X : CX g M) (d : Dc M pc pc1 (.ifCond .le off) 3) (ht : (pc : Int) + off = (tgt : Int)) (kt : ¬ 0 < x → ZW g tgt ls st σ) (kf : 0 < x → ZW g pc1 ls st σ) : ZW g pc ls (.int x :: st) σ := by
  obtain ⟨⟨p, l, e, R, s, m, args, below, meth, c⟩, D, ad, cA, A, ⟨kc, ks⟩, Q⟩ := g
  obtain ⟨hx, hb, -⟩ := X
  obtain ⟨d1, rfl⟩ := d
  intro H locs lsa hP hD hS hn hh
  exact lv_if_le hx hb d1 ht (fun h => kt (fun q => Int32.not_lt.mpr h q) H locs lsa hP hD hS hn hh) (fun h => kf (Int32.not_le.mp h) H locs lsa hP hD hS hn hh)
theorem zw_goto {off : Int} {tgt : Nat} (X : CX g M) (d : Dc M pc pc1 (.goto off) 3) (ht : (pc : Int) + off = (tgt : Int)) (k : ZW g tgt ls st σ) : ZW g pc ls st σ := by
  obtain ⟨⟨p, l, e, R, s, m, args, below, meth, c⟩, D, ad, cA, A, ⟨kc, ks⟩, Q⟩ := g
  obtain ⟨hx, hb, -⟩ := X
  obtain ⟨d1, rfl⟩ := d
  intro H locs lsa hP hD hS hn hh
  exact lv_goto hx hb d1 ht (k H locs lsa hP hD hS hn hh)
theorem zw_tabIn {dflt lo hi : Int} {offs : Array Int} {len : Nat} {x : Int32} {off : Int} {tgt : Nat} (X : CX g M) (d : Dc M pc pc1 (.tableswitch dflt lo hi offs) len) (h1 : ¬ x.toInt < lo) (h2 : ¬ hi < x.toInt) (ho : offs[(x.toInt - lo).toNat]? = some off) (ht : (pc : Int) + off = (tgt : Int)) (k : ZW g tgt ls st σ) : ZW g pc ls (.int x :: st) σ := by
  obtain ⟨⟨p, l, e, R, s, m, args, below, meth, c⟩, D, ad, cA, A, ⟨kc, ks⟩, Q⟩ := g
  obtain ⟨hx, hb, -⟩ := X
  obtain ⟨d1, rfl⟩ := d
  intro H locs lsa hP hD hS hn hh
  exact lv_tableIn hx hb d1 h1 h2 ho ht (k H locs lsa hP hD hS hn hh)
theorem zw_tabOut {dflt lo hi : Int} {offs : Array Int} {len : Nat} {x : Int32} {tgt : Nat} (X : CX g M) (d : Dc M pc pc1 (.tableswitch dflt lo hi offs) len) (h : x.toInt < lo ∨ hi < x.toInt) (ht : (pc : Int) + dflt = (tgt : Int)) (k : ZW g tgt ls st σ) : ZW g pc ls (.int x :: st) σ := by
  obtain ⟨⟨p, l, e, R, s, m, args, below, meth, c⟩, D, ad, cA, A, ⟨kc, ks⟩, Q⟩ := g
  obtain ⟨hx, hb, -⟩ := X
  obtain ⟨d1, rfl⟩ := d
  intro H locs lsa hP hD hS hn hh
  exact lv_tableOut hx hb d1 h ht (k H locs lsa hP hD hS hn hh)
theorem zw_ldc {idx : Nat} {v : Int32} (X : CX g M) (d : Dc M pc pc1 (.ldc idx) 2) (hk : Cond.constant (mY M).cls idx v ∈ lw_gd) (k : ZW g pc1 ls (.int v :: st) σ) : ZW g pc ls st σ := by
  obtain ⟨⟨p, l, e, R, s, m, args, below, meth, c⟩, D, ad, cA, A, ⟨kc, ks⟩, Q⟩ := g
  obtain ⟨hx, hb, hml, hown, hts, hN, hK, hA, hR, hRc⟩ := X
  obtain ⟨d1, rfl⟩ := d
  intro H locs lsa hP hD hS hn hh
  exact lv_ldc hx hb hown (hts _ hk) d1 (k H locs lsa hP hD hS hn hh)
theorem zw_ldcw {idx : Nat} {v : Int32} (X : CX g M) (d : Dc M pc pc1 (.ldc_w idx) 3) (hk : Cond.constant (mY M).cls idx v ∈ lw_gd) (k : ZW g pc1 ls (.int v :: st) σ) : ZW g pc ls st σ := by
  obtain ⟨⟨p, l, e, R, s, m, args, below, meth, c⟩, D, ad, cA, A, ⟨kc, ks⟩, Q⟩ := g
  obtain ⟨hx, hb, hml, hown, hts, hN, hK, hA, hR, hRc⟩ := X
  obtain ⟨d1, rfl⟩ := d
  intro H locs lsa hP hD hS hn hh
  exact lv_ldcw hx hb hown (hts _ hk) d1 (k H locs lsa hP hD hS hn hh)
theorem zw_ldc2 {idx : Nat} {v : Int64} (X : CX g M) (d : Dc M pc pc1 (.ldc2_w idx) 3) (hk : Cond.constantLong (mY M).cls idx v ∈ lw_gd) (k : ZW g pc1 ls (.long v :: st) σ) : ZW g pc ls st σ := by
  obtain ⟨⟨p, l, e, R, s, m, args, below, meth, c⟩, D, ad, cA, A, ⟨kc, ks⟩, Q⟩ := g
  obtain ⟨hx, hb, hml, hown, hts, hN, hK, hA, hR, hRc⟩ := X
  obtain ⟨d1, rfl⟩ := d
  intro H locs lsa hP hD hS hn hh
  exact lv_ldc2 hx hb hown (hts _ hk) d1 (k H locs lsa hP hD hS hn hh)
theorem zw_getI {idx ci j p0 : Nat} {kd : List (Option Nat)} (X : CX g M) (d : Dc M pc pc1 (.getfield idx) 3) (f : fLk (mY M).cls idx ci j) (hc : cOk ci) (hs : sh p0 = .inl (ci, kd)) (hj : kd[j]? = some none) (k : ZW g pc1 ls (.int (σ p0 j) :: st) σ) : ZW g pc ls (.ref p0 :: st) σ := by
  obtain ⟨⟨p, l, e, R, s, m, args, below, meth, c⟩, D, ad, cA, A, ⟨kc, ks⟩, Q⟩ := g
  obtain ⟨hx, hb, hml, hown, hts, hN, hK, hA, hR, hRc⟩ := X
  obtain ⟨d1, rfl⟩ := d
  intro H locs lsa hP hD hS hn hh
  obtain ⟨C, T, N, f1, f2, f3, f4⟩ := f
  obtain ⟨C', T', N', ty, g1, g2, g3, g4, -⟩ := hc
  cases f1.symm.trans g1
  subst f3
  exact va_get hx hb hts g2 hown hK hP p0 (wl_obj hs) f1 j f2 (hts _ f4) (fun _ h9 => h9) (v := .int (σ p0 j)) (by rw [fv_at, hj]; simp) d1 (k H locs lsa hP hD hS hn hh)
theorem zw_getR {idx ci j p0 q0 : Nat} {kd : List (Option Nat)} (X : CX g M) (d : Dc M pc pc1 (.getfield idx) 3) (f : fLk (mY M).cls idx ci j) (hc : cOk ci) (hs : sh p0 = .inl (ci, kd)) (hj : kd[j]? = some (some q0)) (k : ZW g pc1 ls (.ref q0 :: st) σ) : ZW g pc ls (.ref p0 :: st) σ := by
  obtain ⟨⟨p, l, e, R, s, m, args, below, meth, c⟩, D, ad, cA, A, ⟨kc, ks⟩, Q⟩ := g
  obtain ⟨hx, hb, hml, hown, hts, hN, hK, hA, hR, hRc⟩ := X
  obtain ⟨d1, rfl⟩ := d
  intro H locs lsa hP hD hS hn hh
  obtain ⟨C, T, N, f1, f2, f3, f4⟩ := f
  obtain ⟨C', T', N', ty, g1, g2, g3, g4, -⟩ := hc
  cases f1.symm.trans g1
  subst f3
  exact va_get hx hb hts g2 hown hK hP p0 (wl_obj hs) f1 j f2 (hts _ f4) (fun _ h9 => h9) (v := .ref (ad q0)) (by rw [fv_at, hj]; simp) d1 (k H locs lsa hP hD hS hn hh)
/-- what field j of class ci is: not final, of type ty -/
def fTy (ci j : Nat) (ty : FieldType) : Prop := ∃ (C : String) (T : u_T) (N : Nat), cls[ci]? = some (C, T, N) ∧ (T j).2.2.2 = false ∧ parseFieldDescriptor (T j).2.2.1 = some ty
theorem zw_putT {idx ci j p0 : Nat} {kd : List (Option Nat)} {x : Int32} (ty : FieldType) (hn1 : narrow ty (.int x) = .int x) (hn2 : fits ty (.int x) = true) (X : CX g M) (d : Dc M pc pc1 (.putfield idx) 3) (f : fLk (mY M).cls idx ci j) (hc : cOk ci) (ht : fTy ci j ty) (hs : sh p0 = .inl (ci, kd)) (hj : kd[j]? = some none) (k : ZW g pc1 ls st (ups σ p0 j x)) : ZW g pc ls (.int x :: .ref p0 :: st) σ := by
  obtain ⟨⟨p, l, e, R, s, m, args, below, meth, c⟩, D, ad, cA, A, ⟨kc, ks⟩, Q⟩ := g
  obtain ⟨hx, hb, hml, hown, hts, hN, hK, hA, hR, hRc⟩ := X
  obtain ⟨d1, rfl⟩ := d
  intro H locs lsa hP hD hS hn hh
  obtain ⟨C, T, N, f1, f2, f3, f4⟩ := f
  obtain ⟨C', T', N', ty0, g1, g2, g3, g4, -⟩ := hc
  obtain ⟨C2, T2, N2, t1, t2, t3⟩ := ht
  cases f1.symm.trans g1
  cases f1.symm.trans t1
  subst f3
  refine va_put hx hb hts g2 ty0 g3 g4 hown hK hP hD hS p0 (wl_obj hs) f1 j f2 (hts _ f4) (fun _ h9 => h9) t2 (v := .int x) t3 hn1 hn2 (by rw [fv_len]; exact (List.getElem?_eq_some_iff.mp hj).1) d1 (fun H1 locs1 hP1 hD1 hS1 => ?_)
  rw [wl_putO hs hj] at hP1 hD1
  exact k H1 locs1 lsa hP1 hD1 hS1 hn hh
theorem zw_put {idx ci j p0 : Nat} {kd : List (Option Nat)} {x : Int32} (X : CX g M) (d : Dc M pc pc1 (.putfield idx) 3) (f : fLk (mY M).cls idx ci j) (hc : cOk ci) (ht : fTy ci j .int) (hs : sh p0 = .inl (ci, kd)) (hj : kd[j]? = some none) (k : ZW g pc1 ls st (ups σ p0 j x)) : ZW g pc ls (.int x :: .ref p0 :: st) σ := zw_putT .int rfl rfl X d f hc ht hs hj k
theorem zw_iald {p0 n : Nat} {i : Int32} (X : CX g M) (d : Dc M pc pc1 .iaload 1) (hs : sh p0 = .inr (n, false)) (hi : vp_in i n) (k : ZW g pc1 ls (.int (σ p0 i.toNatClampNeg) :: st) σ) : ZW g pc ls (.int i :: .ref p0 :: st) σ := by
  obtain ⟨⟨p, l, e, R, s, m, args, below, meth, c⟩, D, ad, cA, A, ⟨kc, ks⟩, Q⟩ := g
  obtain ⟨hx, hb, hml, hown, hts, hN, hK, hA, hR, hRc⟩ := X
  obtain ⟨d1, rfl⟩ := d
  intro H locs lsa hP hD hS hn hh
  have hn0 : 0 < n := by rcases Nat.eq_zero_or_pos n with h | h; (subst h; exact absurd (Or.inr (Nat.zero_le _)) hi); exact h
  exact va_iald hx hb hK hP p0 p0 (wl_arr hs hn0) (ty_arr hs hn0) hi d1 (k H locs lsa hP hD hS hn hh)
theorem zw_zald {p0 n : Nat} {i : Int32} (X : CX g M) (d : Dc M pc pc1 .baload 1) (hs : sh p0 = .inr (n, true)) (hi : vp_in i n) (k : ZW g pc1 ls (.int (σ p0 i.toNatClampNeg) :: st) σ) : ZW g pc ls (.int i :: .ref p0 :: st) σ := by
  obtain ⟨⟨p, l, e, R, s, m, args, below, meth, c⟩, D, ad, cA, A, ⟨kc, ks⟩, Q⟩ := g
  obtain ⟨hx, hb, hml, hown, hts, hN, hK, hA, hR, hRc⟩ := X
  obtain ⟨d1, rfl⟩ := d
  intro H locs lsa hP hD hS hn hh
  have hn0 : 0 < n := by rcases Nat.eq_zero_or_pos n with h | h; (subst h; exact absurd (Or.inr (Nat.zero_le _)) hi); exact h
  exact va_zald hx hb hK hP p0 p0 (wl_arr hs hn0) (ty_arrZ hs) hi d1 (k H locs lsa hP hD hS hn hh)
theorem zw_iast {p0 n : Nat} {i x : Int32} (X : CX g M) (d : Dc M pc pc1 .iastore 1) (hs : sh p0 = .inr (n, false)) (hi : vp_in i n) (k : ZW g pc1 ls st (ups σ p0 i.toNatClampNeg x)) : ZW g pc ls (.int x :: .int i :: .ref p0 :: st) σ := by
  obtain ⟨⟨p, l, e, R, s, m, args, below, meth, c⟩, D, ad, cA, A, ⟨kc, ks⟩, Q⟩ := g
  obtain ⟨hx, hb, hml, hown, hts, hN, hK, hA, hR, hRc⟩ := X
  obtain ⟨d1, rfl⟩ := d
  intro H locs lsa hP hD hS hn hh
  have hn0 : 0 < n := by rcases Nat.eq_zero_or_pos n with h | h; (subst h; exact absurd (Or.inr (Nat.zero_le _)) hi); exact h
  refine va_iast hx hb hK hP hD hS p0 p0 (wl_arr hs hn0) (ty_arr hs hn0) hi d1 (fun H1 locs1 hP1 hD1 hS1 => ?_)
  rw [wl_putA hs] at hP1 hD1
  exact k H1 locs1 lsa hP1 hD1 hS1 hn hh
theorem zw_zast {p0 n : Nat} {i x : Int32} (X : CX g M) (d : Dc M pc pc1 .bastore 1) (hs : sh p0 = .inr (n, true)) (hi : vp_in i n) (hx1 : vp_nar .boolean x = x) (k : ZW g pc1 ls st (ups σ p0 i.toNatClampNeg x)) : ZW g pc ls (.int x :: .int i :: .ref p0 :: st) σ := by
  obtain ⟨⟨p, l, e, R, s, m, args, below, meth, c⟩, D, ad, cA, A, ⟨kc, ks⟩, Q⟩ := g
  obtain ⟨hx, hb, hml, hown, hts, hN, hK, hA, hR, hRc⟩ := X
  obtain ⟨d1, rfl⟩ := d
  intro H locs lsa hP hD hS hn hh
  have hn0 : 0 < n := by rcases Nat.eq_zero_or_pos n with h | h; (subst h; exact absurd (Or.inr (Nat.zero_le _)) hi); exact h
  refine va_zast hx hb hK hP hD hS p0 p0 (wl_arr hs hn0) (ty_arrZ hs) hi d1 (fun H1 locs1 hP1 hD1 hS1 => ?_)
  rw [hx1, wl_putA hs] at hP1 hD1
  exact k H1 locs1 lsa hP1 hD1 hS1 hn hh
theorem zw_ialdN {p0 n i : Nat} (X : CX g M) (d : Dc M pc pc1 .iaload 1) (hs : sh p0 = .inr (n, false)) (hi : i < n) (hn9 : n < 2 ^ 31) (k : ZW g pc1 ls (.int (σ p0 i) :: st) σ) : ZW g pc ls (.int (nI i) :: .ref p0 :: st) σ :=
  zw_iald X d hs (vp_in_nI hi hn9) (by rw [nI_clamp (by omega)]; exact k)
theorem zw_iastN {p0 n i : Nat} {x : Int32} (X : CX g M) (d : Dc M pc pc1 .iastore 1) (hs : sh p0 = .inr (n, false)) (hi : i < n) (hn9 : n < 2 ^ 31) (k : ZW g pc1 ls st (ups σ p0 i x)) : ZW g pc ls (.int x :: .int (nI i) :: .ref p0 :: st) σ :=
  zw_iast X d hs (vp_in_nI hi hn9) (by rw [nI_clamp (by omega)]; exact k)
end ZS
end
section
theorem dX0_keep_0 : Dc MX0_keep 0 1 (.aload_n 0) 1 := ⟨by decide +kernel, rfl⟩
theorem dX0_keep_1 : Dc MX0_keep 1 4 (.getfield 10) 3 := ⟨by decide +kernel, rfl⟩
theorem dX0_keep_4 : Dc MX0_keep 4 5 (.aload_n 1) 1 := ⟨by decide +kernel, rfl⟩
theorem dX0_keep_5 : Dc MX0_keep 5 8 (.invokevirtual 23) 3 := ⟨by decide +kernel, rfl⟩
theorem dX0_keep_8 : Dc MX0_keep 8 9 (.aload_n 0) 1 := ⟨by decide +kernel, rfl⟩
theorem dX0_keep_9 : Dc MX0_keep 9 12 (.getfield 19) 3 := ⟨by decide +kernel, rfl⟩
theorem dX0_keep_12 : Dc MX0_keep 12 13 (.aload_n 2) 1 := ⟨by decide +kernel, rfl⟩
theorem dX0_keep_13 : Dc MX0_keep 13 16 (.invokevirtual 27) 3 := ⟨by decide +kernel, rfl⟩
theorem dX0_keep_16 : Dc MX0_keep 16 17 (.aload_n 0) 1 := ⟨by decide +kernel, rfl⟩
theorem dX0_keep_17 : Dc MX0_keep 17 18 (.iconst 1) 1 := ⟨by decide +kernel, rfl⟩
theorem dX0_keep_18 : Dc MX0_keep 18 21 (.putfield 30) 3 := ⟨by decide +kernel, rfl⟩
theorem dX0_keep_21 : Dc MX0_keep 21 22 (.return_) 1 := ⟨by decide +kernel, rfl⟩
theorem dX0_bringBack_0 : Dc MX0_bringBack 0 1 (.aload_n 0) 1 := ⟨by decide +kernel, rfl⟩
theorem dX0_bringBack_1 : Dc MX0_bringBack 1 4 (.getfield 30) 3 := ⟨by decide +kernel, rfl⟩
theorem dX0_bringBack_4 : Dc MX0_bringBack 4 7 (.ifCond .ne 5) 3 := ⟨by decide +kernel, rfl⟩
theorem dX0_bringBack_7 : Dc MX0_bringBack 7 8 (.iconst 0) 1 := ⟨by decide +kernel, rfl⟩
theorem dX0_bringBack_8 : Dc MX0_bringBack 8 9 (.ireturn) 1 := ⟨by decide +kernel, rfl⟩
theorem dX0_bringBack_9 : Dc MX0_bringBack 9 10 (.aload_n 1) 1 := ⟨by decide +kernel, rfl⟩
theorem dX0_bringBack_10 : Dc MX0_bringBack 10 11 (.aload_n 0) 1 := ⟨by decide +kernel, rfl⟩
theorem dX0_bringBack_11 : Dc MX0_bringBack 11 14 (.getfield 10) 3 := ⟨by decide +kernel, rfl⟩
theorem dX0_bringBack_14 : Dc MX0_bringBack 14 17 (.invokevirtual 23) 3 := ⟨by decide +kernel, rfl⟩
theorem dX0_bringBack_17 : Dc MX0_bringBack 17 18 (.aload_n 2) 1 := ⟨by decide +kernel, rfl⟩
theorem dX0_bringBack_18 : Dc MX0_bringBack 18 19 (.aload_n 0) 1 := ⟨by decide +kernel, rfl⟩
theorem dX0_bringBack_19 : Dc MX0_bringBack 19 22 (.getfield 19) 3 := ⟨by decide +kernel, rfl⟩
theorem dX0_bringBack_22 : Dc MX0_bringBack 22 25 (.invokevirtual 27) 3 := ⟨by decide +kernel, rfl⟩
theorem dX0_bringBack_25 : Dc MX0_bringBack 25 26 (.iconst 1) 1 := ⟨by decide +kernel, rfl⟩
theorem dX0_bringBack_26 : Dc MX0_bringBack 26 27 (.ireturn) 1 := ⟨by decide +kernel, rfl⟩
theorem dX1_write_0 : Dc MX1_write 0 1 (.aload_n 0) 1 := ⟨by decide +kernel, rfl⟩
theorem dX1_write_1 : Dc MX1_write 1 4 (.getfield 15) 3 := ⟨by decide +kernel, rfl⟩
theorem dX1_write_4 : Dc MX1_write 4 7 (.ifCond .lt 12) 3 := ⟨by decide +kernel, rfl⟩
theorem dX1_write_7 : Dc MX1_write 7 8 (.aload_n 0) 1 := ⟨by decide +kernel, rfl⟩
theorem dX1_write_8 : Dc MX1_write 8 11 (.getfield 15) 3 := ⟨by decide +kernel, rfl⟩
theorem dX1_write_11 : Dc MX1_write 11 13 (.bipush 60) 2 := ⟨by decide +kernel, rfl⟩
theorem dX1_write_13 : Dc MX1_write 13 16 (.if_icmp .lt 5) 3 := ⟨by decide +kernel, rfl⟩
theorem dX1_write_16 : Dc MX1_write 16 17 (.iconst 0) 1 := ⟨by decide +kernel, rfl⟩
theorem dX1_write_17 : Dc MX1_write 17 18 (.ireturn) 1 := ⟨by decide +kernel, rfl⟩
theorem dX1_write_18 : Dc MX1_write 18 19 (.aload_n 0) 1 := ⟨by decide +kernel, rfl⟩
theorem dX1_write_19 : Dc MX1_write 19 22 (.getfield 11) 3 := ⟨by decide +kernel, rfl⟩
theorem dX1_write_22 : Dc MX1_write 22 23 (.aload_n 0) 1 := ⟨by decide +kernel, rfl⟩
theorem dX1_write_23 : Dc MX1_write 23 26 (.getfield 15) 3 := ⟨by decide +kernel, rfl⟩
theorem dX1_write_26 : Dc MX1_write 26 27 (.iload_n 1) 1 := ⟨by decide +kernel, rfl⟩
theorem dX1_write_27 : Dc MX1_write 27 28 (.iastore) 1 := ⟨by decide +kernel, rfl⟩
theorem dX1_write_28 : Dc MX1_write 28 29 (.aload_n 0) 1 := ⟨by decide +kernel, rfl⟩
theorem dX1_write_29 : Dc MX1_write 29 30 (.dup) 1 := ⟨by decide +kernel, rfl⟩
theorem dX1_write_30 : Dc MX1_write 30 33 (.getfield 15) 3 := ⟨by decide +kernel, rfl⟩
theorem dX1_write_33 : Dc MX1_write 33 34 (.iconst 1) 1 := ⟨by decide +kernel, rfl⟩
theorem dX1_write_34 : Dc MX1_write 34 35 (.iadd) 1 := ⟨by decide +kernel, rfl⟩
theorem dX1_write_35 : Dc MX1_write 35 38 (.putfield 15) 3 := ⟨by decide +kernel, rfl⟩
theorem dX1_write_38 : Dc MX1_write 38 39 (.iconst 1) 1 := ⟨by decide +kernel, rfl⟩
theorem dX1_write_39 : Dc MX1_write 39 40 (.ireturn) 1 := ⟨by decide +kernel, rfl⟩
theorem dX1_clear_0 : Dc MX1_clear 0 1 (.aload_n 0) 1 := ⟨by decide +kernel, rfl⟩
theorem dX1_clear_1 : Dc MX1_clear 1 4 (.getfield 15) 3 := ⟨by decide +kernel, rfl⟩
theorem dX1_clear_4 : Dc MX1_clear 4 5 (.istore_n 1) 1 := ⟨by decide +kernel, rfl⟩
theorem dX1_clear_5 : Dc MX1_clear 5 6 (.aload_n 0) 1 := ⟨by decide +kernel, rfl⟩
theorem dX1_clear_6 : Dc MX1_clear 6 7 (.iconst 0) 1 := ⟨by decide +kernel, rfl⟩
theorem dX1_clear_7 : Dc MX1_clear 7 10 (.putfield 15) 3 := ⟨by decide +kernel, rfl⟩
theorem dX1_clear_10 : Dc MX1_clear 10 11 (.iload_n 1) 1 := ⟨by decide +kernel, rfl⟩
theorem dX1_clear_11 : Dc MX1_clear 11 12 (.ireturn) 1 := ⟨by decide +kernel, rfl⟩
theorem dX1_signAt_0 : Dc MX1_signAt 0 1 (.iload_n 1) 1 := ⟨by decide +kernel, rfl⟩
theorem dX1_signAt_1 : Dc MX1_signAt 1 4 (.ifCond .lt 26) 3 := ⟨by decide +kernel, rfl⟩
theorem dX1_signAt_4 : Dc MX1_signAt 4 5 (.iload_n 1) 1 := ⟨by decide +kernel, rfl⟩
theorem dX1_signAt_5 : Dc MX1_signAt 5 6 (.aload_n 0) 1 := ⟨by decide +kernel, rfl⟩
theorem dX1_signAt_6 : Dc MX1_signAt 6 9 (.getfield 15) 3 := ⟨by decide +kernel, rfl⟩
theorem dX1_signAt_9 : Dc MX1_signAt 9 12 (.if_icmp .ge 18) 3 := ⟨by decide +kernel, rfl⟩
theorem dX1_signAt_12 : Dc MX1_signAt 12 13 (.iload_n 1) 1 := ⟨by decide +kernel, rfl⟩
theorem dX1_signAt_13 : Dc MX1_signAt 13 15 (.bipush 60) 2 := ⟨by decide +kernel, rfl⟩
theorem dX1_signAt_15 : Dc MX1_signAt 15 18 (.if_icmp .ge 12) 3 := ⟨by decide +kernel, rfl⟩
theorem dX1_signAt_18 : Dc MX1_signAt 18 19 (.aload_n 0) 1 := ⟨by decide +kernel, rfl⟩
theorem dX1_signAt_19 : Dc MX1_signAt 19 22 (.getfield 11) 3 := ⟨by decide +kernel, rfl⟩
theorem dX1_signAt_22 : Dc MX1_signAt 22 23 (.iload_n 1) 1 := ⟨by decide +kernel, rfl⟩
theorem dX1_signAt_23 : Dc MX1_signAt 23 24 (.iaload) 1 := ⟨by decide +kernel, rfl⟩
theorem dX1_signAt_24 : Dc MX1_signAt 24 27 (.goto 4) 3 := ⟨by decide +kernel, rfl⟩
theorem dX1_signAt_27 : Dc MX1_signAt 27 28 (.iconst 0) 1 := ⟨by decide +kernel, rfl⟩
theorem dX1_signAt_28 : Dc MX1_signAt 28 29 (.ireturn) 1 := ⟨by decide +kernel, rfl⟩
theorem dX1_isDigitAt_0 : Dc MX1_isDigitAt 0 1 (.aload_n 0) 1 := ⟨by decide +kernel, rfl⟩
theorem dX1_isDigitAt_1 : Dc MX1_isDigitAt 1 2 (.iload_n 1) 1 := ⟨by decide +kernel, rfl⟩
theorem dX1_isDigitAt_2 : Dc MX1_isDigitAt 2 5 (.invokevirtual 19) 3 := ⟨by decide +kernel, rfl⟩
theorem dX1_isDigitAt_5 : Dc MX1_isDigitAt 5 7 (.bipush 48) 2 := ⟨by decide +kernel, rfl⟩
theorem dX1_isDigitAt_7 : Dc MX1_isDigitAt 7 9 (.bipush 57) 2 := ⟨by decide +kernel, rfl⟩
theorem dX1_isDigitAt_9 : Dc MX1_isDigitAt 9 12 (.invokestatic 23) 3 := ⟨by decide +kernel, rfl⟩
theorem dX1_isDigitAt_12 : Dc MX1_isDigitAt 12 13 (.ireturn) 1 := ⟨by decide +kernel, rfl⟩
theorem dX1_faultPlace_0 : Dc MX1_faultPlace 0 1 (.iconst 0) 1 := ⟨by decide +kernel, rfl⟩
theorem dX1_faultPlace_1 : Dc MX1_faultPlace 1 2 (.istore_n 1) 1 := ⟨by decide +kernel, rfl⟩
theorem dX1_faultPlace_2 : Dc MX1_faultPlace 2 3 (.iconst 0) 1 := ⟨by decide +kernel, rfl⟩
theorem dX1_faultPlace_3 : Dc MX1_faultPlace 3 4 (.istore_n 2) 1 := ⟨by decide +kernel, rfl⟩
theorem dX1_faultPlace_4 : Dc MX1_faultPlace 4 5 (.iload_n 2) 1 := ⟨by decide +kernel, rfl⟩
theorem dX1_faultPlace_5 : Dc MX1_faultPlace 5 6 (.aload_n 0) 1 := ⟨by decide +kernel, rfl⟩
theorem dX1_faultPlace_6 : Dc MX1_faultPlace 6 9 (.getfield 15) 3 := ⟨by decide +kernel, rfl⟩
theorem dX1_faultPlace_9 : Dc MX1_faultPlace 9 12 (.if_icmp .ge 24) 3 := ⟨by decide +kernel, rfl⟩
theorem dX1_faultPlace_12 : Dc MX1_faultPlace 12 13 (.aload_n 0) 1 := ⟨by decide +kernel, rfl⟩
theorem dX1_faultPlace_13 : Dc MX1_faultPlace 13 14 (.iload_n 1) 1 := ⟨by decide +kernel, rfl⟩
theorem dX1_faultPlace_14 : Dc MX1_faultPlace 14 15 (.iload_n 2) 1 := ⟨by decide +kernel, rfl⟩
theorem dX1_faultPlace_15 : Dc MX1_faultPlace 15 18 (.invokevirtual 27) 3 := ⟨by decide +kernel, rfl⟩
theorem dX1_faultPlace_18 : Dc MX1_faultPlace 18 19 (.istore_n 1) 1 := ⟨by decide +kernel, rfl⟩
theorem dX1_faultPlace_19 : Dc MX1_faultPlace 19 20 (.iload_n 1) 1 := ⟨by decide +kernel, rfl⟩
theorem dX1_faultPlace_20 : Dc MX1_faultPlace 20 22 (.bipush (-6)) 2 := ⟨by decide +kernel, rfl⟩
theorem dX1_faultPlace_22 : Dc MX1_faultPlace 22 25 (.if_icmp .ne 5) 3 := ⟨by decide +kernel, rfl⟩
theorem dX1_faultPlace_25 : Dc MX1_faultPlace 25 26 (.iload_n 2) 1 := ⟨by decide +kernel, rfl⟩
theorem dX1_faultPlace_26 : Dc MX1_faultPlace 26 27 (.ireturn) 1 := ⟨by decide +kernel, rfl⟩
theorem dX1_faultPlace_27 : Dc MX1_faultPlace 27 30 (.iinc 2 1) 3 := ⟨by decide +kernel, rfl⟩
theorem dX1_faultPlace_30 : Dc MX1_faultPlace 30 33 (.goto (-26)) 3 := ⟨by decide +kernel, rfl⟩
theorem dX1_faultPlace_33 : Dc MX1_faultPlace 33 34 (.iload_n 1) 1 := ⟨by decide +kernel, rfl⟩
theorem dX1_faultPlace_34 : Dc MX1_faultPlace 34 37 (.ifCond .ne 8) 3 := ⟨by decide +kernel, rfl⟩
theorem dX1_faultPlace_37 : Dc MX1_faultPlace 37 39 (.bipush (-6)) 2 := ⟨by decide +kernel, rfl⟩
theorem dX1_faultPlace_39 : Dc MX1_faultPlace 39 42 (.goto 7) 3 := ⟨by decide +kernel, rfl⟩
theorem dX1_faultPlace_42 : Dc MX1_faultPlace 42 43 (.aload_n 0) 1 := ⟨by decide +kernel, rfl⟩
theorem dX1_faultPlace_43 : Dc MX1_faultPlace 43 46 (.getfield 15) 3 := ⟨by decide +kernel, rfl⟩
theorem dX1_faultPlace_46 : Dc MX1_faultPlace 46 47 (.ireturn) 1 := ⟨by decide +kernel, rfl⟩
theorem dX1_follow_0 : Dc MX1_follow 0 1 (.aload_n 0) 1 := ⟨by decide +kernel, rfl⟩
theorem dX1_follow_1 : Dc MX1_follow 1 2 (.iload_n 2) 1 := ⟨by decide +kernel, rfl⟩
theorem dX1_follow_2 : Dc MX1_follow 2 5 (.invokevirtual 19) 3 := ⟨by decide +kernel, rfl⟩
theorem dX1_follow_5 : Dc MX1_follow 5 6 (.istore_n 3) 1 := ⟨by decide +kernel, rfl⟩
theorem dX1_follow_6 : Dc MX1_follow 6 7 (.iload_n 1) 1 := ⟨by decide +kernel, rfl⟩
theorem dX1_follow_7 : Dc MX1_follow 7 10 (.ifCond .ne 29) 3 := ⟨by decide +kernel, rfl⟩
theorem dX1_follow_10 : Dc MX1_follow 10 11 (.iload_n 3) 1 := ⟨by decide +kernel, rfl⟩
theorem dX1_follow_11 : Dc MX1_follow 11 13 (.bipush 65) 2 := ⟨by decide +kernel, rfl⟩
theorem dX1_follow_13 : Dc MX1_follow 13 15 (.bipush 70) 2 := ⟨by decide +kernel, rfl⟩
theorem dX1_follow_15 : Dc MX1_follow 15 18 (.invokestatic 23) 3 := ⟨by decide +kernel, rfl⟩
theorem dX1_follow_18 : Dc MX1_follow 18 21 (.ifCond .eq 5) 3 := ⟨by decide +kernel, rfl⟩
theorem dX1_follow_21 : Dc MX1_follow 21 22 (.iconst 1) 1 := ⟨by decide +kernel, rfl⟩
theorem dX1_follow_22 : Dc MX1_follow 22 23 (.ireturn) 1 := ⟨by decide +kernel, rfl⟩
theorem dX1_follow_23 : Dc MX1_follow 23 24 (.iload_n 3) 1 := ⟨by decide +kernel, rfl⟩
theorem dX1_follow_24 : Dc MX1_follow 24 26 (.bipush 46) 2 := ⟨by decide +kernel, rfl⟩
theorem dX1_follow_26 : Dc MX1_follow 26 29 (.if_icmp .ne 7) 3 := ⟨by decide +kernel, rfl⟩
theorem dX1_follow_29 : Dc MX1_follow 29 30 (.iconst 0) 1 := ⟨by decide +kernel, rfl⟩
theorem dX1_follow_30 : Dc MX1_follow 30 33 (.goto 5) 3 := ⟨by decide +kernel, rfl⟩
theorem dX1_follow_33 : Dc MX1_follow 33 35 (.bipush (-6)) 2 := ⟨by decide +kernel, rfl⟩
theorem dX1_follow_35 : Dc MX1_follow 35 36 (.ireturn) 1 := ⟨by decide +kernel, rfl⟩
theorem dX1_follow_36 : Dc MX1_follow 36 37 (.aload_n 0) 1 := ⟨by decide +kernel, rfl⟩
theorem dX1_follow_37 : Dc MX1_follow 37 38 (.iload_n 2) 1 := ⟨by decide +kernel, rfl⟩
theorem dX1_follow_38 : Dc MX1_follow 38 41 (.invokevirtual 31) 3 := ⟨by decide +kernel, rfl⟩
theorem dX1_follow_41 : Dc MX1_follow 41 44 (.ifCond .eq 14) 3 := ⟨by decide +kernel, rfl⟩
theorem dX1_follow_44 : Dc MX1_follow 44 45 (.iload_n 1) 1 := ⟨by decide +kernel, rfl⟩
theorem dX1_follow_45 : Dc MX1_follow 45 46 (.iconst 1) 1 := ⟨by decide +kernel, rfl⟩
theorem dX1_follow_46 : Dc MX1_follow 46 49 (.if_icmp .ne 7) 3 := ⟨by decide +kernel, rfl⟩
theorem dX1_follow_49 : Dc MX1_follow 49 50 (.iconst 2) 1 := ⟨by decide +kernel, rfl⟩
theorem dX1_follow_50 : Dc MX1_follow 50 53 (.goto 4) 3 := ⟨by decide +kernel, rfl⟩
theorem dX1_follow_53 : Dc MX1_follow 53 54 (.iconst 0) 1 := ⟨by decide +kernel, rfl⟩
theorem dX1_follow_54 : Dc MX1_follow 54 55 (.ireturn) 1 := ⟨by decide +kernel, rfl⟩
theorem dX1_follow_55 : Dc MX1_follow 55 56 (.iload_n 3) 1 := ⟨by decide +kernel, rfl⟩
theorem dX1_follow_56 : Dc MX1_follow 56 58 (.bipush 99) 2 := ⟨by decide +kernel, rfl⟩
theorem dX1_follow_58 : Dc MX1_follow 58 61 (.if_icmp .eq 15) 3 := ⟨by decide +kernel, rfl⟩
theorem dX1_follow_61 : Dc MX1_follow 61 62 (.iload_n 3) 1 := ⟨by decide +kernel, rfl⟩
theorem dX1_follow_62 : Dc MX1_follow 62 64 (.bipush 115) 2 := ⟨by decide +kernel, rfl⟩
theorem dX1_follow_64 : Dc MX1_follow 64 67 (.if_icmp .eq 9) 3 := ⟨by decide +kernel, rfl⟩
theorem dX1_follow_67 : Dc MX1_follow 67 68 (.iload_n 3) 1 := ⟨by decide +kernel, rfl⟩
theorem dX1_follow_68 : Dc MX1_follow 68 70 (.bipush 104) 2 := ⟨by decide +kernel, rfl⟩
theorem dX1_follow_70 : Dc MX1_follow 70 73 (.if_icmp .ne 7) 3 := ⟨by decide +kernel, rfl⟩
theorem dX1_follow_73 : Dc MX1_follow 73 74 (.iconst 1) 1 := ⟨by decide +kernel, rfl⟩
theorem dX1_follow_74 : Dc MX1_follow 74 77 (.goto 4) 3 := ⟨by decide +kernel, rfl⟩
theorem dX1_follow_77 : Dc MX1_follow 77 78 (.iconst 0) 1 := ⟨by decide +kernel, rfl⟩
theorem dX1_follow_78 : Dc MX1_follow 78 80 (.istore 4) 2 := ⟨by decide +kernel, rfl⟩
theorem dX1_follow_80 : Dc MX1_follow 80 81 (.iload_n 1) 1 := ⟨by decide +kernel, rfl⟩
theorem dX1_follow_81 : Dc MX1_follow 81 82 (.iconst 1) 1 := ⟨by decide +kernel, rfl⟩
theorem dX1_follow_82 : Dc MX1_follow 82 85 (.if_icmp .ne 12) 3 := ⟨by decide +kernel, rfl⟩
theorem dX1_follow_85 : Dc MX1_follow 85 87 (.iload 4) 2 := ⟨by decide +kernel, rfl⟩
theorem dX1_follow_87 : Dc MX1_follow 87 90 (.ifCond .eq 7) 3 := ⟨by decide +kernel, rfl⟩
theorem dX1_follow_90 : Dc MX1_follow 90 91 (.iconst 0) 1 := ⟨by decide +kernel, rfl⟩
theorem dX1_follow_91 : Dc MX1_follow 91 94 (.goto 5) 3 := ⟨by decide +kernel, rfl⟩
theorem dX1_follow_94 : Dc MX1_follow 94 96 (.bipush (-6)) 2 := ⟨by decide +kernel, rfl⟩
theorem dX1_follow_96 : Dc MX1_follow 96 97 (.ireturn) 1 := ⟨by decide +kernel, rfl⟩
theorem dX1_actLength_0 : Dc MX1_actLength 0 1 (.aload_n 0) 1 := ⟨by decide +kernel, rfl⟩
theorem dX1_actLength_1 : Dc MX1_actLength 1 2 (.iload_n 1) 1 := ⟨by decide +kernel, rfl⟩
theorem dX1_actLength_2 : Dc MX1_actLength 2 5 (.invokevirtual 19) 3 := ⟨by decide +kernel, rfl⟩
theorem dX1_actLength_5 : Dc MX1_actLength 5 7 (.bipush 46) 2 := ⟨by decide +kernel, rfl⟩
theorem dX1_actLength_7 : Dc MX1_actLength 7 10 (.if_icmp .ne 5) 3 := ⟨by decide +kernel, rfl⟩
theorem dX1_actLength_10 : Dc MX1_actLength 10 11 (.iconst 1) 1 := ⟨by decide +kernel, rfl⟩
theorem dX1_actLength_11 : Dc MX1_actLength 11 12 (.ireturn) 1 := ⟨by decide +kernel, rfl⟩
theorem dX1_actLength_12 : Dc MX1_actLength 12 13 (.aload_n 0) 1 := ⟨by decide +kernel, rfl⟩
theorem dX1_actLength_13 : Dc MX1_actLength 13 14 (.iload_n 1) 1 := ⟨by decide +kernel, rfl⟩
theorem dX1_actLength_14 : Dc MX1_actLength 14 15 (.iconst 1) 1 := ⟨by decide +kernel, rfl⟩
theorem dX1_actLength_15 : Dc MX1_actLength 15 16 (.iadd) 1 := ⟨by decide +kernel, rfl⟩
theorem dX1_actLength_16 : Dc MX1_actLength 16 19 (.invokevirtual 31) 3 := ⟨by decide +kernel, rfl⟩
theorem dX1_actLength_19 : Dc MX1_actLength 19 22 (.ifCond .eq 7) 3 := ⟨by decide +kernel, rfl⟩
theorem dX1_actLength_22 : Dc MX1_actLength 22 23 (.iconst 3) 1 := ⟨by decide +kernel, rfl⟩
theorem dX1_actLength_23 : Dc MX1_actLength 23 26 (.goto 4) 3 := ⟨by decide +kernel, rfl⟩
theorem dX1_actLength_26 : Dc MX1_actLength 26 27 (.iconst 2) 1 := ⟨by decide +kernel, rfl⟩
theorem dX1_actLength_27 : Dc MX1_actLength 27 28 (.ireturn) 1 := ⟨by decide +kernel, rfl⟩
theorem dX2_settle_0 : Dc MX2_settle 0 1 (.aload_n 0) 1 := ⟨by decide +kernel, rfl⟩
theorem dX2_settle_1 : Dc MX2_settle 1 3 (.bipush 20) 2 := ⟨by decide +kernel, rfl⟩
theorem dX2_settle_3 : Dc MX2_settle 3 6 (.invokevirtual 11) 3 := ⟨by decide +kernel, rfl⟩
theorem dX2_settle_6 : Dc MX2_settle 6 8 (.bipush 19) 2 := ⟨by decide +kernel, rfl⟩
theorem dX2_settle_8 : Dc MX2_settle 8 9 (.istore_n 3) 1 := ⟨by decide +kernel, rfl⟩
theorem dX2_settle_9 : Dc MX2_settle 9 10 (.iload_n 3) 1 := ⟨by decide +kernel, rfl⟩
theorem dX2_settle_10 : Dc MX2_settle 10 13 (.ifCond .lt 48) 3 := ⟨by decide +kernel, rfl⟩
theorem dX2_settle_13 : Dc MX2_settle 13 14 (.iload_n 3) 1 := ⟨by decide +kernel, rfl⟩
theorem dX2_settle_14 : Dc MX2_settle 14 17 (.invokestatic 15) 3 := ⟨by decide +kernel, rfl⟩
theorem dX2_settle_17 : Dc MX2_settle 17 19 (.istore 4) 2 := ⟨by decide +kernel, rfl⟩
theorem dX2_settle_19 : Dc MX2_settle 19 20 (.aload_n 0) 1 := ⟨by decide +kernel, rfl⟩
theorem dX2_settle_20 : Dc MX2_settle 20 22 (.iload 4) 2 := ⟨by decide +kernel, rfl⟩
theorem dX2_settle_22 : Dc MX2_settle 22 24 (.iload 4) 2 := ⟨by decide +kernel, rfl⟩
theorem dX2_settle_24 : Dc MX2_settle 24 27 (.ifCond .ne 7) 3 := ⟨by decide +kernel, rfl⟩
theorem dX2_settle_27 : Dc MX2_settle 27 28 (.iload_n 1) 1 := ⟨by decide +kernel, rfl⟩
theorem dX2_settle_28 : Dc MX2_settle 28 31 (.goto 4) 3 := ⟨by decide +kernel, rfl⟩
theorem dX2_settle_31 : Dc MX2_settle 31 32 (.iload_n 2) 1 := ⟨by decide +kernel, rfl⟩
theorem dX2_settle_32 : Dc MX2_settle 32 35 (.invokevirtual 19) 3 := ⟨by decide +kernel, rfl⟩
theorem dX2_settle_35 : Dc MX2_settle 35 37 (.istore 5) 2 := ⟨by decide +kernel, rfl⟩
theorem dX2_settle_37 : Dc MX2_settle 37 39 (.iload 5) 2 := ⟨by decide +kernel, rfl⟩
theorem dX2_settle_39 : Dc MX2_settle 39 40 (.iload_n 3) 1 := ⟨by decide +kernel, rfl⟩
theorem dX2_settle_40 : Dc MX2_settle 40 43 (.invokestatic 23) 3 := ⟨by decide +kernel, rfl⟩
theorem dX2_settle_43 : Dc MX2_settle 43 44 (.ineg) 1 := ⟨by decide +kernel, rfl⟩
theorem dX2_settle_44 : Dc MX2_settle 44 47 (.if_icmp .gt 8) 3 := ⟨by decide +kernel, rfl⟩
theorem dX2_settle_47 : Dc MX2_settle 47 48 (.aload_n 0) 1 := ⟨by decide +kernel, rfl⟩
theorem dX2_settle_48 : Dc MX2_settle 48 49 (.iload_n 3) 1 := ⟨by decide +kernel, rfl⟩
theorem dX2_settle_49 : Dc MX2_settle 49 52 (.invokevirtual 11) 3 := ⟨by decide +kernel, rfl⟩
theorem dX2_settle_52 : Dc MX2_settle 52 55 (.iinc 3 (-1)) 3 := ⟨by decide +kernel, rfl⟩
theorem dX2_settle_55 : Dc MX2_settle 55 58 (.goto (-46)) 3 := ⟨by decide +kernel, rfl⟩
theorem dX2_settle_58 : Dc MX2_settle 58 59 (.return_) 1 := ⟨by decide +kernel, rfl⟩
theorem dX2_moverBehind_0 : Dc MX2_moverBehind 0 1 (.iload_n 0) 1 := ⟨by decide +kernel, rfl⟩
theorem dX2_moverBehind_1 : Dc MX2_moverBehind 1 2 (.iconst 2) 1 := ⟨by decide +kernel, rfl⟩
theorem dX2_moverBehind_2 : Dc MX2_moverBehind 2 3 (.irem) 1 := ⟨by decide +kernel, rfl⟩
theorem dX2_moverBehind_3 : Dc MX2_moverBehind 3 4 (.ireturn) 1 := ⟨by decide +kernel, rfl⟩
theorem dX2_wordBefore_0 : Dc MX2_wordBefore 0 1 (.iload_n 0) 1 := ⟨by decide +kernel, rfl⟩
theorem dX2_wordBefore_1 : Dc MX2_wordBefore 1 2 (.iconst 1) 1 := ⟨by decide +kernel, rfl⟩
theorem dX2_wordBefore_2 : Dc MX2_wordBefore 2 3 (.isub) 1 := ⟨by decide +kernel, rfl⟩
theorem dX2_wordBefore_3 : Dc MX2_wordBefore 3 4 (.iconst 0) 1 := ⟨by decide +kernel, rfl⟩
theorem dX2_wordBefore_4 : Dc MX2_wordBefore 4 7 (.invokestatic 26) 3 := ⟨by decide +kernel, rfl⟩
theorem dX2_wordBefore_7 : Dc MX2_wordBefore 7 8 (.ireturn) 1 := ⟨by decide +kernel, rfl⟩
theorem dX2_valueFor_0 : Dc MX2_valueFor 0 1 (.aload_n 0) 1 := ⟨by decide +kernel, rfl⟩
theorem dX2_valueFor_1 : Dc MX2_valueFor 1 4 (.getfield 31) 3 := ⟨by decide +kernel, rfl⟩
theorem dX2_valueFor_4 : Dc MX2_valueFor 4 5 (.iload_n 1) 1 := ⟨by decide +kernel, rfl⟩
theorem dX2_valueFor_5 : Dc MX2_valueFor 5 8 (.if_icmp .ne 12) 3 := ⟨by decide +kernel, rfl⟩
theorem dX2_valueFor_8 : Dc MX2_valueFor 8 9 (.iload_n 2) 1 := ⟨by decide +kernel, rfl⟩
theorem dX2_valueFor_9 : Dc MX2_valueFor 9 10 (.aload_n 0) 1 := ⟨by decide +kernel, rfl⟩
theorem dX2_valueFor_10 : Dc MX2_valueFor 10 13 (.getfield 35) 3 := ⟨by decide +kernel, rfl⟩
theorem dX2_valueFor_13 : Dc MX2_valueFor 13 14 (.isub) 1 := ⟨by decide +kernel, rfl⟩
theorem dX2_valueFor_14 : Dc MX2_valueFor 14 17 (.goto 8) 3 := ⟨by decide +kernel, rfl⟩
theorem dX2_valueFor_17 : Dc MX2_valueFor 17 18 (.aload_n 0) 1 := ⟨by decide +kernel, rfl⟩
theorem dX2_valueFor_18 : Dc MX2_valueFor 18 21 (.getfield 38) 3 := ⟨by decide +kernel, rfl⟩
theorem dX2_valueFor_21 : Dc MX2_valueFor 21 22 (.ineg) 1 := ⟨by decide +kernel, rfl⟩
theorem dX2_valueFor_22 : Dc MX2_valueFor 22 23 (.ireturn) 1 := ⟨by decide +kernel, rfl⟩
theorem dX2_leaveOff_0 : Dc MX2_leaveOff 0 1 (.aload_n 0) 1 := ⟨by decide +kernel, rfl⟩
theorem dX2_leaveOff_1 : Dc MX2_leaveOff 1 2 (.iload_n 1) 1 := ⟨by decide +kernel, rfl⟩
theorem dX2_leaveOff_2 : Dc MX2_leaveOff 2 5 (.ifCond .ne 8) 3 := ⟨by decide +kernel, rfl⟩
theorem dX2_leaveOff_5 : Dc MX2_leaveOff 5 7 (.bipush (-6)) 2 := ⟨by decide +kernel, rfl⟩
theorem dX2_leaveOff_7 : Dc MX2_leaveOff 7 10 (.goto 9) 3 := ⟨by decide +kernel, rfl⟩
theorem dX2_leaveOff_10 : Dc MX2_leaveOff 10 11 (.iconst 1) 1 := ⟨by decide +kernel, rfl⟩
theorem dX2_leaveOff_11 : Dc MX2_leaveOff 11 12 (.iload_n 1) 1 := ⟨by decide +kernel, rfl⟩
theorem dX2_leaveOff_12 : Dc MX2_leaveOff 12 15 (.invokestatic 15) 3 := ⟨by decide +kernel, rfl⟩
theorem dX2_leaveOff_15 : Dc MX2_leaveOff 15 16 (.isub) 1 := ⟨by decide +kernel, rfl⟩
theorem dX2_leaveOff_16 : Dc MX2_leaveOff 16 19 (.putfield 31) 3 := ⟨by decide +kernel, rfl⟩
theorem dX2_leaveOff_19 : Dc MX2_leaveOff 19 20 (.aload_n 0) 1 := ⟨by decide +kernel, rfl⟩
theorem dX2_leaveOff_20 : Dc MX2_leaveOff 20 21 (.iload_n 1) 1 := ⟨by decide +kernel, rfl⟩
theorem dX2_leaveOff_21 : Dc MX2_leaveOff 21 24 (.ifCond .ne 8) 3 := ⟨by decide +kernel, rfl⟩
theorem dX2_leaveOff_24 : Dc MX2_leaveOff 24 26 (.bipush (-6)) 2 := ⟨by decide +kernel, rfl⟩
theorem dX2_leaveOff_26 : Dc MX2_leaveOff 26 29 (.goto 4) 3 := ⟨by decide +kernel, rfl⟩
theorem dX2_leaveOff_29 : Dc MX2_leaveOff 29 30 (.iload_n 1) 1 := ⟨by decide +kernel, rfl⟩
theorem dX2_leaveOff_30 : Dc MX2_leaveOff 30 33 (.putfield 35) 3 := ⟨by decide +kernel, rfl⟩
theorem dX2_leaveOff_33 : Dc MX2_leaveOff 33 34 (.aload_n 0) 1 := ⟨by decide +kernel, rfl⟩
theorem dX2_leaveOff_34 : Dc MX2_leaveOff 34 35 (.iload_n 1) 1 := ⟨by decide +kernel, rfl⟩
theorem dX2_leaveOff_35 : Dc MX2_leaveOff 35 38 (.invokestatic 23) 3 := ⟨by decide +kernel, rfl⟩
theorem dX2_leaveOff_38 : Dc MX2_leaveOff 38 41 (.putfield 38) 3 := ⟨by decide +kernel, rfl⟩
theorem dX2_leaveOff_41 : Dc MX2_leaveOff 41 42 (.return_) 1 := ⟨by decide +kernel, rfl⟩
theorem dX3_countWays_0 : Dc MX3_countWays 0 1 (.aload_n 0) 1 := ⟨by decide +kernel, rfl⟩
theorem dX3_countWays_1 : Dc MX3_countWays 1 2 (.iconst 0) 1 := ⟨by decide +kernel, rfl⟩
theorem dX3_countWays_2 : Dc MX3_countWays 2 5 (.putfield 15) 3 := ⟨by decide +kernel, rfl⟩
theorem dX3_countWays_5 : Dc MX3_countWays 5 6 (.aload_n 0) 1 := ⟨by decide +kernel, rfl⟩
theorem dX3_countWays_6 : Dc MX3_countWays 6 8 (.bipush (-6)) 2 := ⟨by decide +kernel, rfl⟩
theorem dX3_countWays_8 : Dc MX3_countWays 8 11 (.putfield 19) 3 := ⟨by decide +kernel, rfl⟩
theorem dX3_countWays_11 : Dc MX3_countWays 11 12 (.aload_n 0) 1 := ⟨by decide +kernel, rfl⟩
theorem dX3_countWays_12 : Dc MX3_countWays 12 13 (.aload_n 1) 1 := ⟨by decide +kernel, rfl⟩
theorem dX3_countWays_13 : Dc MX3_countWays 13 16 (.invokevirtual 22) 3 := ⟨by decide +kernel, rfl⟩
theorem dX3_countWays_16 : Dc MX3_countWays 16 19 (.putfield 28) 3 := ⟨by decide +kernel, rfl⟩
theorem dX3_countWays_19 : Dc MX3_countWays 19 20 (.aload_n 1) 1 := ⟨by decide +kernel, rfl⟩
theorem dX3_countWays_20 : Dc MX3_countWays 20 23 (.invokestatic 31) 3 := ⟨by decide +kernel, rfl⟩
theorem dX3_countWays_23 : Dc MX3_countWays 23 25 (.istore 4) 2 := ⟨by decide +kernel, rfl⟩
theorem dX3_countWays_25 : Dc MX3_countWays 25 26 (.iload_n 3) 1 := ⟨by decide +kernel, rfl⟩
theorem dX3_countWays_26 : Dc MX3_countWays 26 28 (.iload 4) 2 := ⟨by decide +kernel, rfl⟩
theorem dX3_countWays_28 : Dc MX3_countWays 28 29 (.iconst (-1)) 1 := ⟨by decide +kernel, rfl⟩
theorem dX3_countWays_29 : Dc MX3_countWays 29 30 (.ixor) 1 := ⟨by decide +kernel, rfl⟩
theorem dX3_countWays_30 : Dc MX3_countWays 30 31 (.iand) 1 := ⟨by decide +kernel, rfl⟩
theorem dX3_countWays_31 : Dc MX3_countWays 31 34 (.ifCond .eq 4) 3 := ⟨by decide +kernel, rfl⟩
theorem dX3_countWays_34 : Dc MX3_countWays 34 35 (.return_) 1 := ⟨by decide +kernel, rfl⟩
theorem dX3_countWays_35 : Dc MX3_countWays 35 36 (.iload_n 2) 1 := ⟨by decide +kernel, rfl⟩
theorem dX3_countWays_36 : Dc MX3_countWays 36 38 (.iload 4) 2 := ⟨by decide +kernel, rfl⟩
theorem dX3_countWays_38 : Dc MX3_countWays 38 39 (.iand) 1 := ⟨by decide +kernel, rfl⟩
theorem dX3_countWays_39 : Dc MX3_countWays 39 41 (.istore 5) 2 := ⟨by decide +kernel, rfl⟩
theorem dX3_countWays_41 : Dc MX3_countWays 41 42 (.aload_n 0) 1 := ⟨by decide +kernel, rfl⟩
theorem dX3_countWays_42 : Dc MX3_countWays 42 45 (.invokevirtual 35) 3 := ⟨by decide +kernel, rfl⟩
theorem dX3_countWays_45 : Dc MX3_countWays 45 47 (.istore 6) 2 := ⟨by decide +kernel, rfl⟩
theorem dX3_countWays_47 : Dc MX3_countWays 47 48 (.iconst 0) 1 := ⟨by decide +kernel, rfl⟩
theorem dX3_countWays_48 : Dc MX3_countWays 48 50 (.istore 7) 2 := ⟨by decide +kernel, rfl⟩
theorem dX3_countWays_50 : Dc MX3_countWays 50 52 (.iload 7) 2 := ⟨by decide +kernel, rfl⟩
theorem dX3_countWays_52 : Dc MX3_countWays 52 54 (.iload 6) 2 := ⟨by decide +kernel, rfl⟩
theorem dX3_countWays_54 : Dc MX3_countWays 54 57 (.if_icmp .ge 70) 3 := ⟨by decide +kernel, rfl⟩
theorem dX3_countWays_57 : Dc MX3_countWays 57 58 (.aload_n 0) 1 := ⟨by decide +kernel, rfl⟩
theorem dX3_countWays_58 : Dc MX3_countWays 58 60 (.iload 7) 2 := ⟨by decide +kernel, rfl⟩
theorem dX3_countWays_60 : Dc MX3_countWays 60 63 (.invokevirtual 38) 3 := ⟨by decide +kernel, rfl⟩
theorem dX3_countWays_63 : Dc MX3_countWays 63 64 (.aload_n 0) 1 := ⟨by decide +kernel, rfl⟩
theorem dX3_countWays_64 : Dc MX3_countWays 64 67 (.invokevirtual 42) 3 := ⟨by decide +kernel, rfl⟩
theorem dX3_countWays_67 : Dc MX3_countWays 67 69 (.istore 8) 2 := ⟨by decide +kernel, rfl⟩
theorem dX3_countWays_69 : Dc MX3_countWays 69 71 (.iload 8) 2 := ⟨by decide +kernel, rfl⟩
theorem dX3_countWays_71 : Dc MX3_countWays 71 73 (.iload 5) 2 := ⟨by decide +kernel, rfl⟩
theorem dX3_countWays_73 : Dc MX3_countWays 73 74 (.iand) 1 := ⟨by decide +kernel, rfl⟩
theorem dX3_countWays_74 : Dc MX3_countWays 74 77 (.ifCond .ne 44) 3 := ⟨by decide +kernel, rfl⟩
theorem dX3_countWays_77 : Dc MX3_countWays 77 78 (.iload_n 3) 1 := ⟨by decide +kernel, rfl⟩
theorem dX3_countWays_78 : Dc MX3_countWays 78 80 (.iload 8) 2 := ⟨by decide +kernel, rfl⟩
theorem dX3_countWays_80 : Dc MX3_countWays 80 81 (.iconst (-1)) 1 := ⟨by decide +kernel, rfl⟩
theorem dX3_countWays_81 : Dc MX3_countWays 81 82 (.ixor) 1 := ⟨by decide +kernel, rfl⟩
theorem dX3_countWays_82 : Dc MX3_countWays 82 83 (.iand) 1 := ⟨by decide +kernel, rfl⟩
theorem dX3_countWays_83 : Dc MX3_countWays 83 86 (.ifCond .ne 35) 3 := ⟨by decide +kernel, rfl⟩
theorem dX3_countWays_86 : Dc MX3_countWays 86 87 (.aload_n 0) 1 := ⟨by decide +kernel, rfl⟩
theorem dX3_countWays_87 : Dc MX3_countWays 87 88 (.aload_n 0) 1 := ⟨by decide +kernel, rfl⟩
theorem dX3_countWays_88 : Dc MX3_countWays 88 91 (.getfield 15) 3 := ⟨by decide +kernel, rfl⟩
theorem dX3_countWays_91 : Dc MX3_countWays 91 94 (.ifCond .ne 10) 3 := ⟨by decide +kernel, rfl⟩
theorem dX3_countWays_94 : Dc MX3_countWays 94 95 (.aload_n 0) 1 := ⟨by decide +kernel, rfl⟩
theorem dX3_countWays_95 : Dc MX3_countWays 95 98 (.invokevirtual 45) 3 := ⟨by decide +kernel, rfl⟩
theorem dX3_countWays_98 : Dc MX3_countWays 98 101 (.goto 7) 3 := ⟨by decide +kernel, rfl⟩
theorem dX3_countWays_101 : Dc MX3_countWays 101 102 (.aload_n 0) 1 := ⟨by decide +kernel, rfl⟩
theorem dX3_countWays_102 : Dc MX3_countWays 102 105 (.getfield 19) 3 := ⟨by decide +kernel, rfl⟩
theorem dX3_countWays_105 : Dc MX3_countWays 105 108 (.putfield 19) 3 := ⟨by decide +kernel, rfl⟩
theorem dX3_countWays_108 : Dc MX3_countWays 108 109 (.aload_n 0) 1 := ⟨by decide +kernel, rfl⟩
theorem dX3_countWays_109 : Dc MX3_countWays 109 110 (.dup) 1 := ⟨by decide +kernel, rfl⟩
theorem dX3_countWays_110 : Dc MX3_countWays 110 113 (.getfield 15) 3 := ⟨by decide +kernel, rfl⟩
theorem dX3_countWays_113 : Dc MX3_countWays 113 114 (.iconst 1) 1 := ⟨by decide +kernel, rfl⟩
theorem dX3_countWays_114 : Dc MX3_countWays 114 115 (.iadd) 1 := ⟨by decide +kernel, rfl⟩
theorem dX3_countWays_115 : Dc MX3_countWays 115 118 (.putfield 15) 3 := ⟨by decide +kernel, rfl⟩
theorem dX3_countWays_118 : Dc MX3_countWays 118 121 (.iinc 7 1) 3 := ⟨by decide +kernel, rfl⟩
theorem dX3_countWays_121 : Dc MX3_countWays 121 124 (.goto (-71)) 3 := ⟨by decide +kernel, rfl⟩
theorem dX3_countWays_124 : Dc MX3_countWays 124 125 (.return_) 1 := ⟨by decide +kernel, rfl⟩
theorem dX3_isRider_0 : Dc MX3_isRider 0 1 (.aload_n 0) 1 := ⟨by decide +kernel, rfl⟩
theorem dX3_isRider_1 : Dc MX3_isRider 1 4 (.getfield 28) 3 := ⟨by decide +kernel, rfl⟩
theorem dX3_isRider_4 : Dc MX3_isRider 4 5 (.iconst 1) 1 := ⟨by decide +kernel, rfl⟩
theorem dX3_isRider_5 : Dc MX3_isRider 5 6 (.iload_n 1) 1 := ⟨by decide +kernel, rfl⟩
theorem dX3_isRider_6 : Dc MX3_isRider 6 7 (.ishl) 1 := ⟨by decide +kernel, rfl⟩
theorem dX3_isRider_7 : Dc MX3_isRider 7 8 (.iand) 1 := ⟨by decide +kernel, rfl⟩
theorem dX3_isRider_8 : Dc MX3_isRider 8 11 (.ifCond .eq 7) 3 := ⟨by decide +kernel, rfl⟩
theorem dX3_isRider_11 : Dc MX3_isRider 11 12 (.iconst 1) 1 := ⟨by decide +kernel, rfl⟩
theorem dX3_isRider_12 : Dc MX3_isRider 12 15 (.goto 4) 3 := ⟨by decide +kernel, rfl⟩
theorem dX3_isRider_15 : Dc MX3_isRider 15 16 (.iconst 0) 1 := ⟨by decide +kernel, rfl⟩
theorem dX3_isRider_16 : Dc MX3_isRider 16 17 (.ireturn) 1 := ⟨by decide +kernel, rfl⟩
theorem dX3_waysInAll_0 : Dc MX3_waysInAll 0 1 (.iconst 1) 1 := ⟨by decide +kernel, rfl⟩
theorem dX3_waysInAll_1 : Dc MX3_waysInAll 1 2 (.istore_n 1) 1 := ⟨by decide +kernel, rfl⟩
theorem dX3_waysInAll_2 : Dc MX3_waysInAll 2 3 (.iconst 0) 1 := ⟨by decide +kernel, rfl⟩
theorem dX3_waysInAll_3 : Dc MX3_waysInAll 3 4 (.istore_n 2) 1 := ⟨by decide +kernel, rfl⟩
theorem dX3_waysInAll_4 : Dc MX3_waysInAll 4 5 (.iload_n 2) 1 := ⟨by decide +kernel, rfl⟩
theorem dX3_waysInAll_5 : Dc MX3_waysInAll 5 7 (.bipush 6) 2 := ⟨by decide +kernel, rfl⟩
theorem dX3_waysInAll_7 : Dc MX3_waysInAll 7 10 (.if_icmp .ge 25) 3 := ⟨by decide +kernel, rfl⟩
theorem dX3_waysInAll_10 : Dc MX3_waysInAll 10 11 (.iload_n 1) 1 := ⟨by decide +kernel, rfl⟩
theorem dX3_waysInAll_11 : Dc MX3_waysInAll 11 12 (.aload_n 0) 1 := ⟨by decide +kernel, rfl⟩
theorem dX3_waysInAll_12 : Dc MX3_waysInAll 12 13 (.iload_n 2) 1 := ⟨by decide +kernel, rfl⟩
theorem dX3_waysInAll_13 : Dc MX3_waysInAll 13 16 (.invokevirtual 48) 3 := ⟨by decide +kernel, rfl⟩
theorem dX3_waysInAll_16 : Dc MX3_waysInAll 16 19 (.ifCond .eq 7) 3 := ⟨by decide +kernel, rfl⟩
theorem dX3_waysInAll_19 : Dc MX3_waysInAll 19 20 (.iconst 3) 1 := ⟨by decide +kernel, rfl⟩
theorem dX3_waysInAll_20 : Dc MX3_waysInAll 20 23 (.goto 4) 3 := ⟨by decide +kernel, rfl⟩
theorem dX3_waysInAll_23 : Dc MX3_waysInAll 23 24 (.iconst 1) 1 := ⟨by decide +kernel, rfl⟩
theorem dX3_waysInAll_24 : Dc MX3_waysInAll 24 25 (.imul) 1 := ⟨by decide +kernel, rfl⟩
theorem dX3_waysInAll_25 : Dc MX3_waysInAll 25 26 (.istore_n 1) 1 := ⟨by decide +kernel, rfl⟩
theorem dX3_waysInAll_26 : Dc MX3_waysInAll 26 29 (.iinc 2 1) 3 := ⟨by decide +kernel, rfl⟩
theorem dX3_waysInAll_29 : Dc MX3_waysInAll 29 32 (.goto (-25)) 3 := ⟨by decide +kernel, rfl⟩
theorem dX3_waysInAll_32 : Dc MX3_waysInAll 32 33 (.iload_n 1) 1 := ⟨by decide +kernel, rfl⟩
theorem dX3_waysInAll_33 : Dc MX3_waysInAll 33 34 (.ireturn) 1 := ⟨by decide +kernel, rfl⟩
theorem dX3_spread_0 : Dc MX3_spread 0 1 (.iload_n 1) 1 := ⟨by decide +kernel, rfl⟩
theorem dX3_spread_1 : Dc MX3_spread 1 2 (.istore_n 2) 1 := ⟨by decide +kernel, rfl⟩
theorem dX3_spread_2 : Dc MX3_spread 2 3 (.iconst 5) 1 := ⟨by decide +kernel, rfl⟩
theorem dX3_spread_3 : Dc MX3_spread 3 4 (.istore_n 3) 1 := ⟨by decide +kernel, rfl⟩
theorem dX3_spread_4 : Dc MX3_spread 4 5 (.iload_n 3) 1 := ⟨by decide +kernel, rfl⟩
theorem dX3_spread_5 : Dc MX3_spread 5 8 (.ifCond .lt 40) 3 := ⟨by decide +kernel, rfl⟩
theorem dX3_spread_8 : Dc MX3_spread 8 9 (.aload_n 0) 1 := ⟨by decide +kernel, rfl⟩
theorem dX3_spread_9 : Dc MX3_spread 9 10 (.iload_n 3) 1 := ⟨by decide +kernel, rfl⟩
theorem dX3_spread_10 : Dc MX3_spread 10 13 (.invokevirtual 48) 3 := ⟨by decide +kernel, rfl⟩
theorem dX3_spread_13 : Dc MX3_spread 13 16 (.ifCond .eq 19) 3 := ⟨by decide +kernel, rfl⟩
theorem dX3_spread_16 : Dc MX3_spread 16 17 (.aload_n 0) 1 := ⟨by decide +kernel, rfl⟩
theorem dX3_spread_17 : Dc MX3_spread 17 20 (.getfield 9) 3 := ⟨by decide +kernel, rfl⟩
theorem dX3_spread_20 : Dc MX3_spread 20 21 (.iload_n 3) 1 := ⟨by decide +kernel, rfl⟩
theorem dX3_spread_21 : Dc MX3_spread 21 22 (.iload_n 2) 1 := ⟨by decide +kernel, rfl⟩
theorem dX3_spread_22 : Dc MX3_spread 22 23 (.iconst 3) 1 := ⟨by decide +kernel, rfl⟩
theorem dX3_spread_23 : Dc MX3_spread 23 24 (.irem) 1 := ⟨by decide +kernel, rfl⟩
theorem dX3_spread_24 : Dc MX3_spread 24 25 (.iastore) 1 := ⟨by decide +kernel, rfl⟩
theorem dX3_spread_25 : Dc MX3_spread 25 26 (.iload_n 2) 1 := ⟨by decide +kernel, rfl⟩
theorem dX3_spread_26 : Dc MX3_spread 26 27 (.iconst 3) 1 := ⟨by decide +kernel, rfl⟩
theorem dX3_spread_27 : Dc MX3_spread 27 28 (.idiv) 1 := ⟨by decide +kernel, rfl⟩
theorem dX3_spread_28 : Dc MX3_spread 28 29 (.istore_n 2) 1 := ⟨by decide +kernel, rfl⟩
theorem dX3_spread_29 : Dc MX3_spread 29 32 (.goto 10) 3 := ⟨by decide +kernel, rfl⟩
theorem dX3_spread_32 : Dc MX3_spread 32 33 (.aload_n 0) 1 := ⟨by decide +kernel, rfl⟩
theorem dX3_spread_33 : Dc MX3_spread 33 36 (.getfield 9) 3 := ⟨by decide +kernel, rfl⟩
theorem dX3_spread_36 : Dc MX3_spread 36 37 (.iload_n 3) 1 := ⟨by decide +kernel, rfl⟩
theorem dX3_spread_37 : Dc MX3_spread 37 38 (.iconst 3) 1 := ⟨by decide +kernel, rfl⟩
theorem dX3_spread_38 : Dc MX3_spread 38 39 (.iastore) 1 := ⟨by decide +kernel, rfl⟩
theorem dX3_spread_39 : Dc MX3_spread 39 42 (.iinc 3 (-1)) 3 := ⟨by decide +kernel, rfl⟩
theorem dX3_spread_42 : Dc MX3_spread 42 45 (.goto (-38)) 3 := ⟨by decide +kernel, rfl⟩
theorem dX3_spread_45 : Dc MX3_spread 45 46 (.return_) 1 := ⟨by decide +kernel, rfl⟩
theorem dX3_digitsAsNumber_0 : Dc MX3_digitsAsNumber 0 1 (.iconst 0) 1 := ⟨by decide +kernel, rfl⟩
theorem dX3_digitsAsNumber_1 : Dc MX3_digitsAsNumber 1 2 (.istore_n 1) 1 := ⟨by decide +kernel, rfl⟩
theorem dX3_digitsAsNumber_2 : Dc MX3_digitsAsNumber 2 3 (.iconst 0) 1 := ⟨by decide +kernel, rfl⟩
theorem dX3_digitsAsNumber_3 : Dc MX3_digitsAsNumber 3 4 (.istore_n 2) 1 := ⟨by decide +kernel, rfl⟩
theorem dX3_digitsAsNumber_4 : Dc MX3_digitsAsNumber 4 5 (.iload_n 2) 1 := ⟨by decide +kernel, rfl⟩
theorem dX3_digitsAsNumber_5 : Dc MX3_digitsAsNumber 5 7 (.bipush 6) 2 := ⟨by decide +kernel, rfl⟩
theorem dX3_digitsAsNumber_7 : Dc MX3_digitsAsNumber 7 10 (.if_icmp .ge 21) 3 := ⟨by decide +kernel, rfl⟩
theorem dX3_digitsAsNumber_10 : Dc MX3_digitsAsNumber 10 12 (.bipush 10) 2 := ⟨by decide +kernel, rfl⟩
theorem dX3_digitsAsNumber_12 : Dc MX3_digitsAsNumber 12 13 (.iload_n 1) 1 := ⟨by decide +kernel, rfl⟩
theorem dX3_digitsAsNumber_13 : Dc MX3_digitsAsNumber 13 14 (.imul) 1 := ⟨by decide +kernel, rfl⟩
theorem dX3_digitsAsNumber_14 : Dc MX3_digitsAsNumber 14 15 (.aload_n 0) 1 := ⟨by decide +kernel, rfl⟩
theorem dX3_digitsAsNumber_15 : Dc MX3_digitsAsNumber 15 18 (.getfield 9) 3 := ⟨by decide +kernel, rfl⟩
theorem dX3_digitsAsNumber_18 : Dc MX3_digitsAsNumber 18 19 (.iload_n 2) 1 := ⟨by decide +kernel, rfl⟩
theorem dX3_digitsAsNumber_19 : Dc MX3_digitsAsNumber 19 20 (.iaload) 1 := ⟨by decide +kernel, rfl⟩
theorem dX3_digitsAsNumber_20 : Dc MX3_digitsAsNumber 20 21 (.iadd) 1 := ⟨by decide +kernel, rfl⟩
theorem dX3_digitsAsNumber_21 : Dc MX3_digitsAsNumber 21 22 (.istore_n 1) 1 := ⟨by decide +kernel, rfl⟩
theorem dX3_digitsAsNumber_22 : Dc MX3_digitsAsNumber 22 25 (.iinc 2 1) 3 := ⟨by decide +kernel, rfl⟩
theorem dX3_digitsAsNumber_25 : Dc MX3_digitsAsNumber 25 28 (.goto (-21)) 3 := ⟨by decide +kernel, rfl⟩
theorem dX3_digitsAsNumber_28 : Dc MX3_digitsAsNumber 28 29 (.iload_n 1) 1 := ⟨by decide +kernel, rfl⟩
theorem dX3_digitsAsNumber_29 : Dc MX3_digitsAsNumber 29 30 (.ireturn) 1 := ⟨by decide +kernel, rfl⟩
theorem dX3_twosInOneCompartment_0 : Dc MX3_twosInOneCompartment 0 1 (.iconst 0) 1 := ⟨by decide +kernel, rfl⟩
theorem dX3_twosInOneCompartment_1 : Dc MX3_twosInOneCompartment 1 2 (.istore_n 1) 1 := ⟨by decide +kernel, rfl⟩
theorem dX3_twosInOneCompartment_2 : Dc MX3_twosInOneCompartment 2 3 (.iconst 1) 1 := ⟨by decide +kernel, rfl⟩
theorem dX3_twosInOneCompartment_3 : Dc MX3_twosInOneCompartment 3 4 (.istore_n 2) 1 := ⟨by decide +kernel, rfl⟩
theorem dX3_twosInOneCompartment_4 : Dc MX3_twosInOneCompartment 4 5 (.iconst 0) 1 := ⟨by decide +kernel, rfl⟩
theorem dX3_twosInOneCompartment_5 : Dc MX3_twosInOneCompartment 5 6 (.istore_n 3) 1 := ⟨by decide +kernel, rfl⟩
theorem dX3_twosInOneCompartment_6 : Dc MX3_twosInOneCompartment 6 7 (.iload_n 3) 1 := ⟨by decide +kernel, rfl⟩
theorem dX3_twosInOneCompartment_7 : Dc MX3_twosInOneCompartment 7 9 (.bipush 6) 2 := ⟨by decide +kernel, rfl⟩
theorem dX3_twosInOneCompartment_9 : Dc MX3_twosInOneCompartment 9 12 (.if_icmp .ge 55) 3 := ⟨by decide +kernel, rfl⟩
theorem dX3_twosInOneCompartment_12 : Dc MX3_twosInOneCompartment 12 13 (.iload_n 3) 1 := ⟨by decide +kernel, rfl⟩
theorem dX3_twosInOneCompartment_13 : Dc MX3_twosInOneCompartment 13 14 (.iconst 1) 1 := ⟨by decide +kernel, rfl⟩
theorem dX3_twosInOneCompartment_14 : Dc MX3_twosInOneCompartment 14 15 (.iadd) 1 := ⟨by decide +kernel, rfl⟩
theorem dX3_twosInOneCompartment_15 : Dc MX3_twosInOneCompartment 15 17 (.istore 4) 2 := ⟨by decide +kernel, rfl⟩
theorem dX3_twosInOneCompartment_17 : Dc MX3_twosInOneCompartment 17 19 (.iload 4) 2 := ⟨by decide +kernel, rfl⟩
theorem dX3_twosInOneCompartment_19 : Dc MX3_twosInOneCompartment 19 21 (.bipush 6) 2 := ⟨by decide +kernel, rfl⟩
theorem dX3_twosInOneCompartment_21 : Dc MX3_twosInOneCompartment 21 24 (.if_icmp .ge 37) 3 := ⟨by decide +kernel, rfl⟩
theorem dX3_twosInOneCompartment_24 : Dc MX3_twosInOneCompartment 24 25 (.iload_n 1) 1 := ⟨by decide +kernel, rfl⟩
theorem dX3_twosInOneCompartment_25 : Dc MX3_twosInOneCompartment 25 26 (.aload_n 0) 1 := ⟨by decide +kernel, rfl⟩
theorem dX3_twosInOneCompartment_26 : Dc MX3_twosInOneCompartment 26 29 (.getfield 9) 3 := ⟨by decide +kernel, rfl⟩
theorem dX3_twosInOneCompartment_29 : Dc MX3_twosInOneCompartment 29 30 (.iload_n 3) 1 := ⟨by decide +kernel, rfl⟩
theorem dX3_twosInOneCompartment_30 : Dc MX3_twosInOneCompartment 30 31 (.iaload) 1 := ⟨by decide +kernel, rfl⟩
theorem dX3_twosInOneCompartment_31 : Dc MX3_twosInOneCompartment 31 32 (.aload_n 0) 1 := ⟨by decide +kernel, rfl⟩
theorem dX3_twosInOneCompartment_32 : Dc MX3_twosInOneCompartment 32 35 (.getfield 9) 3 := ⟨by decide +kernel, rfl⟩
theorem dX3_twosInOneCompartment_35 : Dc MX3_twosInOneCompartment 35 37 (.iload 4) 2 := ⟨by decide +kernel, rfl⟩
theorem dX3_twosInOneCompartment_37 : Dc MX3_twosInOneCompartment 37 38 (.iaload) 1 := ⟨by decide +kernel, rfl⟩
theorem dX3_twosInOneCompartment_38 : Dc MX3_twosInOneCompartment 38 41 (.if_icmp .ne 7) 3 := ⟨by decide +kernel, rfl⟩
theorem dX3_twosInOneCompartment_41 : Dc MX3_twosInOneCompartment 41 42 (.iload_n 2) 1 := ⟨by decide +kernel, rfl⟩
theorem dX3_twosInOneCompartment_42 : Dc MX3_twosInOneCompartment 42 45 (.goto 4) 3 := ⟨by decide +kernel, rfl⟩
theorem dX3_twosInOneCompartment_45 : Dc MX3_twosInOneCompartment 45 46 (.iconst 0) 1 := ⟨by decide +kernel, rfl⟩
theorem dX3_twosInOneCompartment_46 : Dc MX3_twosInOneCompartment 46 47 (.ior) 1 := ⟨by decide +kernel, rfl⟩
theorem dX3_twosInOneCompartment_47 : Dc MX3_twosInOneCompartment 47 48 (.istore_n 1) 1 := ⟨by decide +kernel, rfl⟩
theorem dX3_twosInOneCompartment_48 : Dc MX3_twosInOneCompartment 48 49 (.iload_n 2) 1 := ⟨by decide +kernel, rfl⟩
theorem dX3_twosInOneCompartment_49 : Dc MX3_twosInOneCompartment 49 50 (.iconst 1) 1 := ⟨by decide +kernel, rfl⟩
theorem dX3_twosInOneCompartment_50 : Dc MX3_twosInOneCompartment 50 51 (.ishl) 1 := ⟨by decide +kernel, rfl⟩
theorem dX3_twosInOneCompartment_51 : Dc MX3_twosInOneCompartment 51 52 (.istore_n 2) 1 := ⟨by decide +kernel, rfl⟩
theorem dX3_twosInOneCompartment_52 : Dc MX3_twosInOneCompartment 52 55 (.iinc 4 1) 3 := ⟨by decide +kernel, rfl⟩
theorem dX3_twosInOneCompartment_55 : Dc MX3_twosInOneCompartment 55 58 (.goto (-38)) 3 := ⟨by decide +kernel, rfl⟩
theorem dX3_twosInOneCompartment_58 : Dc MX3_twosInOneCompartment 58 61 (.iinc 3 1) 3 := ⟨by decide +kernel, rfl⟩
theorem dX3_twosInOneCompartment_61 : Dc MX3_twosInOneCompartment 61 64 (.goto (-55)) 3 := ⟨by decide +kernel, rfl⟩
theorem dX3_twosInOneCompartment_64 : Dc MX3_twosInOneCompartment 64 65 (.iload_n 1) 1 := ⟨by decide +kernel, rfl⟩
theorem dX3_twosInOneCompartment_65 : Dc MX3_twosInOneCompartment 65 66 (.ireturn) 1 := ⟨by decide +kernel, rfl⟩
theorem dX3_meetableTwos_0 : Dc MX3_meetableTwos 0 1 (.iconst 0) 1 := ⟨by decide +kernel, rfl⟩
theorem dX3_meetableTwos_1 : Dc MX3_meetableTwos 1 2 (.istore_n 1) 1 := ⟨by decide +kernel, rfl⟩
theorem dX3_meetableTwos_2 : Dc MX3_meetableTwos 2 3 (.iconst 1) 1 := ⟨by decide +kernel, rfl⟩
theorem dX3_meetableTwos_3 : Dc MX3_meetableTwos 3 4 (.istore_n 2) 1 := ⟨by decide +kernel, rfl⟩
theorem dX3_meetableTwos_4 : Dc MX3_meetableTwos 4 5 (.iconst 0) 1 := ⟨by decide +kernel, rfl⟩
theorem dX3_meetableTwos_5 : Dc MX3_meetableTwos 5 6 (.istore_n 3) 1 := ⟨by decide +kernel, rfl⟩
theorem dX3_meetableTwos_6 : Dc MX3_meetableTwos 6 7 (.iload_n 3) 1 := ⟨by decide +kernel, rfl⟩
theorem dX3_meetableTwos_7 : Dc MX3_meetableTwos 7 9 (.bipush 6) 2 := ⟨by decide +kernel, rfl⟩
theorem dX3_meetableTwos_9 : Dc MX3_meetableTwos 9 12 (.if_icmp .ge 49) 3 := ⟨by decide +kernel, rfl⟩
theorem dX3_meetableTwos_12 : Dc MX3_meetableTwos 12 13 (.iload_n 3) 1 := ⟨by decide +kernel, rfl⟩
theorem dX3_meetableTwos_13 : Dc MX3_meetableTwos 13 14 (.iconst 1) 1 := ⟨by decide +kernel, rfl⟩
theorem dX3_meetableTwos_14 : Dc MX3_meetableTwos 14 15 (.iadd) 1 := ⟨by decide +kernel, rfl⟩
theorem dX3_meetableTwos_15 : Dc MX3_meetableTwos 15 17 (.istore 4) 2 := ⟨by decide +kernel, rfl⟩
theorem dX3_meetableTwos_17 : Dc MX3_meetableTwos 17 19 (.iload 4) 2 := ⟨by decide +kernel, rfl⟩
theorem dX3_meetableTwos_19 : Dc MX3_meetableTwos 19 21 (.bipush 6) 2 := ⟨by decide +kernel, rfl⟩
theorem dX3_meetableTwos_21 : Dc MX3_meetableTwos 21 24 (.if_icmp .ge 31) 3 := ⟨by decide +kernel, rfl⟩
theorem dX3_meetableTwos_24 : Dc MX3_meetableTwos 24 25 (.iload_n 1) 1 := ⟨by decide +kernel, rfl⟩
theorem dX3_meetableTwos_25 : Dc MX3_meetableTwos 25 26 (.aload_n 0) 1 := ⟨by decide +kernel, rfl⟩
theorem dX3_meetableTwos_26 : Dc MX3_meetableTwos 26 27 (.iload_n 3) 1 := ⟨by decide +kernel, rfl⟩
theorem dX3_meetableTwos_27 : Dc MX3_meetableTwos 27 29 (.iload 4) 2 := ⟨by decide +kernel, rfl⟩
theorem dX3_meetableTwos_29 : Dc MX3_meetableTwos 29 32 (.invokevirtual 52) 3 := ⟨by decide +kernel, rfl⟩
theorem dX3_meetableTwos_32 : Dc MX3_meetableTwos 32 35 (.ifCond .eq 7) 3 := ⟨by decide +kernel, rfl⟩
theorem dX3_meetableTwos_35 : Dc MX3_meetableTwos 35 36 (.iload_n 2) 1 := ⟨by decide +kernel, rfl⟩
theorem dX3_meetableTwos_36 : Dc MX3_meetableTwos 36 39 (.goto 4) 3 := ⟨by decide +kernel, rfl⟩
theorem dX3_meetableTwos_39 : Dc MX3_meetableTwos 39 40 (.iconst 0) 1 := ⟨by decide +kernel, rfl⟩
theorem dX3_meetableTwos_40 : Dc MX3_meetableTwos 40 41 (.ior) 1 := ⟨by decide +kernel, rfl⟩
theorem dX3_meetableTwos_41 : Dc MX3_meetableTwos 41 42 (.istore_n 1) 1 := ⟨by decide +kernel, rfl⟩
theorem dX3_meetableTwos_42 : Dc MX3_meetableTwos 42 43 (.iload_n 2) 1 := ⟨by decide +kernel, rfl⟩
theorem dX3_meetableTwos_43 : Dc MX3_meetableTwos 43 44 (.iconst 1) 1 := ⟨by decide +kernel, rfl⟩
theorem dX3_meetableTwos_44 : Dc MX3_meetableTwos 44 45 (.ishl) 1 := ⟨by decide +kernel, rfl⟩
theorem dX3_meetableTwos_45 : Dc MX3_meetableTwos 45 46 (.istore_n 2) 1 := ⟨by decide +kernel, rfl⟩
theorem dX3_meetableTwos_46 : Dc MX3_meetableTwos 46 49 (.iinc 4 1) 3 := ⟨by decide +kernel, rfl⟩
theorem dX3_meetableTwos_49 : Dc MX3_meetableTwos 49 52 (.goto (-32)) 3 := ⟨by decide +kernel, rfl⟩
theorem dX3_meetableTwos_52 : Dc MX3_meetableTwos 52 55 (.iinc 3 1) 3 := ⟨by decide +kernel, rfl⟩
theorem dX3_meetableTwos_55 : Dc MX3_meetableTwos 55 58 (.goto (-49)) 3 := ⟨by decide +kernel, rfl⟩
theorem dX3_meetableTwos_58 : Dc MX3_meetableTwos 58 59 (.iload_n 1) 1 := ⟨by decide +kernel, rfl⟩
theorem dX3_meetableTwos_59 : Dc MX3_meetableTwos 59 60 (.ireturn) 1 := ⟨by decide +kernel, rfl⟩
theorem dX4_copyFrom_0 : Dc MX4_copyFrom 0 1 (.aload_n 0) 1 := ⟨by decide +kernel, rfl⟩
theorem dX4_copyFrom_1 : Dc MX4_copyFrom 1 2 (.aload_n 1) 1 := ⟨by decide +kernel, rfl⟩
theorem dX4_copyFrom_2 : Dc MX4_copyFrom 2 5 (.getfield 16) 3 := ⟨by decide +kernel, rfl⟩
theorem dX4_copyFrom_5 : Dc MX4_copyFrom 5 8 (.putfield 16) 3 := ⟨by decide +kernel, rfl⟩
theorem dX4_copyFrom_8 : Dc MX4_copyFrom 8 9 (.iconst 0) 1 := ⟨by decide +kernel, rfl⟩
theorem dX4_copyFrom_9 : Dc MX4_copyFrom 9 10 (.istore_n 2) 1 := ⟨by decide +kernel, rfl⟩
theorem dX4_copyFrom_10 : Dc MX4_copyFrom 10 11 (.iload_n 2) 1 := ⟨by decide +kernel, rfl⟩
theorem dX4_copyFrom_11 : Dc MX4_copyFrom 11 13 (.bipush 8) 2 := ⟨by decide +kernel, rfl⟩
theorem dX4_copyFrom_13 : Dc MX4_copyFrom 13 16 (.if_icmp .ge 33) 3 := ⟨by decide +kernel, rfl⟩
theorem dX4_copyFrom_16 : Dc MX4_copyFrom 16 17 (.aload_n 0) 1 := ⟨by decide +kernel, rfl⟩
theorem dX4_copyFrom_17 : Dc MX4_copyFrom 17 20 (.getfield 9) 3 := ⟨by decide +kernel, rfl⟩
theorem dX4_copyFrom_20 : Dc MX4_copyFrom 20 21 (.iload_n 2) 1 := ⟨by decide +kernel, rfl⟩
theorem dX4_copyFrom_21 : Dc MX4_copyFrom 21 22 (.aload_n 1) 1 := ⟨by decide +kernel, rfl⟩
theorem dX4_copyFrom_22 : Dc MX4_copyFrom 22 25 (.getfield 9) 3 := ⟨by decide +kernel, rfl⟩
theorem dX4_copyFrom_25 : Dc MX4_copyFrom 25 26 (.iload_n 2) 1 := ⟨by decide +kernel, rfl⟩
theorem dX4_copyFrom_26 : Dc MX4_copyFrom 26 27 (.iaload) 1 := ⟨by decide +kernel, rfl⟩
theorem dX4_copyFrom_27 : Dc MX4_copyFrom 27 28 (.iastore) 1 := ⟨by decide +kernel, rfl⟩
theorem dX4_copyFrom_28 : Dc MX4_copyFrom 28 29 (.aload_n 0) 1 := ⟨by decide +kernel, rfl⟩
theorem dX4_copyFrom_29 : Dc MX4_copyFrom 29 32 (.getfield 13) 3 := ⟨by decide +kernel, rfl⟩
theorem dX4_copyFrom_32 : Dc MX4_copyFrom 32 33 (.iload_n 2) 1 := ⟨by decide +kernel, rfl⟩
theorem dX4_copyFrom_33 : Dc MX4_copyFrom 33 34 (.aload_n 1) 1 := ⟨by decide +kernel, rfl⟩
theorem dX4_copyFrom_34 : Dc MX4_copyFrom 34 37 (.getfield 13) 3 := ⟨by decide +kernel, rfl⟩
theorem dX4_copyFrom_37 : Dc MX4_copyFrom 37 38 (.iload_n 2) 1 := ⟨by decide +kernel, rfl⟩
theorem dX4_copyFrom_38 : Dc MX4_copyFrom 38 39 (.iaload) 1 := ⟨by decide +kernel, rfl⟩
theorem dX4_copyFrom_39 : Dc MX4_copyFrom 39 40 (.iastore) 1 := ⟨by decide +kernel, rfl⟩
theorem dX4_copyFrom_40 : Dc MX4_copyFrom 40 43 (.iinc 2 1) 3 := ⟨by decide +kernel, rfl⟩
theorem dX4_copyFrom_43 : Dc MX4_copyFrom 43 46 (.goto (-33)) 3 := ⟨by decide +kernel, rfl⟩
theorem dX4_copyFrom_46 : Dc MX4_copyFrom 46 47 (.return_) 1 := ⟨by decide +kernel, rfl⟩
theorem dX4_add_0 : Dc MX4_add 0 1 (.aload_n 0) 1 := ⟨by decide +kernel, rfl⟩
theorem dX4_add_1 : Dc MX4_add 1 4 (.getfield 16) 3 := ⟨by decide +kernel, rfl⟩
theorem dX4_add_4 : Dc MX4_add 4 7 (.ifCond .lt 12) 3 := ⟨by decide +kernel, rfl⟩
theorem dX4_add_7 : Dc MX4_add 7 8 (.aload_n 0) 1 := ⟨by decide +kernel, rfl⟩
theorem dX4_add_8 : Dc MX4_add 8 11 (.getfield 16) 3 := ⟨by decide +kernel, rfl⟩
theorem dX4_add_11 : Dc MX4_add 11 13 (.bipush 8) 2 := ⟨by decide +kernel, rfl⟩
theorem dX4_add_13 : Dc MX4_add 13 16 (.if_icmp .lt 5) 3 := ⟨by decide +kernel, rfl⟩
theorem dX4_add_16 : Dc MX4_add 16 17 (.iconst 0) 1 := ⟨by decide +kernel, rfl⟩
theorem dX4_add_17 : Dc MX4_add 17 18 (.ireturn) 1 := ⟨by decide +kernel, rfl⟩
theorem dX4_add_18 : Dc MX4_add 18 19 (.aload_n 0) 1 := ⟨by decide +kernel, rfl⟩
theorem dX4_add_19 : Dc MX4_add 19 22 (.getfield 9) 3 := ⟨by decide +kernel, rfl⟩
theorem dX4_add_22 : Dc MX4_add 22 23 (.aload_n 0) 1 := ⟨by decide +kernel, rfl⟩
theorem dX4_add_23 : Dc MX4_add 23 26 (.getfield 16) 3 := ⟨by decide +kernel, rfl⟩
theorem dX4_add_26 : Dc MX4_add 26 27 (.iload_n 1) 1 := ⟨by decide +kernel, rfl⟩
theorem dX4_add_27 : Dc MX4_add 27 28 (.iastore) 1 := ⟨by decide +kernel, rfl⟩
theorem dX4_add_28 : Dc MX4_add 28 29 (.aload_n 0) 1 := ⟨by decide +kernel, rfl⟩
theorem dX4_add_29 : Dc MX4_add 29 32 (.getfield 13) 3 := ⟨by decide +kernel, rfl⟩
theorem dX4_add_32 : Dc MX4_add 32 33 (.aload_n 0) 1 := ⟨by decide +kernel, rfl⟩
theorem dX4_add_33 : Dc MX4_add 33 36 (.getfield 16) 3 := ⟨by decide +kernel, rfl⟩
theorem dX4_add_36 : Dc MX4_add 36 37 (.iload_n 2) 1 := ⟨by decide +kernel, rfl⟩
theorem dX4_add_37 : Dc MX4_add 37 38 (.iastore) 1 := ⟨by decide +kernel, rfl⟩
theorem dX4_add_38 : Dc MX4_add 38 39 (.aload_n 0) 1 := ⟨by decide +kernel, rfl⟩
theorem dX4_add_39 : Dc MX4_add 39 40 (.dup) 1 := ⟨by decide +kernel, rfl⟩
theorem dX4_add_40 : Dc MX4_add 40 43 (.getfield 16) 3 := ⟨by decide +kernel, rfl⟩
theorem dX4_add_43 : Dc MX4_add 43 44 (.iconst 1) 1 := ⟨by decide +kernel, rfl⟩
theorem dX4_add_44 : Dc MX4_add 44 45 (.iadd) 1 := ⟨by decide +kernel, rfl⟩
theorem dX4_add_45 : Dc MX4_add 45 48 (.putfield 16) 3 := ⟨by decide +kernel, rfl⟩
theorem dX4_add_48 : Dc MX4_add 48 49 (.iconst 1) 1 := ⟨by decide +kernel, rfl⟩
theorem dX4_add_49 : Dc MX4_add 49 50 (.ireturn) 1 := ⟨by decide +kernel, rfl⟩
theorem dX4_clear_0 : Dc MX4_clear 0 1 (.aload_n 0) 1 := ⟨by decide +kernel, rfl⟩
theorem dX4_clear_1 : Dc MX4_clear 1 4 (.getfield 16) 3 := ⟨by decide +kernel, rfl⟩
theorem dX4_clear_4 : Dc MX4_clear 4 5 (.istore_n 1) 1 := ⟨by decide +kernel, rfl⟩
theorem dX4_clear_5 : Dc MX4_clear 5 6 (.aload_n 0) 1 := ⟨by decide +kernel, rfl⟩
theorem dX4_clear_6 : Dc MX4_clear 6 7 (.iconst 0) 1 := ⟨by decide +kernel, rfl⟩
theorem dX4_clear_7 : Dc MX4_clear 7 10 (.putfield 16) 3 := ⟨by decide +kernel, rfl⟩
theorem dX4_clear_10 : Dc MX4_clear 10 11 (.iload_n 1) 1 := ⟨by decide +kernel, rfl⟩
theorem dX4_clear_11 : Dc MX4_clear 11 12 (.ireturn) 1 := ⟨by decide +kernel, rfl⟩
theorem dX4_suspects_0 : Dc MX4_suspects 0 1 (.aload_n 1) 1 := ⟨by decide +kernel, rfl⟩
theorem dX4_suspects_1 : Dc MX4_suspects 1 4 (.invokevirtual 20) 3 := ⟨by decide +kernel, rfl⟩
theorem dX4_suspects_4 : Dc MX4_suspects 4 5 (.istore_n 2) 1 := ⟨by decide +kernel, rfl⟩
theorem dX4_suspects_5 : Dc MX4_suspects 5 6 (.iconst 0) 1 := ⟨by decide +kernel, rfl⟩
theorem dX4_suspects_6 : Dc MX4_suspects 6 7 (.istore_n 3) 1 := ⟨by decide +kernel, rfl⟩
theorem dX4_suspects_7 : Dc MX4_suspects 7 8 (.iload_n 3) 1 := ⟨by decide +kernel, rfl⟩
theorem dX4_suspects_8 : Dc MX4_suspects 8 9 (.aload_n 0) 1 := ⟨by decide +kernel, rfl⟩
theorem dX4_suspects_9 : Dc MX4_suspects 9 12 (.getfield 16) 3 := ⟨by decide +kernel, rfl⟩
theorem dX4_suspects_12 : Dc MX4_suspects 12 15 (.if_icmp .ge 34) 3 := ⟨by decide +kernel, rfl⟩
theorem dX4_suspects_15 : Dc MX4_suspects 15 16 (.iload_n 3) 1 := ⟨by decide +kernel, rfl⟩
theorem dX4_suspects_16 : Dc MX4_suspects 16 18 (.bipush 8) 2 := ⟨by decide +kernel, rfl⟩
theorem dX4_suspects_18 : Dc MX4_suspects 18 21 (.if_icmp .ge 28) 3 := ⟨by decide +kernel, rfl⟩
theorem dX4_suspects_21 : Dc MX4_suspects 21 22 (.iload_n 2) 1 := ⟨by decide +kernel, rfl⟩
theorem dX4_suspects_22 : Dc MX4_suspects 22 23 (.aload_n 1) 1 := ⟨by decide +kernel, rfl⟩
theorem dX4_suspects_23 : Dc MX4_suspects 23 24 (.aload_n 0) 1 := ⟨by decide +kernel, rfl⟩
theorem dX4_suspects_24 : Dc MX4_suspects 24 27 (.getfield 13) 3 := ⟨by decide +kernel, rfl⟩
theorem dX4_suspects_27 : Dc MX4_suspects 27 28 (.iload_n 3) 1 := ⟨by decide +kernel, rfl⟩
theorem dX4_suspects_28 : Dc MX4_suspects 28 29 (.iaload) 1 := ⟨by decide +kernel, rfl⟩
theorem dX4_suspects_29 : Dc MX4_suspects 29 30 (.aload_n 0) 1 := ⟨by decide +kernel, rfl⟩
theorem dX4_suspects_30 : Dc MX4_suspects 30 33 (.getfield 9) 3 := ⟨by decide +kernel, rfl⟩
theorem dX4_suspects_33 : Dc MX4_suspects 33 34 (.iload_n 3) 1 := ⟨by decide +kernel, rfl⟩
theorem dX4_suspects_34 : Dc MX4_suspects 34 35 (.iaload) 1 := ⟨by decide +kernel, rfl⟩
theorem dX4_suspects_35 : Dc MX4_suspects 35 38 (.invokevirtual 26) 3 := ⟨by decide +kernel, rfl⟩
theorem dX4_suspects_38 : Dc MX4_suspects 38 39 (.iand) 1 := ⟨by decide +kernel, rfl⟩
theorem dX4_suspects_39 : Dc MX4_suspects 39 40 (.istore_n 2) 1 := ⟨by decide +kernel, rfl⟩
theorem dX4_suspects_40 : Dc MX4_suspects 40 43 (.iinc 3 1) 3 := ⟨by decide +kernel, rfl⟩
theorem dX4_suspects_43 : Dc MX4_suspects 43 46 (.goto (-36)) 3 := ⟨by decide +kernel, rfl⟩
theorem dX4_suspects_46 : Dc MX4_suspects 46 47 (.iload_n 2) 1 := ⟨by decide +kernel, rfl⟩
theorem dX4_suspects_47 : Dc MX4_suspects 47 48 (.ireturn) 1 := ⟨by decide +kernel, rfl⟩
theorem dX5_copyFrom_0 : Dc MX5_copyFrom 0 1 (.aload_n 0) 1 := ⟨by decide +kernel, rfl⟩
theorem dX5_copyFrom_1 : Dc MX5_copyFrom 1 2 (.aload_n 1) 1 := ⟨by decide +kernel, rfl⟩
theorem dX5_copyFrom_2 : Dc MX5_copyFrom 2 5 (.getfield 9) 3 := ⟨by decide +kernel, rfl⟩
theorem dX5_copyFrom_5 : Dc MX5_copyFrom 5 8 (.putfield 9) 3 := ⟨by decide +kernel, rfl⟩
theorem dX5_copyFrom_8 : Dc MX5_copyFrom 8 9 (.aload_n 0) 1 := ⟨by decide +kernel, rfl⟩
theorem dX5_copyFrom_9 : Dc MX5_copyFrom 9 10 (.aload_n 1) 1 := ⟨by decide +kernel, rfl⟩
theorem dX5_copyFrom_10 : Dc MX5_copyFrom 10 13 (.getfield 34) 3 := ⟨by decide +kernel, rfl⟩
theorem dX5_copyFrom_13 : Dc MX5_copyFrom 13 16 (.putfield 34) 3 := ⟨by decide +kernel, rfl⟩
theorem dX5_copyFrom_16 : Dc MX5_copyFrom 16 17 (.aload_n 0) 1 := ⟨by decide +kernel, rfl⟩
theorem dX5_copyFrom_17 : Dc MX5_copyFrom 17 18 (.aload_n 1) 1 := ⟨by decide +kernel, rfl⟩
theorem dX5_copyFrom_18 : Dc MX5_copyFrom 18 21 (.getfield 37) 3 := ⟨by decide +kernel, rfl⟩
theorem dX5_copyFrom_21 : Dc MX5_copyFrom 21 24 (.putfield 37) 3 := ⟨by decide +kernel, rfl⟩
theorem dX5_copyFrom_24 : Dc MX5_copyFrom 24 25 (.aload_n 0) 1 := ⟨by decide +kernel, rfl⟩
theorem dX5_copyFrom_25 : Dc MX5_copyFrom 25 26 (.aload_n 1) 1 := ⟨by decide +kernel, rfl⟩
theorem dX5_copyFrom_26 : Dc MX5_copyFrom 26 29 (.getfield 15) 3 := ⟨by decide +kernel, rfl⟩
theorem dX5_copyFrom_29 : Dc MX5_copyFrom 29 32 (.putfield 15) 3 := ⟨by decide +kernel, rfl⟩
theorem dX5_copyFrom_32 : Dc MX5_copyFrom 32 33 (.aload_n 0) 1 := ⟨by decide +kernel, rfl⟩
theorem dX5_copyFrom_33 : Dc MX5_copyFrom 33 34 (.iconst 0) 1 := ⟨by decide +kernel, rfl⟩
theorem dX5_copyFrom_34 : Dc MX5_copyFrom 34 37 (.putfield 40) 3 := ⟨by decide +kernel, rfl⟩
theorem dX5_copyFrom_37 : Dc MX5_copyFrom 37 38 (.aload_n 0) 1 := ⟨by decide +kernel, rfl⟩
theorem dX5_copyFrom_38 : Dc MX5_copyFrom 38 39 (.aload_n 1) 1 := ⟨by decide +kernel, rfl⟩
theorem dX5_copyFrom_39 : Dc MX5_copyFrom 39 42 (.getfield 43) 3 := ⟨by decide +kernel, rfl⟩
theorem dX5_copyFrom_42 : Dc MX5_copyFrom 42 45 (.putfield 43) 3 := ⟨by decide +kernel, rfl⟩
theorem dX5_copyFrom_45 : Dc MX5_copyFrom 45 46 (.iconst 0) 1 := ⟨by decide +kernel, rfl⟩
theorem dX5_copyFrom_46 : Dc MX5_copyFrom 46 47 (.istore_n 2) 1 := ⟨by decide +kernel, rfl⟩
theorem dX5_copyFrom_47 : Dc MX5_copyFrom 47 48 (.iload_n 2) 1 := ⟨by decide +kernel, rfl⟩
theorem dX5_copyFrom_48 : Dc MX5_copyFrom 48 50 (.bipush 6) 2 := ⟨by decide +kernel, rfl⟩
theorem dX5_copyFrom_50 : Dc MX5_copyFrom 50 53 (.if_icmp .ge 69) 3 := ⟨by decide +kernel, rfl⟩
theorem dX5_copyFrom_53 : Dc MX5_copyFrom 53 54 (.aload_n 0) 1 := ⟨by decide +kernel, rfl⟩
theorem dX5_copyFrom_54 : Dc MX5_copyFrom 54 57 (.getfield 18) 3 := ⟨by decide +kernel, rfl⟩
theorem dX5_copyFrom_57 : Dc MX5_copyFrom 57 58 (.iload_n 2) 1 := ⟨by decide +kernel, rfl⟩
theorem dX5_copyFrom_58 : Dc MX5_copyFrom 58 59 (.aload_n 1) 1 := ⟨by decide +kernel, rfl⟩
theorem dX5_copyFrom_59 : Dc MX5_copyFrom 59 62 (.getfield 18) 3 := ⟨by decide +kernel, rfl⟩
theorem dX5_copyFrom_62 : Dc MX5_copyFrom 62 63 (.iload_n 2) 1 := ⟨by decide +kernel, rfl⟩
theorem dX5_copyFrom_63 : Dc MX5_copyFrom 63 64 (.iaload) 1 := ⟨by decide +kernel, rfl⟩
theorem dX5_copyFrom_64 : Dc MX5_copyFrom 64 65 (.iastore) 1 := ⟨by decide +kernel, rfl⟩
theorem dX5_copyFrom_65 : Dc MX5_copyFrom 65 66 (.aload_n 0) 1 := ⟨by decide +kernel, rfl⟩
theorem dX5_copyFrom_66 : Dc MX5_copyFrom 66 69 (.getfield 22) 3 := ⟨by decide +kernel, rfl⟩
theorem dX5_copyFrom_69 : Dc MX5_copyFrom 69 70 (.iload_n 2) 1 := ⟨by decide +kernel, rfl⟩
theorem dX5_copyFrom_70 : Dc MX5_copyFrom 70 71 (.aload_n 1) 1 := ⟨by decide +kernel, rfl⟩
theorem dX5_copyFrom_71 : Dc MX5_copyFrom 71 74 (.getfield 22) 3 := ⟨by decide +kernel, rfl⟩
theorem dX5_copyFrom_74 : Dc MX5_copyFrom 74 75 (.iload_n 2) 1 := ⟨by decide +kernel, rfl⟩
theorem dX5_copyFrom_75 : Dc MX5_copyFrom 75 76 (.iaload) 1 := ⟨by decide +kernel, rfl⟩
theorem dX5_copyFrom_76 : Dc MX5_copyFrom 76 77 (.iastore) 1 := ⟨by decide +kernel, rfl⟩
theorem dX5_copyFrom_77 : Dc MX5_copyFrom 77 78 (.aload_n 0) 1 := ⟨by decide +kernel, rfl⟩
theorem dX5_copyFrom_78 : Dc MX5_copyFrom 78 81 (.getfield 25) 3 := ⟨by decide +kernel, rfl⟩
theorem dX5_copyFrom_81 : Dc MX5_copyFrom 81 82 (.iload_n 2) 1 := ⟨by decide +kernel, rfl⟩
theorem dX5_copyFrom_82 : Dc MX5_copyFrom 82 83 (.aload_n 1) 1 := ⟨by decide +kernel, rfl⟩
theorem dX5_copyFrom_83 : Dc MX5_copyFrom 83 86 (.getfield 25) 3 := ⟨by decide +kernel, rfl⟩
theorem dX5_copyFrom_86 : Dc MX5_copyFrom 86 87 (.iload_n 2) 1 := ⟨by decide +kernel, rfl⟩
theorem dX5_copyFrom_87 : Dc MX5_copyFrom 87 88 (.iaload) 1 := ⟨by decide +kernel, rfl⟩
theorem dX5_copyFrom_88 : Dc MX5_copyFrom 88 89 (.iastore) 1 := ⟨by decide +kernel, rfl⟩
theorem dX5_copyFrom_89 : Dc MX5_copyFrom 89 90 (.aload_n 0) 1 := ⟨by decide +kernel, rfl⟩
theorem dX5_copyFrom_90 : Dc MX5_copyFrom 90 93 (.getfield 28) 3 := ⟨by decide +kernel, rfl⟩
theorem dX5_copyFrom_93 : Dc MX5_copyFrom 93 94 (.iload_n 2) 1 := ⟨by decide +kernel, rfl⟩
theorem dX5_copyFrom_94 : Dc MX5_copyFrom 94 95 (.aload_n 1) 1 := ⟨by decide +kernel, rfl⟩
theorem dX5_copyFrom_95 : Dc MX5_copyFrom 95 98 (.getfield 28) 3 := ⟨by decide +kernel, rfl⟩
theorem dX5_copyFrom_98 : Dc MX5_copyFrom 98 99 (.iload_n 2) 1 := ⟨by decide +kernel, rfl⟩
theorem dX5_copyFrom_99 : Dc MX5_copyFrom 99 100 (.iaload) 1 := ⟨by decide +kernel, rfl⟩
theorem dX5_copyFrom_100 : Dc MX5_copyFrom 100 101 (.iastore) 1 := ⟨by decide +kernel, rfl⟩
theorem dX5_copyFrom_101 : Dc MX5_copyFrom 101 102 (.aload_n 0) 1 := ⟨by decide +kernel, rfl⟩
theorem dX5_copyFrom_102 : Dc MX5_copyFrom 102 105 (.getfield 31) 3 := ⟨by decide +kernel, rfl⟩
theorem dX5_copyFrom_105 : Dc MX5_copyFrom 105 106 (.iload_n 2) 1 := ⟨by decide +kernel, rfl⟩
theorem dX5_copyFrom_106 : Dc MX5_copyFrom 106 107 (.aload_n 1) 1 := ⟨by decide +kernel, rfl⟩
theorem dX5_copyFrom_107 : Dc MX5_copyFrom 107 110 (.getfield 31) 3 := ⟨by decide +kernel, rfl⟩
theorem dX5_copyFrom_110 : Dc MX5_copyFrom 110 111 (.iload_n 2) 1 := ⟨by decide +kernel, rfl⟩
theorem dX5_copyFrom_111 : Dc MX5_copyFrom 111 112 (.iaload) 1 := ⟨by decide +kernel, rfl⟩
theorem dX5_copyFrom_112 : Dc MX5_copyFrom 112 113 (.iastore) 1 := ⟨by decide +kernel, rfl⟩
theorem dX5_copyFrom_113 : Dc MX5_copyFrom 113 116 (.iinc 2 1) 3 := ⟨by decide +kernel, rfl⟩
theorem dX5_copyFrom_116 : Dc MX5_copyFrom 116 119 (.goto (-69)) 3 := ⟨by decide +kernel, rfl⟩
theorem dX5_copyFrom_119 : Dc MX5_copyFrom 119 120 (.return_) 1 := ⟨by decide +kernel, rfl⟩
theorem dX5_isTunnel_0 : Dc MX5_isTunnel 0 1 (.iload_n 1) 1 := ⟨by decide +kernel, rfl⟩
theorem dX5_isTunnel_1 : Dc MX5_isTunnel 1 4 (.ifCond .lt 24) 3 := ⟨by decide +kernel, rfl⟩
theorem dX5_isTunnel_4 : Dc MX5_isTunnel 4 5 (.iload_n 1) 1 := ⟨by decide +kernel, rfl⟩
theorem dX5_isTunnel_5 : Dc MX5_isTunnel 5 7 (.bipush 30) 2 := ⟨by decide +kernel, rfl⟩
theorem dX5_isTunnel_7 : Dc MX5_isTunnel 7 10 (.if_icmp .ge 18) 3 := ⟨by decide +kernel, rfl⟩
theorem dX5_isTunnel_10 : Dc MX5_isTunnel 10 11 (.aload_n 0) 1 := ⟨by decide +kernel, rfl⟩
theorem dX5_isTunnel_11 : Dc MX5_isTunnel 11 14 (.getfield 43) 3 := ⟨by decide +kernel, rfl⟩
theorem dX5_isTunnel_14 : Dc MX5_isTunnel 14 15 (.iconst 1) 1 := ⟨by decide +kernel, rfl⟩
theorem dX5_isTunnel_15 : Dc MX5_isTunnel 15 16 (.iload_n 1) 1 := ⟨by decide +kernel, rfl⟩
theorem dX5_isTunnel_16 : Dc MX5_isTunnel 16 17 (.ishl) 1 := ⟨by decide +kernel, rfl⟩
theorem dX5_isTunnel_17 : Dc MX5_isTunnel 17 18 (.iand) 1 := ⟨by decide +kernel, rfl⟩
theorem dX5_isTunnel_18 : Dc MX5_isTunnel 18 21 (.ifCond .eq 7) 3 := ⟨by decide +kernel, rfl⟩
theorem dX5_isTunnel_21 : Dc MX5_isTunnel 21 22 (.iconst 1) 1 := ⟨by decide +kernel, rfl⟩
theorem dX5_isTunnel_22 : Dc MX5_isTunnel 22 25 (.goto 4) 3 := ⟨by decide +kernel, rfl⟩
theorem dX5_isTunnel_25 : Dc MX5_isTunnel 25 26 (.iconst 0) 1 := ⟨by decide +kernel, rfl⟩
theorem dX5_isTunnel_26 : Dc MX5_isTunnel 26 27 (.ireturn) 1 := ⟨by decide +kernel, rfl⟩
theorem dX5_tunnelsOfLine_0 : Dc MX5_tunnelsOfLine 0 1 (.iconst 0) 1 := ⟨by decide +kernel, rfl⟩
theorem dX5_tunnelsOfLine_1 : Dc MX5_tunnelsOfLine 1 2 (.istore_n 1) 1 := ⟨by decide +kernel, rfl⟩
theorem dX5_tunnelsOfLine_2 : Dc MX5_tunnelsOfLine 2 3 (.iconst 0) 1 := ⟨by decide +kernel, rfl⟩
theorem dX5_tunnelsOfLine_3 : Dc MX5_tunnelsOfLine 3 4 (.istore_n 2) 1 := ⟨by decide +kernel, rfl⟩
theorem dX5_tunnelsOfLine_4 : Dc MX5_tunnelsOfLine 4 5 (.iload_n 2) 1 := ⟨by decide +kernel, rfl⟩
theorem dX5_tunnelsOfLine_5 : Dc MX5_tunnelsOfLine 5 6 (.aload_n 0) 1 := ⟨by decide +kernel, rfl⟩
theorem dX5_tunnelsOfLine_6 : Dc MX5_tunnelsOfLine 6 9 (.getfield 9) 3 := ⟨by decide +kernel, rfl⟩
theorem dX5_tunnelsOfLine_9 : Dc MX5_tunnelsOfLine 9 12 (.if_icmp .ge 20) 3 := ⟨by decide +kernel, rfl⟩
theorem dX5_tunnelsOfLine_12 : Dc MX5_tunnelsOfLine 12 13 (.aload_n 0) 1 := ⟨by decide +kernel, rfl⟩
theorem dX5_tunnelsOfLine_13 : Dc MX5_tunnelsOfLine 13 14 (.iload_n 2) 1 := ⟨by decide +kernel, rfl⟩
theorem dX5_tunnelsOfLine_14 : Dc MX5_tunnelsOfLine 14 17 (.invokevirtual 46) 3 := ⟨by decide +kernel, rfl⟩
theorem dX5_tunnelsOfLine_17 : Dc MX5_tunnelsOfLine 17 20 (.ifCond .eq 6) 3 := ⟨by decide +kernel, rfl⟩
theorem dX5_tunnelsOfLine_20 : Dc MX5_tunnelsOfLine 20 23 (.iinc 1 1) 3 := ⟨by decide +kernel, rfl⟩
theorem dX5_tunnelsOfLine_23 : Dc MX5_tunnelsOfLine 23 26 (.iinc 2 1) 3 := ⟨by decide +kernel, rfl⟩
theorem dX5_tunnelsOfLine_26 : Dc MX5_tunnelsOfLine 26 29 (.goto (-22)) 3 := ⟨by decide +kernel, rfl⟩
theorem dX5_tunnelsOfLine_29 : Dc MX5_tunnelsOfLine 29 30 (.iload_n 1) 1 := ⟨by decide +kernel, rfl⟩
theorem dX5_tunnelsOfLine_30 : Dc MX5_tunnelsOfLine 30 31 (.ireturn) 1 := ⟨by decide +kernel, rfl⟩
theorem dX5_setRide_0 : Dc MX5_setRide 0 1 (.iload_n 1) 1 := ⟨by decide +kernel, rfl⟩
theorem dX5_setRide_1 : Dc MX5_setRide 1 4 (.invokestatic 50) 3 := ⟨by decide +kernel, rfl⟩
theorem dX5_setRide_4 : Dc MX5_setRide 4 7 (.ifCond .eq 17) 3 := ⟨by decide +kernel, rfl⟩
theorem dX5_setRide_7 : Dc MX5_setRide 7 8 (.aload_n 0) 1 := ⟨by decide +kernel, rfl⟩
theorem dX5_setRide_8 : Dc MX5_setRide 8 11 (.getfield 18) 3 := ⟨by decide +kernel, rfl⟩
theorem dX5_setRide_11 : Dc MX5_setRide 11 12 (.iload_n 1) 1 := ⟨by decide +kernel, rfl⟩
theorem dX5_setRide_12 : Dc MX5_setRide 12 13 (.iload_n 2) 1 := ⟨by decide +kernel, rfl⟩
theorem dX5_setRide_13 : Dc MX5_setRide 13 14 (.iastore) 1 := ⟨by decide +kernel, rfl⟩
theorem dX5_setRide_14 : Dc MX5_setRide 14 15 (.aload_n 0) 1 := ⟨by decide +kernel, rfl⟩
theorem dX5_setRide_15 : Dc MX5_setRide 15 18 (.getfield 22) 3 := ⟨by decide +kernel, rfl⟩
theorem dX5_setRide_18 : Dc MX5_setRide 18 19 (.iload_n 1) 1 := ⟨by decide +kernel, rfl⟩
theorem dX5_setRide_19 : Dc MX5_setRide 19 20 (.iload_n 3) 1 := ⟨by decide +kernel, rfl⟩
theorem dX5_setRide_20 : Dc MX5_setRide 20 21 (.iastore) 1 := ⟨by decide +kernel, rfl⟩
theorem dX5_setRide_21 : Dc MX5_setRide 21 22 (.return_) 1 := ⟨by decide +kernel, rfl⟩
theorem dX5_setBid_0 : Dc MX5_setBid 0 1 (.iload_n 1) 1 := ⟨by decide +kernel, rfl⟩
theorem dX5_setBid_1 : Dc MX5_setBid 1 4 (.invokestatic 50) 3 := ⟨by decide +kernel, rfl⟩
theorem dX5_setBid_4 : Dc MX5_setBid 4 7 (.ifCond .eq 10) 3 := ⟨by decide +kernel, rfl⟩
theorem dX5_setBid_7 : Dc MX5_setBid 7 8 (.aload_n 0) 1 := ⟨by decide +kernel, rfl⟩
theorem dX5_setBid_8 : Dc MX5_setBid 8 11 (.getfield 31) 3 := ⟨by decide +kernel, rfl⟩
theorem dX5_setBid_11 : Dc MX5_setBid 11 12 (.iload_n 1) 1 := ⟨by decide +kernel, rfl⟩
theorem dX5_setBid_12 : Dc MX5_setBid 12 13 (.iload_n 2) 1 := ⟨by decide +kernel, rfl⟩
theorem dX5_setBid_13 : Dc MX5_setBid 13 14 (.iastore) 1 := ⟨by decide +kernel, rfl⟩
theorem dX5_setBid_14 : Dc MX5_setBid 14 15 (.return_) 1 := ⟨by decide +kernel, rfl⟩
theorem dX5_ridesAt_0 : Dc MX5_ridesAt 0 1 (.iload_n 1) 1 := ⟨by decide +kernel, rfl⟩
theorem dX5_ridesAt_1 : Dc MX5_ridesAt 1 4 (.ifCond .lt 21) 3 := ⟨by decide +kernel, rfl⟩
theorem dX5_ridesAt_4 : Dc MX5_ridesAt 4 5 (.iload_n 1) 1 := ⟨by decide +kernel, rfl⟩
theorem dX5_ridesAt_5 : Dc MX5_ridesAt 5 7 (.bipush 6) 2 := ⟨by decide +kernel, rfl⟩
theorem dX5_ridesAt_7 : Dc MX5_ridesAt 7 10 (.if_icmp .ge 15) 3 := ⟨by decide +kernel, rfl⟩
theorem dX5_ridesAt_10 : Dc MX5_ridesAt 10 11 (.iload_n 2) 1 := ⟨by decide +kernel, rfl⟩
theorem dX5_ridesAt_11 : Dc MX5_ridesAt 11 14 (.ifCond .lt 11) 3 := ⟨by decide +kernel, rfl⟩
theorem dX5_ridesAt_14 : Dc MX5_ridesAt 14 15 (.iload_n 2) 1 := ⟨by decide +kernel, rfl⟩
theorem dX5_ridesAt_15 : Dc MX5_ridesAt 15 16 (.aload_n 0) 1 := ⟨by decide +kernel, rfl⟩
theorem dX5_ridesAt_16 : Dc MX5_ridesAt 16 19 (.getfield 9) 3 := ⟨by decide +kernel, rfl⟩
theorem dX5_ridesAt_19 : Dc MX5_ridesAt 19 22 (.if_icmp .lt 5) 3 := ⟨by decide +kernel, rfl⟩
theorem dX5_ridesAt_22 : Dc MX5_ridesAt 22 23 (.iconst 0) 1 := ⟨by decide +kernel, rfl⟩
theorem dX5_ridesAt_23 : Dc MX5_ridesAt 23 24 (.ireturn) 1 := ⟨by decide +kernel, rfl⟩
theorem dX5_ridesAt_24 : Dc MX5_ridesAt 24 25 (.aload_n 0) 1 := ⟨by decide +kernel, rfl⟩
theorem dX5_ridesAt_25 : Dc MX5_ridesAt 25 28 (.getfield 18) 3 := ⟨by decide +kernel, rfl⟩
theorem dX5_ridesAt_28 : Dc MX5_ridesAt 28 29 (.iload_n 1) 1 := ⟨by decide +kernel, rfl⟩
theorem dX5_ridesAt_29 : Dc MX5_ridesAt 29 30 (.iaload) 1 := ⟨by decide +kernel, rfl⟩
theorem dX5_ridesAt_30 : Dc MX5_ridesAt 30 33 (.ifCond .lt 27) 3 := ⟨by decide +kernel, rfl⟩
theorem dX5_ridesAt_33 : Dc MX5_ridesAt 33 34 (.aload_n 0) 1 := ⟨by decide +kernel, rfl⟩
theorem dX5_ridesAt_34 : Dc MX5_ridesAt 34 37 (.getfield 18) 3 := ⟨by decide +kernel, rfl⟩
theorem dX5_ridesAt_37 : Dc MX5_ridesAt 37 38 (.iload_n 1) 1 := ⟨by decide +kernel, rfl⟩
theorem dX5_ridesAt_38 : Dc MX5_ridesAt 38 39 (.iaload) 1 := ⟨by decide +kernel, rfl⟩
theorem dX5_ridesAt_39 : Dc MX5_ridesAt 39 40 (.iload_n 2) 1 := ⟨by decide +kernel, rfl⟩
theorem dX5_ridesAt_40 : Dc MX5_ridesAt 40 43 (.if_icmp .gt 17) 3 := ⟨by decide +kernel, rfl⟩
theorem dX5_ridesAt_43 : Dc MX5_ridesAt 43 44 (.iload_n 2) 1 := ⟨by decide +kernel, rfl⟩
theorem dX5_ridesAt_44 : Dc MX5_ridesAt 44 45 (.aload_n 0) 1 := ⟨by decide +kernel, rfl⟩
theorem dX5_ridesAt_45 : Dc MX5_ridesAt 45 48 (.getfield 22) 3 := ⟨by decide +kernel, rfl⟩
theorem dX5_ridesAt_48 : Dc MX5_ridesAt 48 49 (.iload_n 1) 1 := ⟨by decide +kernel, rfl⟩
theorem dX5_ridesAt_49 : Dc MX5_ridesAt 49 50 (.iaload) 1 := ⟨by decide +kernel, rfl⟩
theorem dX5_ridesAt_50 : Dc MX5_ridesAt 50 53 (.if_icmp .gt 7) 3 := ⟨by decide +kernel, rfl⟩
theorem dX5_ridesAt_53 : Dc MX5_ridesAt 53 54 (.iconst 1) 1 := ⟨by decide +kernel, rfl⟩
theorem dX5_ridesAt_54 : Dc MX5_ridesAt 54 57 (.goto 4) 3 := ⟨by decide +kernel, rfl⟩
theorem dX5_ridesAt_57 : Dc MX5_ridesAt 57 58 (.iconst 0) 1 := ⟨by decide +kernel, rfl⟩
theorem dX5_ridesAt_58 : Dc MX5_ridesAt 58 59 (.ireturn) 1 := ⟨by decide +kernel, rfl⟩
theorem dX5_ridesIn_0 : Dc MX5_ridesIn 0 1 (.aload_n 0) 1 := ⟨by decide +kernel, rfl⟩
theorem dX5_ridesIn_1 : Dc MX5_ridesIn 1 2 (.iload_n 1) 1 := ⟨by decide +kernel, rfl⟩
theorem dX5_ridesIn_2 : Dc MX5_ridesIn 2 3 (.iload_n 3) 1 := ⟨by decide +kernel, rfl⟩
theorem dX5_ridesIn_3 : Dc MX5_ridesIn 3 6 (.invokevirtual 53) 3 := ⟨by decide +kernel, rfl⟩
theorem dX5_ridesIn_6 : Dc MX5_ridesIn 6 9 (.ifCond .eq 17) 3 := ⟨by decide +kernel, rfl⟩
theorem dX5_ridesIn_9 : Dc MX5_ridesIn 9 10 (.aload_n 0) 1 := ⟨by decide +kernel, rfl⟩
theorem dX5_ridesIn_10 : Dc MX5_ridesIn 10 13 (.getfield 25) 3 := ⟨by decide +kernel, rfl⟩
theorem dX5_ridesIn_13 : Dc MX5_ridesIn 13 14 (.iload_n 1) 1 := ⟨by decide +kernel, rfl⟩
theorem dX5_ridesIn_14 : Dc MX5_ridesIn 14 15 (.iaload) 1 := ⟨by decide +kernel, rfl⟩
theorem dX5_ridesIn_15 : Dc MX5_ridesIn 15 16 (.iload_n 2) 1 := ⟨by decide +kernel, rfl⟩
theorem dX5_ridesIn_16 : Dc MX5_ridesIn 16 19 (.if_icmp .ne 7) 3 := ⟨by decide +kernel, rfl⟩
theorem dX5_ridesIn_19 : Dc MX5_ridesIn 19 20 (.iconst 1) 1 := ⟨by decide +kernel, rfl⟩
theorem dX5_ridesIn_20 : Dc MX5_ridesIn 20 23 (.goto 4) 3 := ⟨by decide +kernel, rfl⟩
theorem dX5_ridesIn_23 : Dc MX5_ridesIn 23 24 (.iconst 0) 1 := ⟨by decide +kernel, rfl⟩
theorem dX5_ridesIn_24 : Dc MX5_ridesIn 24 25 (.ireturn) 1 := ⟨by decide +kernel, rfl⟩
theorem dX5_ridesNow_0 : Dc MX5_ridesNow 0 1 (.aload_n 0) 1 := ⟨by decide +kernel, rfl⟩
theorem dX5_ridesNow_1 : Dc MX5_ridesNow 1 2 (.iload_n 1) 1 := ⟨by decide +kernel, rfl⟩
theorem dX5_ridesNow_2 : Dc MX5_ridesNow 2 3 (.aload_n 0) 1 := ⟨by decide +kernel, rfl⟩
theorem dX5_ridesNow_3 : Dc MX5_ridesNow 3 6 (.getfield 34) 3 := ⟨by decide +kernel, rfl⟩
theorem dX5_ridesNow_6 : Dc MX5_ridesNow 6 9 (.invokevirtual 53) 3 := ⟨by decide +kernel, rfl⟩
theorem dX5_ridesNow_9 : Dc MX5_ridesNow 9 10 (.ireturn) 1 := ⟨by decide +kernel, rfl⟩
theorem dX5_ridesFromNowOn_0 : Dc MX5_ridesFromNowOn 0 1 (.aload_n 0) 1 := ⟨by decide +kernel, rfl⟩
theorem dX5_ridesFromNowOn_1 : Dc MX5_ridesFromNowOn 1 4 (.getfield 34) 3 := ⟨by decide +kernel, rfl⟩
theorem dX5_ridesFromNowOn_4 : Dc MX5_ridesFromNowOn 4 5 (.istore_n 2) 1 := ⟨by decide +kernel, rfl⟩
theorem dX5_ridesFromNowOn_5 : Dc MX5_ridesFromNowOn 5 6 (.iload_n 2) 1 := ⟨by decide +kernel, rfl⟩
theorem dX5_ridesFromNowOn_6 : Dc MX5_ridesFromNowOn 6 7 (.aload_n 0) 1 := ⟨by decide +kernel, rfl⟩
theorem dX5_ridesFromNowOn_7 : Dc MX5_ridesFromNowOn 7 10 (.getfield 9) 3 := ⟨by decide +kernel, rfl⟩
theorem dX5_ridesFromNowOn_10 : Dc MX5_ridesFromNowOn 10 13 (.if_icmp .ge 20) 3 := ⟨by decide +kernel, rfl⟩
theorem dX5_ridesFromNowOn_13 : Dc MX5_ridesFromNowOn 13 14 (.aload_n 0) 1 := ⟨by decide +kernel, rfl⟩
theorem dX5_ridesFromNowOn_14 : Dc MX5_ridesFromNowOn 14 15 (.iload_n 1) 1 := ⟨by decide +kernel, rfl⟩
theorem dX5_ridesFromNowOn_15 : Dc MX5_ridesFromNowOn 15 16 (.iload_n 2) 1 := ⟨by decide +kernel, rfl⟩
theorem dX5_ridesFromNowOn_16 : Dc MX5_ridesFromNowOn 16 19 (.invokevirtual 53) 3 := ⟨by decide +kernel, rfl⟩
theorem dX5_ridesFromNowOn_19 : Dc MX5_ridesFromNowOn 19 22 (.ifCond .eq 5) 3 := ⟨by decide +kernel, rfl⟩
theorem dX5_ridesFromNowOn_22 : Dc MX5_ridesFromNowOn 22 23 (.iconst 1) 1 := ⟨by decide +kernel, rfl⟩
theorem dX5_ridesFromNowOn_23 : Dc MX5_ridesFromNowOn 23 24 (.ireturn) 1 := ⟨by decide +kernel, rfl⟩
theorem dX5_ridesFromNowOn_24 : Dc MX5_ridesFromNowOn 24 27 (.iinc 2 1) 3 := ⟨by decide +kernel, rfl⟩
theorem dX5_ridesFromNowOn_27 : Dc MX5_ridesFromNowOn 27 30 (.goto (-22)) 3 := ⟨by decide +kernel, rfl⟩
theorem dX5_ridesFromNowOn_30 : Dc MX5_ridesFromNowOn 30 31 (.iconst 0) 1 := ⟨by decide +kernel, rfl⟩
theorem dX5_ridesFromNowOn_31 : Dc MX5_ridesFromNowOn 31 32 (.ireturn) 1 := ⟨by decide +kernel, rfl⟩
theorem dX5_minutesOf_0 : Dc MX5_minutesOf 0 1 (.iconst 0) 1 := ⟨by decide +kernel, rfl⟩
theorem dX5_minutesOf_1 : Dc MX5_minutesOf 1 2 (.istore_n 2) 1 := ⟨by decide +kernel, rfl⟩
theorem dX5_minutesOf_2 : Dc MX5_minutesOf 2 3 (.iconst 0) 1 := ⟨by decide +kernel, rfl⟩
theorem dX5_minutesOf_3 : Dc MX5_minutesOf 3 4 (.istore_n 3) 1 := ⟨by decide +kernel, rfl⟩
theorem dX5_minutesOf_4 : Dc MX5_minutesOf 4 5 (.iload_n 3) 1 := ⟨by decide +kernel, rfl⟩
theorem dX5_minutesOf_5 : Dc MX5_minutesOf 5 6 (.aload_n 0) 1 := ⟨by decide +kernel, rfl⟩
theorem dX5_minutesOf_6 : Dc MX5_minutesOf 6 9 (.getfield 9) 3 := ⟨by decide +kernel, rfl⟩
theorem dX5_minutesOf_9 : Dc MX5_minutesOf 9 12 (.if_icmp .ge 21) 3 := ⟨by decide +kernel, rfl⟩
theorem dX5_minutesOf_12 : Dc MX5_minutesOf 12 13 (.aload_n 0) 1 := ⟨by decide +kernel, rfl⟩
theorem dX5_minutesOf_13 : Dc MX5_minutesOf 13 14 (.iload_n 1) 1 := ⟨by decide +kernel, rfl⟩
theorem dX5_minutesOf_14 : Dc MX5_minutesOf 14 15 (.iload_n 3) 1 := ⟨by decide +kernel, rfl⟩
theorem dX5_minutesOf_15 : Dc MX5_minutesOf 15 18 (.invokevirtual 53) 3 := ⟨by decide +kernel, rfl⟩
theorem dX5_minutesOf_18 : Dc MX5_minutesOf 18 21 (.ifCond .eq 6) 3 := ⟨by decide +kernel, rfl⟩
theorem dX5_minutesOf_21 : Dc MX5_minutesOf 21 24 (.iinc 2 1) 3 := ⟨by decide +kernel, rfl⟩
theorem dX5_minutesOf_24 : Dc MX5_minutesOf 24 27 (.iinc 3 1) 3 := ⟨by decide +kernel, rfl⟩
theorem dX5_minutesOf_27 : Dc MX5_minutesOf 27 30 (.goto (-23)) 3 := ⟨by decide +kernel, rfl⟩
theorem dX5_minutesOf_30 : Dc MX5_minutesOf 30 31 (.iload_n 2) 1 := ⟨by decide +kernel, rfl⟩
theorem dX5_minutesOf_31 : Dc MX5_minutesOf 31 32 (.ireturn) 1 := ⟨by decide +kernel, rfl⟩
theorem dX5_ridersOf_0 : Dc MX5_ridersOf 0 1 (.iconst 0) 1 := ⟨by decide +kernel, rfl⟩
theorem dX5_ridersOf_1 : Dc MX5_ridersOf 1 2 (.istore_n 3) 1 := ⟨by decide +kernel, rfl⟩
theorem dX5_ridersOf_2 : Dc MX5_ridersOf 2 3 (.iconst 0) 1 := ⟨by decide +kernel, rfl⟩
theorem dX5_ridersOf_3 : Dc MX5_ridersOf 3 5 (.istore 4) 2 := ⟨by decide +kernel, rfl⟩
theorem dX5_ridersOf_5 : Dc MX5_ridersOf 5 7 (.iload 4) 2 := ⟨by decide +kernel, rfl⟩
theorem dX5_ridersOf_7 : Dc MX5_ridersOf 7 9 (.bipush 6) 2 := ⟨by decide +kernel, rfl⟩
theorem dX5_ridersOf_9 : Dc MX5_ridersOf 9 12 (.if_icmp .ge 27) 3 := ⟨by decide +kernel, rfl⟩
theorem dX5_ridersOf_12 : Dc MX5_ridersOf 12 13 (.aload_n 0) 1 := ⟨by decide +kernel, rfl⟩
theorem dX5_ridersOf_13 : Dc MX5_ridersOf 13 15 (.iload 4) 2 := ⟨by decide +kernel, rfl⟩
theorem dX5_ridersOf_15 : Dc MX5_ridersOf 15 16 (.iload_n 1) 1 := ⟨by decide +kernel, rfl⟩
theorem dX5_ridersOf_16 : Dc MX5_ridersOf 16 17 (.iload_n 2) 1 := ⟨by decide +kernel, rfl⟩
theorem dX5_ridersOf_17 : Dc MX5_ridersOf 17 20 (.invokevirtual 57) 3 := ⟨by decide +kernel, rfl⟩
theorem dX5_ridersOf_20 : Dc MX5_ridersOf 20 23 (.ifCond .eq 10) 3 := ⟨by decide +kernel, rfl⟩
theorem dX5_ridersOf_23 : Dc MX5_ridersOf 23 24 (.iload_n 3) 1 := ⟨by decide +kernel, rfl⟩
theorem dX5_ridersOf_24 : Dc MX5_ridersOf 24 25 (.iconst 1) 1 := ⟨by decide +kernel, rfl⟩
theorem dX5_ridersOf_25 : Dc MX5_ridersOf 25 27 (.iload 4) 2 := ⟨by decide +kernel, rfl⟩
theorem dX5_ridersOf_27 : Dc MX5_ridersOf 27 28 (.ishl) 1 := ⟨by decide +kernel, rfl⟩
theorem dX5_ridersOf_28 : Dc MX5_ridersOf 28 29 (.ior) 1 := ⟨by decide +kernel, rfl⟩
theorem dX5_ridersOf_29 : Dc MX5_ridersOf 29 30 (.istore_n 3) 1 := ⟨by decide +kernel, rfl⟩
theorem dX5_ridersOf_30 : Dc MX5_ridersOf 30 33 (.iinc 4 1) 3 := ⟨by decide +kernel, rfl⟩
theorem dX5_ridersOf_33 : Dc MX5_ridersOf 33 36 (.goto (-28)) 3 := ⟨by decide +kernel, rfl⟩
theorem dX5_ridersOf_36 : Dc MX5_ridersOf 36 37 (.iload_n 3) 1 := ⟨by decide +kernel, rfl⟩
theorem dX5_ridersOf_37 : Dc MX5_ridersOf 37 38 (.ireturn) 1 := ⟨by decide +kernel, rfl⟩
theorem dX5_companionsOf_0 : Dc MX5_companionsOf 0 1 (.iload_n 1) 1 := ⟨by decide +kernel, rfl⟩
theorem dX5_companionsOf_1 : Dc MX5_companionsOf 1 4 (.invokestatic 50) 3 := ⟨by decide +kernel, rfl⟩
theorem dX5_companionsOf_4 : Dc MX5_companionsOf 4 7 (.ifCond .eq 12) 3 := ⟨by decide +kernel, rfl⟩
theorem dX5_companionsOf_7 : Dc MX5_companionsOf 7 8 (.aload_n 0) 1 := ⟨by decide +kernel, rfl⟩
theorem dX5_companionsOf_8 : Dc MX5_companionsOf 8 9 (.iload_n 1) 1 := ⟨by decide +kernel, rfl⟩
theorem dX5_companionsOf_9 : Dc MX5_companionsOf 9 10 (.iload_n 2) 1 := ⟨by decide +kernel, rfl⟩
theorem dX5_companionsOf_10 : Dc MX5_companionsOf 10 13 (.invokevirtual 53) 3 := ⟨by decide +kernel, rfl⟩
theorem dX5_companionsOf_13 : Dc MX5_companionsOf 13 16 (.ifCond .ne 5) 3 := ⟨by decide +kernel, rfl⟩
theorem dX5_companionsOf_16 : Dc MX5_companionsOf 16 17 (.iconst 0) 1 := ⟨by decide +kernel, rfl⟩
theorem dX5_companionsOf_17 : Dc MX5_companionsOf 17 18 (.ireturn) 1 := ⟨by decide +kernel, rfl⟩
theorem dX5_companionsOf_18 : Dc MX5_companionsOf 18 19 (.aload_n 0) 1 := ⟨by decide +kernel, rfl⟩
theorem dX5_companionsOf_19 : Dc MX5_companionsOf 19 20 (.aload_n 0) 1 := ⟨by decide +kernel, rfl⟩
theorem dX5_companionsOf_20 : Dc MX5_companionsOf 20 23 (.getfield 25) 3 := ⟨by decide +kernel, rfl⟩
theorem dX5_companionsOf_23 : Dc MX5_companionsOf 23 24 (.iload_n 1) 1 := ⟨by decide +kernel, rfl⟩
theorem dX5_companionsOf_24 : Dc MX5_companionsOf 24 25 (.iaload) 1 := ⟨by decide +kernel, rfl⟩
theorem dX5_companionsOf_25 : Dc MX5_companionsOf 25 26 (.iload_n 2) 1 := ⟨by decide +kernel, rfl⟩
theorem dX5_companionsOf_26 : Dc MX5_companionsOf 26 29 (.invokevirtual 61) 3 := ⟨by decide +kernel, rfl⟩
theorem dX5_companionsOf_29 : Dc MX5_companionsOf 29 30 (.iconst 1) 1 := ⟨by decide +kernel, rfl⟩
theorem dX5_companionsOf_30 : Dc MX5_companionsOf 30 31 (.iload_n 1) 1 := ⟨by decide +kernel, rfl⟩
theorem dX5_companionsOf_31 : Dc MX5_companionsOf 31 32 (.ishl) 1 := ⟨by decide +kernel, rfl⟩
theorem dX5_companionsOf_32 : Dc MX5_companionsOf 32 33 (.iconst (-1)) 1 := ⟨by decide +kernel, rfl⟩
theorem dX5_companionsOf_33 : Dc MX5_companionsOf 33 34 (.ixor) 1 := ⟨by decide +kernel, rfl⟩
theorem dX5_companionsOf_34 : Dc MX5_companionsOf 34 35 (.iand) 1 := ⟨by decide +kernel, rfl⟩
theorem dX5_companionsOf_35 : Dc MX5_companionsOf 35 36 (.ireturn) 1 := ⟨by decide +kernel, rfl⟩
theorem dX5_ridersOfLine_0 : Dc MX5_ridersOfLine 0 1 (.iconst 0) 1 := ⟨by decide +kernel, rfl⟩
theorem dX5_ridersOfLine_1 : Dc MX5_ridersOfLine 1 2 (.istore_n 1) 1 := ⟨by decide +kernel, rfl⟩
theorem dX5_ridersOfLine_2 : Dc MX5_ridersOfLine 2 3 (.iconst 0) 1 := ⟨by decide +kernel, rfl⟩
theorem dX5_ridersOfLine_3 : Dc MX5_ridersOfLine 3 4 (.istore_n 2) 1 := ⟨by decide +kernel, rfl⟩
theorem dX5_ridersOfLine_4 : Dc MX5_ridersOfLine 4 5 (.iload_n 2) 1 := ⟨by decide +kernel, rfl⟩
theorem dX5_ridersOfLine_5 : Dc MX5_ridersOfLine 5 7 (.bipush 6) 2 := ⟨by decide +kernel, rfl⟩
theorem dX5_ridersOfLine_7 : Dc MX5_ridersOfLine 7 10 (.if_icmp .ge 23) 3 := ⟨by decide +kernel, rfl⟩
theorem dX5_ridersOfLine_10 : Dc MX5_ridersOfLine 10 11 (.aload_n 0) 1 := ⟨by decide +kernel, rfl⟩
theorem dX5_ridersOfLine_11 : Dc MX5_ridersOfLine 11 12 (.iload_n 2) 1 := ⟨by decide +kernel, rfl⟩
theorem dX5_ridersOfLine_12 : Dc MX5_ridersOfLine 12 15 (.invokevirtual 65) 3 := ⟨by decide +kernel, rfl⟩
theorem dX5_ridersOfLine_15 : Dc MX5_ridersOfLine 15 18 (.ifCond .le 9) 3 := ⟨by decide +kernel, rfl⟩
theorem dX5_ridersOfLine_18 : Dc MX5_ridersOfLine 18 19 (.iload_n 1) 1 := ⟨by decide +kernel, rfl⟩
theorem dX5_ridersOfLine_19 : Dc MX5_ridersOfLine 19 20 (.iconst 1) 1 := ⟨by decide +kernel, rfl⟩
theorem dX5_ridersOfLine_20 : Dc MX5_ridersOfLine 20 21 (.iload_n 2) 1 := ⟨by decide +kernel, rfl⟩
theorem dX5_ridersOfLine_21 : Dc MX5_ridersOfLine 21 22 (.ishl) 1 := ⟨by decide +kernel, rfl⟩
theorem dX5_ridersOfLine_22 : Dc MX5_ridersOfLine 22 23 (.ior) 1 := ⟨by decide +kernel, rfl⟩
theorem dX5_ridersOfLine_23 : Dc MX5_ridersOfLine 23 24 (.istore_n 1) 1 := ⟨by decide +kernel, rfl⟩
theorem dX5_ridersOfLine_24 : Dc MX5_ridersOfLine 24 27 (.iinc 2 1) 3 := ⟨by decide +kernel, rfl⟩
theorem dX5_ridersOfLine_27 : Dc MX5_ridersOfLine 27 30 (.goto (-23)) 3 := ⟨by decide +kernel, rfl⟩
theorem dX5_ridersOfLine_30 : Dc MX5_ridersOfLine 30 31 (.iload_n 1) 1 := ⟨by decide +kernel, rfl⟩
theorem dX5_ridersOfLine_31 : Dc MX5_ridersOfLine 31 32 (.ireturn) 1 := ⟨by decide +kernel, rfl⟩
theorem dX5_rideTogether_0 : Dc MX5_rideTogether 0 1 (.iconst 0) 1 := ⟨by decide +kernel, rfl⟩
theorem dX5_rideTogether_1 : Dc MX5_rideTogether 1 2 (.istore_n 3) 1 := ⟨by decide +kernel, rfl⟩
theorem dX5_rideTogether_2 : Dc MX5_rideTogether 2 3 (.iload_n 3) 1 := ⟨by decide +kernel, rfl⟩
theorem dX5_rideTogether_3 : Dc MX5_rideTogether 3 4 (.aload_n 0) 1 := ⟨by decide +kernel, rfl⟩
theorem dX5_rideTogether_4 : Dc MX5_rideTogether 4 7 (.getfield 9) 3 := ⟨by decide +kernel, rfl⟩
theorem dX5_rideTogether_7 : Dc MX5_rideTogether 7 10 (.if_icmp .ge 29) 3 := ⟨by decide +kernel, rfl⟩
theorem dX5_rideTogether_10 : Dc MX5_rideTogether 10 11 (.aload_n 0) 1 := ⟨by decide +kernel, rfl⟩
theorem dX5_rideTogether_11 : Dc MX5_rideTogether 11 12 (.iload_n 1) 1 := ⟨by decide +kernel, rfl⟩
theorem dX5_rideTogether_12 : Dc MX5_rideTogether 12 13 (.iload_n 3) 1 := ⟨by decide +kernel, rfl⟩
theorem dX5_rideTogether_13 : Dc MX5_rideTogether 13 16 (.invokevirtual 53) 3 := ⟨by decide +kernel, rfl⟩
theorem dX5_rideTogether_16 : Dc MX5_rideTogether 16 19 (.ifCond .eq 14) 3 := ⟨by decide +kernel, rfl⟩
theorem dX5_rideTogether_19 : Dc MX5_rideTogether 19 20 (.aload_n 0) 1 := ⟨by decide +kernel, rfl⟩
theorem dX5_rideTogether_20 : Dc MX5_rideTogether 20 21 (.iload_n 2) 1 := ⟨by decide +kernel, rfl⟩
theorem dX5_rideTogether_21 : Dc MX5_rideTogether 21 22 (.iload_n 3) 1 := ⟨by decide +kernel, rfl⟩
theorem dX5_rideTogether_22 : Dc MX5_rideTogether 22 25 (.invokevirtual 53) 3 := ⟨by decide +kernel, rfl⟩
theorem dX5_rideTogether_25 : Dc MX5_rideTogether 25 28 (.ifCond .eq 5) 3 := ⟨by decide +kernel, rfl⟩
theorem dX5_rideTogether_28 : Dc MX5_rideTogether 28 29 (.iconst 1) 1 := ⟨by decide +kernel, rfl⟩
theorem dX5_rideTogether_29 : Dc MX5_rideTogether 29 30 (.ireturn) 1 := ⟨by decide +kernel, rfl⟩
theorem dX5_rideTogether_30 : Dc MX5_rideTogether 30 33 (.iinc 3 1) 3 := ⟨by decide +kernel, rfl⟩
theorem dX5_rideTogether_33 : Dc MX5_rideTogether 33 36 (.goto (-31)) 3 := ⟨by decide +kernel, rfl⟩
theorem dX5_rideTogether_36 : Dc MX5_rideTogether 36 37 (.iconst 0) 1 := ⟨by decide +kernel, rfl⟩
theorem dX5_rideTogether_37 : Dc MX5_rideTogether 37 38 (.ireturn) 1 := ⟨by decide +kernel, rfl⟩
theorem dX5_holderOf_0 : Dc MX5_holderOf 0 2 (.bipush (-6)) 2 := ⟨by decide +kernel, rfl⟩
theorem dX5_holderOf_2 : Dc MX5_holderOf 2 3 (.istore_n 2) 1 := ⟨by decide +kernel, rfl⟩
theorem dX5_holderOf_3 : Dc MX5_holderOf 3 4 (.iconst 0) 1 := ⟨by decide +kernel, rfl⟩
theorem dX5_holderOf_4 : Dc MX5_holderOf 4 5 (.istore_n 3) 1 := ⟨by decide +kernel, rfl⟩
theorem dX5_holderOf_5 : Dc MX5_holderOf 5 6 (.aload_n 0) 1 := ⟨by decide +kernel, rfl⟩
theorem dX5_holderOf_6 : Dc MX5_holderOf 6 7 (.aload_n 0) 1 := ⟨by decide +kernel, rfl⟩
theorem dX5_holderOf_7 : Dc MX5_holderOf 7 10 (.getfield 34) 3 := ⟨by decide +kernel, rfl⟩
theorem dX5_holderOf_10 : Dc MX5_holderOf 10 13 (.invokevirtual 46) 3 := ⟨by decide +kernel, rfl⟩
theorem dX5_holderOf_13 : Dc MX5_holderOf 13 16 (.ifCond .eq 6) 3 := ⟨by decide +kernel, rfl⟩
theorem dX5_holderOf_16 : Dc MX5_holderOf 16 18 (.bipush (-6)) 2 := ⟨by decide +kernel, rfl⟩
theorem dX5_holderOf_18 : Dc MX5_holderOf 18 19 (.ireturn) 1 := ⟨by decide +kernel, rfl⟩
theorem dX5_holderOf_19 : Dc MX5_holderOf 19 20 (.iconst 0) 1 := ⟨by decide +kernel, rfl⟩
theorem dX5_holderOf_20 : Dc MX5_holderOf 20 22 (.istore 4) 2 := ⟨by decide +kernel, rfl⟩
theorem dX5_holderOf_22 : Dc MX5_holderOf 22 24 (.iload 4) 2 := ⟨by decide +kernel, rfl⟩
theorem dX5_holderOf_24 : Dc MX5_holderOf 24 26 (.bipush 6) 2 := ⟨by decide +kernel, rfl⟩
theorem dX5_holderOf_26 : Dc MX5_holderOf 26 29 (.if_icmp .ge 84) 3 := ⟨by decide +kernel, rfl⟩
theorem dX5_holderOf_29 : Dc MX5_holderOf 29 30 (.aload_n 0) 1 := ⟨by decide +kernel, rfl⟩
theorem dX5_holderOf_30 : Dc MX5_holderOf 30 33 (.getfield 31) 3 := ⟨by decide +kernel, rfl⟩
theorem dX5_holderOf_33 : Dc MX5_holderOf 33 35 (.iload 4) 2 := ⟨by decide +kernel, rfl⟩
theorem dX5_holderOf_35 : Dc MX5_holderOf 35 36 (.iaload) 1 := ⟨by decide +kernel, rfl⟩
theorem dX5_holderOf_36 : Dc MX5_holderOf 36 37 (.iload_n 3) 1 := ⟨by decide +kernel, rfl⟩
theorem dX5_holderOf_37 : Dc MX5_holderOf 37 40 (.if_icmp .le 24) 3 := ⟨by decide +kernel, rfl⟩
theorem dX5_holderOf_40 : Dc MX5_holderOf 40 41 (.aload_n 0) 1 := ⟨by decide +kernel, rfl⟩
theorem dX5_holderOf_41 : Dc MX5_holderOf 41 44 (.getfield 31) 3 := ⟨by decide +kernel, rfl⟩
theorem dX5_holderOf_44 : Dc MX5_holderOf 44 46 (.iload 4) 2 := ⟨by decide +kernel, rfl⟩
theorem dX5_holderOf_46 : Dc MX5_holderOf 46 47 (.iaload) 1 := ⟨by decide +kernel, rfl⟩
theorem dX5_holderOf_47 : Dc MX5_holderOf 47 48 (.aload_n 0) 1 := ⟨by decide +kernel, rfl⟩
theorem dX5_holderOf_48 : Dc MX5_holderOf 48 51 (.getfield 28) 3 := ⟨by decide +kernel, rfl⟩
theorem dX5_holderOf_51 : Dc MX5_holderOf 51 53 (.iload 4) 2 := ⟨by decide +kernel, rfl⟩
theorem dX5_holderOf_53 : Dc MX5_holderOf 53 54 (.iaload) 1 := ⟨by decide +kernel, rfl⟩
theorem dX5_holderOf_54 : Dc MX5_holderOf 54 57 (.if_icmp .gt 7) 3 := ⟨by decide +kernel, rfl⟩
theorem dX5_holderOf_57 : Dc MX5_holderOf 57 58 (.iconst 1) 1 := ⟨by decide +kernel, rfl⟩
theorem dX5_holderOf_58 : Dc MX5_holderOf 58 61 (.goto 4) 3 := ⟨by decide +kernel, rfl⟩
theorem dX5_holderOf_61 : Dc MX5_holderOf 61 62 (.iconst 0) 1 := ⟨by decide +kernel, rfl⟩
theorem dX5_holderOf_62 : Dc MX5_holderOf 62 64 (.istore 5) 2 := ⟨by decide +kernel, rfl⟩
theorem dX5_holderOf_64 : Dc MX5_holderOf 64 66 (.iload 5) 2 := ⟨by decide +kernel, rfl⟩
theorem dX5_holderOf_66 : Dc MX5_holderOf 66 69 (.ifCond .eq 38) 3 := ⟨by decide +kernel, rfl⟩
theorem dX5_holderOf_69 : Dc MX5_holderOf 69 70 (.aload_n 0) 1 := ⟨by decide +kernel, rfl⟩
theorem dX5_holderOf_70 : Dc MX5_holderOf 70 73 (.getfield 25) 3 := ⟨by decide +kernel, rfl⟩
theorem dX5_holderOf_73 : Dc MX5_holderOf 73 75 (.iload 4) 2 := ⟨by decide +kernel, rfl⟩
theorem dX5_holderOf_75 : Dc MX5_holderOf 75 76 (.iaload) 1 := ⟨by decide +kernel, rfl⟩
theorem dX5_holderOf_76 : Dc MX5_holderOf 76 77 (.iload_n 1) 1 := ⟨by decide +kernel, rfl⟩
theorem dX5_holderOf_77 : Dc MX5_holderOf 77 80 (.if_icmp .ne 27) 3 := ⟨by decide +kernel, rfl⟩
theorem dX5_holderOf_80 : Dc MX5_holderOf 80 81 (.aload_n 0) 1 := ⟨by decide +kernel, rfl⟩
theorem dX5_holderOf_81 : Dc MX5_holderOf 81 83 (.iload 4) 2 := ⟨by decide +kernel, rfl⟩
theorem dX5_holderOf_83 : Dc MX5_holderOf 83 84 (.aload_n 0) 1 := ⟨by decide +kernel, rfl⟩
theorem dX5_holderOf_84 : Dc MX5_holderOf 84 87 (.getfield 34) 3 := ⟨by decide +kernel, rfl⟩
theorem dX5_holderOf_87 : Dc MX5_holderOf 87 90 (.invokevirtual 53) 3 := ⟨by decide +kernel, rfl⟩
theorem dX5_holderOf_90 : Dc MX5_holderOf 90 93 (.ifCond .eq 14) 3 := ⟨by decide +kernel, rfl⟩
theorem dX5_holderOf_93 : Dc MX5_holderOf 93 94 (.aload_n 0) 1 := ⟨by decide +kernel, rfl⟩
theorem dX5_holderOf_94 : Dc MX5_holderOf 94 97 (.getfield 31) 3 := ⟨by decide +kernel, rfl⟩
theorem dX5_holderOf_97 : Dc MX5_holderOf 97 99 (.iload 4) 2 := ⟨by decide +kernel, rfl⟩
theorem dX5_holderOf_99 : Dc MX5_holderOf 99 100 (.iaload) 1 := ⟨by decide +kernel, rfl⟩
theorem dX5_holderOf_100 : Dc MX5_holderOf 100 101 (.istore_n 3) 1 := ⟨by decide +kernel, rfl⟩
theorem dX5_holderOf_101 : Dc MX5_holderOf 101 103 (.iload 4) 2 := ⟨by decide +kernel, rfl⟩
theorem dX5_holderOf_103 : Dc MX5_holderOf 103 104 (.istore_n 2) 1 := ⟨by decide +kernel, rfl⟩
theorem dX5_holderOf_104 : Dc MX5_holderOf 104 107 (.iinc 4 1) 3 := ⟨by decide +kernel, rfl⟩
theorem dX5_holderOf_107 : Dc MX5_holderOf 107 110 (.goto (-85)) 3 := ⟨by decide +kernel, rfl⟩
theorem dX5_holderOf_110 : Dc MX5_holderOf 110 111 (.iload_n 2) 1 := ⟨by decide +kernel, rfl⟩
theorem dX5_holderOf_111 : Dc MX5_holderOf 111 112 (.ireturn) 1 := ⟨by decide +kernel, rfl⟩
theorem dX5_isHolder_0 : Dc MX5_isHolder 0 1 (.iload_n 1) 1 := ⟨by decide +kernel, rfl⟩
theorem dX5_isHolder_1 : Dc MX5_isHolder 1 4 (.invokestatic 50) 3 := ⟨by decide +kernel, rfl⟩
theorem dX5_isHolder_4 : Dc MX5_isHolder 4 7 (.ifCond .eq 21) 3 := ⟨by decide +kernel, rfl⟩
theorem dX5_isHolder_7 : Dc MX5_isHolder 7 8 (.aload_n 0) 1 := ⟨by decide +kernel, rfl⟩
theorem dX5_isHolder_8 : Dc MX5_isHolder 8 9 (.aload_n 0) 1 := ⟨by decide +kernel, rfl⟩
theorem dX5_isHolder_9 : Dc MX5_isHolder 9 12 (.getfield 25) 3 := ⟨by decide +kernel, rfl⟩
theorem dX5_isHolder_12 : Dc MX5_isHolder 12 13 (.iload_n 1) 1 := ⟨by decide +kernel, rfl⟩
theorem dX5_isHolder_13 : Dc MX5_isHolder 13 14 (.iaload) 1 := ⟨by decide +kernel, rfl⟩
theorem dX5_isHolder_14 : Dc MX5_isHolder 14 17 (.invokevirtual 69) 3 := ⟨by decide +kernel, rfl⟩
theorem dX5_isHolder_17 : Dc MX5_isHolder 17 18 (.iload_n 1) 1 := ⟨by decide +kernel, rfl⟩
theorem dX5_isHolder_18 : Dc MX5_isHolder 18 21 (.if_icmp .ne 7) 3 := ⟨by decide +kernel, rfl⟩
theorem dX5_isHolder_21 : Dc MX5_isHolder 21 22 (.iconst 1) 1 := ⟨by decide +kernel, rfl⟩
theorem dX5_isHolder_22 : Dc MX5_isHolder 22 25 (.goto 4) 3 := ⟨by decide +kernel, rfl⟩
theorem dX5_isHolder_25 : Dc MX5_isHolder 25 26 (.iconst 0) 1 := ⟨by decide +kernel, rfl⟩
theorem dX5_isHolder_26 : Dc MX5_isHolder 26 27 (.ireturn) 1 := ⟨by decide +kernel, rfl⟩
theorem dX5_maySpeak_0 : Dc MX5_maySpeak 0 1 (.iload_n 1) 1 := ⟨by decide +kernel, rfl⟩
theorem dX5_maySpeak_1 : Dc MX5_maySpeak 1 4 (.invokestatic 50) 3 := ⟨by decide +kernel, rfl⟩
theorem dX5_maySpeak_4 : Dc MX5_maySpeak 4 7 (.ifCond .eq 11) 3 := ⟨by decide +kernel, rfl⟩
theorem dX5_maySpeak_7 : Dc MX5_maySpeak 7 8 (.aload_n 0) 1 := ⟨by decide +kernel, rfl⟩
theorem dX5_maySpeak_8 : Dc MX5_maySpeak 8 9 (.iload_n 1) 1 := ⟨by decide +kernel, rfl⟩
theorem dX5_maySpeak_9 : Dc MX5_maySpeak 9 12 (.invokevirtual 72) 3 := ⟨by decide +kernel, rfl⟩
theorem dX5_maySpeak_12 : Dc MX5_maySpeak 12 15 (.ifCond .ne 5) 3 := ⟨by decide +kernel, rfl⟩
theorem dX5_maySpeak_15 : Dc MX5_maySpeak 15 16 (.iconst 0) 1 := ⟨by decide +kernel, rfl⟩
theorem dX5_maySpeak_16 : Dc MX5_maySpeak 16 17 (.ireturn) 1 := ⟨by decide +kernel, rfl⟩
theorem dX5_maySpeak_17 : Dc MX5_maySpeak 17 18 (.aload_n 0) 1 := ⟨by decide +kernel, rfl⟩
theorem dX5_maySpeak_18 : Dc MX5_maySpeak 18 19 (.aload_n 0) 1 := ⟨by decide +kernel, rfl⟩
theorem dX5_maySpeak_19 : Dc MX5_maySpeak 19 22 (.getfield 25) 3 := ⟨by decide +kernel, rfl⟩
theorem dX5_maySpeak_22 : Dc MX5_maySpeak 22 23 (.iload_n 1) 1 := ⟨by decide +kernel, rfl⟩
theorem dX5_maySpeak_23 : Dc MX5_maySpeak 23 24 (.iaload) 1 := ⟨by decide +kernel, rfl⟩
theorem dX5_maySpeak_24 : Dc MX5_maySpeak 24 27 (.invokevirtual 69) 3 := ⟨by decide +kernel, rfl⟩
theorem dX5_maySpeak_27 : Dc MX5_maySpeak 27 28 (.istore_n 2) 1 := ⟨by decide +kernel, rfl⟩
theorem dX5_maySpeak_28 : Dc MX5_maySpeak 28 29 (.iload_n 2) 1 := ⟨by decide +kernel, rfl⟩
theorem dX5_maySpeak_29 : Dc MX5_maySpeak 29 31 (.bipush (-6)) 2 := ⟨by decide +kernel, rfl⟩
theorem dX5_maySpeak_31 : Dc MX5_maySpeak 31 34 (.if_icmp .eq 8) 3 := ⟨by decide +kernel, rfl⟩
theorem dX5_maySpeak_34 : Dc MX5_maySpeak 34 35 (.iload_n 2) 1 := ⟨by decide +kernel, rfl⟩
theorem dX5_maySpeak_35 : Dc MX5_maySpeak 35 36 (.iload_n 1) 1 := ⟨by decide +kernel, rfl⟩
theorem dX5_maySpeak_36 : Dc MX5_maySpeak 36 39 (.if_icmp .ne 7) 3 := ⟨by decide +kernel, rfl⟩
theorem dX5_maySpeak_39 : Dc MX5_maySpeak 39 40 (.iconst 1) 1 := ⟨by decide +kernel, rfl⟩
theorem dX5_maySpeak_40 : Dc MX5_maySpeak 40 43 (.goto 4) 3 := ⟨by decide +kernel, rfl⟩
theorem dX5_maySpeak_43 : Dc MX5_maySpeak 43 44 (.iconst 0) 1 := ⟨by decide +kernel, rfl⟩
theorem dX5_maySpeak_44 : Dc MX5_maySpeak 44 45 (.ireturn) 1 := ⟨by decide +kernel, rfl⟩
theorem dX5_passMinute_0 : Dc MX5_passMinute 0 1 (.aload_n 0) 1 := ⟨by decide +kernel, rfl⟩
theorem dX5_passMinute_1 : Dc MX5_passMinute 1 4 (.getfield 34) 3 := ⟨by decide +kernel, rfl⟩
theorem dX5_passMinute_4 : Dc MX5_passMinute 4 5 (.aload_n 0) 1 := ⟨by decide +kernel, rfl⟩
theorem dX5_passMinute_5 : Dc MX5_passMinute 5 8 (.getfield 9) 3 := ⟨by decide +kernel, rfl⟩
theorem dX5_passMinute_8 : Dc MX5_passMinute 8 11 (.if_icmp .lt 5) 3 := ⟨by decide +kernel, rfl⟩
theorem dX5_passMinute_11 : Dc MX5_passMinute 11 12 (.iconst 0) 1 := ⟨by decide +kernel, rfl⟩
theorem dX5_passMinute_12 : Dc MX5_passMinute 12 13 (.ireturn) 1 := ⟨by decide +kernel, rfl⟩
theorem dX5_passMinute_13 : Dc MX5_passMinute 13 14 (.iconst 0) 1 := ⟨by decide +kernel, rfl⟩
theorem dX5_passMinute_14 : Dc MX5_passMinute 14 15 (.istore_n 1) 1 := ⟨by decide +kernel, rfl⟩
theorem dX5_passMinute_15 : Dc MX5_passMinute 15 16 (.iload_n 1) 1 := ⟨by decide +kernel, rfl⟩
theorem dX5_passMinute_16 : Dc MX5_passMinute 16 17 (.iconst 3) 1 := ⟨by decide +kernel, rfl⟩
theorem dX5_passMinute_17 : Dc MX5_passMinute 17 20 (.if_icmp .ge 33) 3 := ⟨by decide +kernel, rfl⟩
theorem dX5_passMinute_20 : Dc MX5_passMinute 20 21 (.aload_n 0) 1 := ⟨by decide +kernel, rfl⟩
theorem dX5_passMinute_21 : Dc MX5_passMinute 21 22 (.iload_n 1) 1 := ⟨by decide +kernel, rfl⟩
theorem dX5_passMinute_22 : Dc MX5_passMinute 22 25 (.invokevirtual 69) 3 := ⟨by decide +kernel, rfl⟩
theorem dX5_passMinute_25 : Dc MX5_passMinute 25 26 (.istore_n 2) 1 := ⟨by decide +kernel, rfl⟩
theorem dX5_passMinute_26 : Dc MX5_passMinute 26 27 (.iload_n 2) 1 := ⟨by decide +kernel, rfl⟩
theorem dX5_passMinute_27 : Dc MX5_passMinute 27 30 (.invokestatic 50) 3 := ⟨by decide +kernel, rfl⟩
theorem dX5_passMinute_30 : Dc MX5_passMinute 30 33 (.ifCond .eq 14) 3 := ⟨by decide +kernel, rfl⟩
theorem dX5_passMinute_33 : Dc MX5_passMinute 33 34 (.aload_n 0) 1 := ⟨by decide +kernel, rfl⟩
theorem dX5_passMinute_34 : Dc MX5_passMinute 34 35 (.iload_n 2) 1 := ⟨by decide +kernel, rfl⟩
theorem dX5_passMinute_35 : Dc MX5_passMinute 35 36 (.aload_n 0) 1 := ⟨by decide +kernel, rfl⟩
theorem dX5_passMinute_36 : Dc MX5_passMinute 36 39 (.getfield 31) 3 := ⟨by decide +kernel, rfl⟩
theorem dX5_passMinute_39 : Dc MX5_passMinute 39 40 (.iload_n 2) 1 := ⟨by decide +kernel, rfl⟩
theorem dX5_passMinute_40 : Dc MX5_passMinute 40 41 (.iaload) 1 := ⟨by decide +kernel, rfl⟩
theorem dX5_passMinute_41 : Dc MX5_passMinute 41 44 (.invokevirtual 75) 3 := ⟨by decide +kernel, rfl⟩
theorem dX5_passMinute_44 : Dc MX5_passMinute 44 47 (.iinc 1 1) 3 := ⟨by decide +kernel, rfl⟩
theorem dX5_passMinute_47 : Dc MX5_passMinute 47 50 (.goto (-32)) 3 := ⟨by decide +kernel, rfl⟩
theorem dX5_passMinute_50 : Dc MX5_passMinute 50 51 (.aload_n 0) 1 := ⟨by decide +kernel, rfl⟩
theorem dX5_passMinute_51 : Dc MX5_passMinute 51 52 (.dup) 1 := ⟨by decide +kernel, rfl⟩
theorem dX5_passMinute_52 : Dc MX5_passMinute 52 55 (.getfield 34) 3 := ⟨by decide +kernel, rfl⟩
theorem dX5_passMinute_55 : Dc MX5_passMinute 55 56 (.iconst 1) 1 := ⟨by decide +kernel, rfl⟩
theorem dX5_passMinute_56 : Dc MX5_passMinute 56 57 (.iadd) 1 := ⟨by decide +kernel, rfl⟩
theorem dX5_passMinute_57 : Dc MX5_passMinute 57 60 (.putfield 34) 3 := ⟨by decide +kernel, rfl⟩
theorem dX5_passMinute_60 : Dc MX5_passMinute 60 61 (.iconst 1) 1 := ⟨by decide +kernel, rfl⟩
theorem dX5_passMinute_61 : Dc MX5_passMinute 61 62 (.ireturn) 1 := ⟨by decide +kernel, rfl⟩
theorem dX5_takeCough_0 : Dc MX5_takeCough 0 1 (.iload_n 1) 1 := ⟨by decide +kernel, rfl⟩
theorem dX5_takeCough_1 : Dc MX5_takeCough 1 4 (.invokestatic 50) 3 := ⟨by decide +kernel, rfl⟩
theorem dX5_takeCough_4 : Dc MX5_takeCough 4 7 (.ifCond .eq 11) 3 := ⟨by decide +kernel, rfl⟩
theorem dX5_takeCough_7 : Dc MX5_takeCough 7 8 (.aload_n 0) 1 := ⟨by decide +kernel, rfl⟩
theorem dX5_takeCough_8 : Dc MX5_takeCough 8 9 (.iload_n 1) 1 := ⟨by decide +kernel, rfl⟩
theorem dX5_takeCough_9 : Dc MX5_takeCough 9 12 (.invokevirtual 72) 3 := ⟨by decide +kernel, rfl⟩
theorem dX5_takeCough_12 : Dc MX5_takeCough 12 15 (.ifCond .ne 4) 3 := ⟨by decide +kernel, rfl⟩
theorem dX5_takeCough_15 : Dc MX5_takeCough 15 16 (.return_) 1 := ⟨by decide +kernel, rfl⟩
theorem dX5_takeCough_16 : Dc MX5_takeCough 16 17 (.aload_n 0) 1 := ⟨by decide +kernel, rfl⟩
theorem dX5_takeCough_17 : Dc MX5_takeCough 17 18 (.aload_n 0) 1 := ⟨by decide +kernel, rfl⟩
theorem dX5_takeCough_18 : Dc MX5_takeCough 18 21 (.getfield 25) 3 := ⟨by decide +kernel, rfl⟩
theorem dX5_takeCough_21 : Dc MX5_takeCough 21 22 (.iload_n 1) 1 := ⟨by decide +kernel, rfl⟩
theorem dX5_takeCough_22 : Dc MX5_takeCough 22 23 (.iaload) 1 := ⟨by decide +kernel, rfl⟩
theorem dX5_takeCough_23 : Dc MX5_takeCough 23 26 (.invokevirtual 69) 3 := ⟨by decide +kernel, rfl⟩
theorem dX5_takeCough_26 : Dc MX5_takeCough 26 27 (.istore_n 2) 1 := ⟨by decide +kernel, rfl⟩
theorem dX5_takeCough_27 : Dc MX5_takeCough 27 28 (.iload_n 2) 1 := ⟨by decide +kernel, rfl⟩
theorem dX5_takeCough_28 : Dc MX5_takeCough 28 31 (.invokestatic 50) 3 := ⟨by decide +kernel, rfl⟩
theorem dX5_takeCough_31 : Dc MX5_takeCough 31 34 (.ifCond .eq 38) 3 := ⟨by decide +kernel, rfl⟩
theorem dX5_takeCough_34 : Dc MX5_takeCough 34 35 (.iload_n 2) 1 := ⟨by decide +kernel, rfl⟩
theorem dX5_takeCough_35 : Dc MX5_takeCough 35 36 (.iload_n 1) 1 := ⟨by decide +kernel, rfl⟩
theorem dX5_takeCough_36 : Dc MX5_takeCough 36 39 (.if_icmp .eq 33) 3 := ⟨by decide +kernel, rfl⟩
theorem dX5_takeCough_39 : Dc MX5_takeCough 39 40 (.aload_n 0) 1 := ⟨by decide +kernel, rfl⟩
theorem dX5_takeCough_40 : Dc MX5_takeCough 40 43 (.getfield 15) 3 := ⟨by decide +kernel, rfl⟩
theorem dX5_takeCough_43 : Dc MX5_takeCough 43 44 (.aload_n 0) 1 := ⟨by decide +kernel, rfl⟩
theorem dX5_takeCough_44 : Dc MX5_takeCough 44 47 (.getfield 28) 3 := ⟨by decide +kernel, rfl⟩
theorem dX5_takeCough_47 : Dc MX5_takeCough 47 48 (.iload_n 2) 1 := ⟨by decide +kernel, rfl⟩
theorem dX5_takeCough_48 : Dc MX5_takeCough 48 49 (.iaload) 1 := ⟨by decide +kernel, rfl⟩
theorem dX5_takeCough_49 : Dc MX5_takeCough 49 52 (.invokestatic 79) 3 := ⟨by decide +kernel, rfl⟩
theorem dX5_takeCough_52 : Dc MX5_takeCough 52 53 (.istore_n 3) 1 := ⟨by decide +kernel, rfl⟩
theorem dX5_takeCough_53 : Dc MX5_takeCough 53 54 (.aload_n 0) 1 := ⟨by decide +kernel, rfl⟩
theorem dX5_takeCough_54 : Dc MX5_takeCough 54 55 (.iload_n 2) 1 := ⟨by decide +kernel, rfl⟩
theorem dX5_takeCough_55 : Dc MX5_takeCough 55 56 (.iload_n 3) 1 := ⟨by decide +kernel, rfl⟩
theorem dX5_takeCough_56 : Dc MX5_takeCough 56 59 (.invokevirtual 75) 3 := ⟨by decide +kernel, rfl⟩
theorem dX5_takeCough_59 : Dc MX5_takeCough 59 60 (.aload_n 0) 1 := ⟨by decide +kernel, rfl⟩
theorem dX5_takeCough_60 : Dc MX5_takeCough 60 61 (.dup) 1 := ⟨by decide +kernel, rfl⟩
theorem dX5_takeCough_61 : Dc MX5_takeCough 61 64 (.getfield 40) 3 := ⟨by decide +kernel, rfl⟩
theorem dX5_takeCough_64 : Dc MX5_takeCough 64 65 (.iload_n 3) 1 := ⟨by decide +kernel, rfl⟩
theorem dX5_takeCough_65 : Dc MX5_takeCough 65 66 (.iadd) 1 := ⟨by decide +kernel, rfl⟩
theorem dX5_takeCough_66 : Dc MX5_takeCough 66 69 (.putfield 40) 3 := ⟨by decide +kernel, rfl⟩
theorem dX5_takeCough_69 : Dc MX5_takeCough 69 70 (.return_) 1 := ⟨by decide +kernel, rfl⟩
theorem dX5_payGuard_0 : Dc MX5_payGuard 0 1 (.iload_n 1) 1 := ⟨by decide +kernel, rfl⟩
theorem dX5_payGuard_1 : Dc MX5_payGuard 1 4 (.invokestatic 50) 3 := ⟨by decide +kernel, rfl⟩
theorem dX5_payGuard_4 : Dc MX5_payGuard 4 7 (.ifCond .eq 23) 3 := ⟨by decide +kernel, rfl⟩
theorem dX5_payGuard_7 : Dc MX5_payGuard 7 8 (.aload_n 0) 1 := ⟨by decide +kernel, rfl⟩
theorem dX5_payGuard_8 : Dc MX5_payGuard 8 11 (.getfield 28) 3 := ⟨by decide +kernel, rfl⟩
theorem dX5_payGuard_11 : Dc MX5_payGuard 11 12 (.iload_n 1) 1 := ⟨by decide +kernel, rfl⟩
theorem dX5_payGuard_12 : Dc MX5_payGuard 12 13 (.dup2) 1 := ⟨by decide +kernel, rfl⟩
theorem dX5_payGuard_13 : Dc MX5_payGuard 13 14 (.iaload) 1 := ⟨by decide +kernel, rfl⟩
theorem dX5_payGuard_14 : Dc MX5_payGuard 14 15 (.iload_n 2) 1 := ⟨by decide +kernel, rfl⟩
theorem dX5_payGuard_15 : Dc MX5_payGuard 15 16 (.isub) 1 := ⟨by decide +kernel, rfl⟩
theorem dX5_payGuard_16 : Dc MX5_payGuard 16 17 (.iastore) 1 := ⟨by decide +kernel, rfl⟩
theorem dX5_payGuard_17 : Dc MX5_payGuard 17 18 (.aload_n 0) 1 := ⟨by decide +kernel, rfl⟩
theorem dX5_payGuard_18 : Dc MX5_payGuard 18 19 (.dup) 1 := ⟨by decide +kernel, rfl⟩
theorem dX5_payGuard_19 : Dc MX5_payGuard 19 22 (.getfield 37) 3 := ⟨by decide +kernel, rfl⟩
theorem dX5_payGuard_22 : Dc MX5_payGuard 22 23 (.iload_n 2) 1 := ⟨by decide +kernel, rfl⟩
theorem dX5_payGuard_23 : Dc MX5_payGuard 23 24 (.iadd) 1 := ⟨by decide +kernel, rfl⟩
theorem dX5_payGuard_24 : Dc MX5_payGuard 24 27 (.putfield 37) 3 := ⟨by decide +kernel, rfl⟩
theorem dX5_payGuard_27 : Dc MX5_payGuard 27 28 (.return_) 1 := ⟨by decide +kernel, rfl⟩
theorem dX5_doDrawn_0 : Dc MX5_doDrawn 0 1 (.iload_n 1) 1 := ⟨by decide +kernel, rfl⟩
theorem dX5_doDrawn_1 : Dc MX5_doDrawn 1 3 (.bipush 8) 2 := ⟨by decide +kernel, rfl⟩
theorem dX5_doDrawn_3 : Dc MX5_doDrawn 3 4 (.irem) 1 := ⟨by decide +kernel, rfl⟩
theorem dX5_doDrawn_4 : Dc MX5_doDrawn 4 5 (.istore_n 2) 1 := ⟨by decide +kernel, rfl⟩
theorem dX5_doDrawn_5 : Dc MX5_doDrawn 5 6 (.iload_n 1) 1 := ⟨by decide +kernel, rfl⟩
theorem dX5_doDrawn_6 : Dc MX5_doDrawn 6 8 (.bipush 8) 2 := ⟨by decide +kernel, rfl⟩
theorem dX5_doDrawn_8 : Dc MX5_doDrawn 8 9 (.idiv) 1 := ⟨by decide +kernel, rfl⟩
theorem dX5_doDrawn_9 : Dc MX5_doDrawn 9 11 (.bipush 6) 2 := ⟨by decide +kernel, rfl⟩
theorem dX5_doDrawn_11 : Dc MX5_doDrawn 11 12 (.irem) 1 := ⟨by decide +kernel, rfl⟩
theorem dX5_doDrawn_12 : Dc MX5_doDrawn 12 13 (.istore_n 3) 1 := ⟨by decide +kernel, rfl⟩
theorem dX5_doDrawn_13 : Dc MX5_doDrawn 13 14 (.iload_n 2) 1 := ⟨by decide +kernel, rfl⟩
theorem dX5_doDrawn_14 : Dc MX5_doDrawn 14 15 (.iconst 1) 1 := ⟨by decide +kernel, rfl⟩
theorem dX5_doDrawn_15 : Dc MX5_doDrawn 15 18 (.if_icmp .gt 11) 3 := ⟨by decide +kernel, rfl⟩
theorem dX5_doDrawn_18 : Dc MX5_doDrawn 18 19 (.aload_n 0) 1 := ⟨by decide +kernel, rfl⟩
theorem dX5_doDrawn_19 : Dc MX5_doDrawn 19 22 (.invokevirtual 84) 3 := ⟨by decide +kernel, rfl⟩
theorem dX5_doDrawn_22 : Dc MX5_doDrawn 22 23 (.pop) 1 := ⟨by decide +kernel, rfl⟩
theorem dX5_doDrawn_23 : Dc MX5_doDrawn 23 26 (.goto 28) 3 := ⟨by decide +kernel, rfl⟩
theorem dX5_doDrawn_26 : Dc MX5_doDrawn 26 27 (.iload_n 2) 1 := ⟨by decide +kernel, rfl⟩
theorem dX5_doDrawn_27 : Dc MX5_doDrawn 27 28 (.iconst 4) 1 := ⟨by decide +kernel, rfl⟩
theorem dX5_doDrawn_28 : Dc MX5_doDrawn 28 31 (.if_icmp .gt 18) 3 := ⟨by decide +kernel, rfl⟩
theorem dX5_doDrawn_31 : Dc MX5_doDrawn 31 32 (.aload_n 0) 1 := ⟨by decide +kernel, rfl⟩
theorem dX5_doDrawn_32 : Dc MX5_doDrawn 32 33 (.iload_n 3) 1 := ⟨by decide +kernel, rfl⟩
theorem dX5_doDrawn_33 : Dc MX5_doDrawn 33 34 (.iload_n 1) 1 := ⟨by decide +kernel, rfl⟩
theorem dX5_doDrawn_34 : Dc MX5_doDrawn 34 36 (.bipush 64) 2 := ⟨by decide +kernel, rfl⟩
theorem dX5_doDrawn_36 : Dc MX5_doDrawn 36 37 (.idiv) 1 := ⟨by decide +kernel, rfl⟩
theorem dX5_doDrawn_37 : Dc MX5_doDrawn 37 39 (.bipush 20) 2 := ⟨by decide +kernel, rfl⟩
theorem dX5_doDrawn_39 : Dc MX5_doDrawn 39 40 (.irem) 1 := ⟨by decide +kernel, rfl⟩
theorem dX5_doDrawn_40 : Dc MX5_doDrawn 40 43 (.invokevirtual 88) 3 := ⟨by decide +kernel, rfl⟩
theorem dX5_doDrawn_43 : Dc MX5_doDrawn 43 46 (.goto 8) 3 := ⟨by decide +kernel, rfl⟩
theorem dX5_doDrawn_46 : Dc MX5_doDrawn 46 47 (.aload_n 0) 1 := ⟨by decide +kernel, rfl⟩
theorem dX5_doDrawn_47 : Dc MX5_doDrawn 47 48 (.iload_n 3) 1 := ⟨by decide +kernel, rfl⟩
theorem dX5_doDrawn_48 : Dc MX5_doDrawn 48 51 (.invokevirtual 91) 3 := ⟨by decide +kernel, rfl⟩
theorem dX5_doDrawn_51 : Dc MX5_doDrawn 51 52 (.return_) 1 := ⟨by decide +kernel, rfl⟩
theorem dX5_knownAfter_0 : Dc MX5_knownAfter 0 1 (.aload_n 0) 1 := ⟨by decide +kernel, rfl⟩
theorem dX5_knownAfter_1 : Dc MX5_knownAfter 1 2 (.iload_n 1) 1 := ⟨by decide +kernel, rfl⟩
theorem dX5_knownAfter_2 : Dc MX5_knownAfter 2 5 (.invokevirtual 46) 3 := ⟨by decide +kernel, rfl⟩
theorem dX5_knownAfter_5 : Dc MX5_knownAfter 5 8 (.ifCond .ne 5) 3 := ⟨by decide +kernel, rfl⟩
theorem dX5_knownAfter_8 : Dc MX5_knownAfter 8 9 (.iload_n 2) 1 := ⟨by decide +kernel, rfl⟩
theorem dX5_knownAfter_9 : Dc MX5_knownAfter 9 10 (.ireturn) 1 := ⟨by decide +kernel, rfl⟩
theorem dX5_knownAfter_10 : Dc MX5_knownAfter 10 11 (.iload_n 2) 1 := ⟨by decide +kernel, rfl⟩
theorem dX5_knownAfter_11 : Dc MX5_knownAfter 11 12 (.istore_n 3) 1 := ⟨by decide +kernel, rfl⟩
theorem dX5_knownAfter_12 : Dc MX5_knownAfter 12 13 (.iconst 0) 1 := ⟨by decide +kernel, rfl⟩
theorem dX5_knownAfter_13 : Dc MX5_knownAfter 13 15 (.istore 4) 2 := ⟨by decide +kernel, rfl⟩
theorem dX5_knownAfter_15 : Dc MX5_knownAfter 15 17 (.iload 4) 2 := ⟨by decide +kernel, rfl⟩
theorem dX5_knownAfter_17 : Dc MX5_knownAfter 17 18 (.iconst 3) 1 := ⟨by decide +kernel, rfl⟩
theorem dX5_knownAfter_18 : Dc MX5_knownAfter 18 21 (.if_icmp .ge 30) 3 := ⟨by decide +kernel, rfl⟩
theorem dX5_knownAfter_21 : Dc MX5_knownAfter 21 22 (.aload_n 0) 1 := ⟨by decide +kernel, rfl⟩
theorem dX5_knownAfter_22 : Dc MX5_knownAfter 22 24 (.iload 4) 2 := ⟨by decide +kernel, rfl⟩
theorem dX5_knownAfter_24 : Dc MX5_knownAfter 24 25 (.iload_n 1) 1 := ⟨by decide +kernel, rfl⟩
theorem dX5_knownAfter_25 : Dc MX5_knownAfter 25 28 (.invokevirtual 61) 3 := ⟨by decide +kernel, rfl⟩
theorem dX5_knownAfter_28 : Dc MX5_knownAfter 28 30 (.istore 5) 2 := ⟨by decide +kernel, rfl⟩
theorem dX5_knownAfter_30 : Dc MX5_knownAfter 30 32 (.iload 5) 2 := ⟨by decide +kernel, rfl⟩
theorem dX5_knownAfter_32 : Dc MX5_knownAfter 32 33 (.iload_n 2) 1 := ⟨by decide +kernel, rfl⟩
theorem dX5_knownAfter_33 : Dc MX5_knownAfter 33 34 (.iand) 1 := ⟨by decide +kernel, rfl⟩
theorem dX5_knownAfter_34 : Dc MX5_knownAfter 34 37 (.ifCond .eq 8) 3 := ⟨by decide +kernel, rfl⟩
theorem dX5_knownAfter_37 : Dc MX5_knownAfter 37 38 (.iload_n 3) 1 := ⟨by decide +kernel, rfl⟩
theorem dX5_knownAfter_38 : Dc MX5_knownAfter 38 40 (.iload 5) 2 := ⟨by decide +kernel, rfl⟩
theorem dX5_knownAfter_40 : Dc MX5_knownAfter 40 41 (.ior) 1 := ⟨by decide +kernel, rfl⟩
theorem dX5_knownAfter_41 : Dc MX5_knownAfter 41 42 (.istore_n 3) 1 := ⟨by decide +kernel, rfl⟩
theorem dX5_knownAfter_42 : Dc MX5_knownAfter 42 45 (.iinc 4 1) 3 := ⟨by decide +kernel, rfl⟩
theorem dX5_knownAfter_45 : Dc MX5_knownAfter 45 48 (.goto (-30)) 3 := ⟨by decide +kernel, rfl⟩
theorem dX5_knownAfter_48 : Dc MX5_knownAfter 48 49 (.iload_n 3) 1 := ⟨by decide +kernel, rfl⟩
theorem dX5_knownAfter_49 : Dc MX5_knownAfter 49 50 (.ireturn) 1 := ⟨by decide +kernel, rfl⟩
theorem dX6_tryRides_0 : Dc MX6_tryRides 0 1 (.iconst 0) 1 := ⟨by decide +kernel, rfl⟩
theorem dX6_tryRides_1 : Dc MX6_tryRides 1 2 (.istore_n 3) 1 := ⟨by decide +kernel, rfl⟩
theorem dX6_tryRides_2 : Dc MX6_tryRides 2 3 (.aload_n 0) 1 := ⟨by decide +kernel, rfl⟩
theorem dX6_tryRides_3 : Dc MX6_tryRides 3 4 (.iconst 0) 1 := ⟨by decide +kernel, rfl⟩
theorem dX6_tryRides_4 : Dc MX6_tryRides 4 7 (.putfield 9) 3 := ⟨by decide +kernel, rfl⟩
theorem dX6_tryRides_7 : Dc MX6_tryRides 7 8 (.aload_n 0) 1 := ⟨by decide +kernel, rfl⟩
theorem dX6_tryRides_8 : Dc MX6_tryRides 8 10 (.bipush (-6)) 2 := ⟨by decide +kernel, rfl⟩
theorem dX6_tryRides_10 : Dc MX6_tryRides 10 13 (.putfield 15) 3 := ⟨by decide +kernel, rfl⟩
theorem dX6_tryRides_13 : Dc MX6_tryRides 13 14 (.iconst 0) 1 := ⟨by decide +kernel, rfl⟩
theorem dX6_tryRides_14 : Dc MX6_tryRides 14 16 (.istore 4) 2 := ⟨by decide +kernel, rfl⟩
theorem dX6_tryRides_16 : Dc MX6_tryRides 16 18 (.iload 4) 2 := ⟨by decide +kernel, rfl⟩
theorem dX6_tryRides_18 : Dc MX6_tryRides 18 20 (.bipush 60) 2 := ⟨by decide +kernel, rfl⟩
theorem dX6_tryRides_20 : Dc MX6_tryRides 20 23 (.if_icmp .ge 55) 3 := ⟨by decide +kernel, rfl⟩
theorem dX6_tryRides_23 : Dc MX6_tryRides 23 24 (.iload_n 3) 1 := ⟨by decide +kernel, rfl⟩
theorem dX6_tryRides_24 : Dc MX6_tryRides 24 25 (.aload_n 1) 1 := ⟨by decide +kernel, rfl⟩
theorem dX6_tryRides_25 : Dc MX6_tryRides 25 28 (.getfield 20) 3 := ⟨by decide +kernel, rfl⟩
theorem dX6_tryRides_28 : Dc MX6_tryRides 28 31 (.if_icmp .ge 47) 3 := ⟨by decide +kernel, rfl⟩
theorem dX6_tryRides_31 : Dc MX6_tryRides 31 32 (.aload_n 0) 1 := ⟨by decide +kernel, rfl⟩
theorem dX6_tryRides_32 : Dc MX6_tryRides 32 33 (.aload_n 1) 1 := ⟨by decide +kernel, rfl⟩
theorem dX6_tryRides_33 : Dc MX6_tryRides 33 34 (.iload_n 3) 1 := ⟨by decide +kernel, rfl⟩
theorem dX6_tryRides_34 : Dc MX6_tryRides 34 35 (.aload_n 2) 1 := ⟨by decide +kernel, rfl⟩
theorem dX6_tryRides_35 : Dc MX6_tryRides 35 38 (.invokestatic 23) 3 := ⟨by decide +kernel, rfl⟩
theorem dX6_tryRides_38 : Dc MX6_tryRides 38 41 (.putfield 15) 3 := ⟨by decide +kernel, rfl⟩
theorem dX6_tryRides_41 : Dc MX6_tryRides 41 42 (.aload_n 0) 1 := ⟨by decide +kernel, rfl⟩
theorem dX6_tryRides_42 : Dc MX6_tryRides 42 45 (.getfield 15) 3 := ⟨by decide +kernel, rfl⟩
theorem dX6_tryRides_45 : Dc MX6_tryRides 45 47 (.bipush (-6)) 2 := ⟨by decide +kernel, rfl⟩
theorem dX6_tryRides_47 : Dc MX6_tryRides 47 50 (.if_icmp .eq 4) 3 := ⟨by decide +kernel, rfl⟩
theorem dX6_tryRides_50 : Dc MX6_tryRides 50 51 (.return_) 1 := ⟨by decide +kernel, rfl⟩
theorem dX6_tryRides_51 : Dc MX6_tryRides 51 52 (.aload_n 0) 1 := ⟨by decide +kernel, rfl⟩
theorem dX6_tryRides_52 : Dc MX6_tryRides 52 53 (.dup) 1 := ⟨by decide +kernel, rfl⟩
theorem dX6_tryRides_53 : Dc MX6_tryRides 53 56 (.getfield 9) 3 := ⟨by decide +kernel, rfl⟩
theorem dX6_tryRides_56 : Dc MX6_tryRides 56 57 (.iconst 1) 1 := ⟨by decide +kernel, rfl⟩
theorem dX6_tryRides_57 : Dc MX6_tryRides 57 58 (.iadd) 1 := ⟨by decide +kernel, rfl⟩
theorem dX6_tryRides_58 : Dc MX6_tryRides 58 61 (.putfield 9) 3 := ⟨by decide +kernel, rfl⟩
theorem dX6_tryRides_61 : Dc MX6_tryRides 61 62 (.iload_n 3) 1 := ⟨by decide +kernel, rfl⟩
theorem dX6_tryRides_62 : Dc MX6_tryRides 62 63 (.aload_n 1) 1 := ⟨by decide +kernel, rfl⟩
theorem dX6_tryRides_63 : Dc MX6_tryRides 63 64 (.iload_n 3) 1 := ⟨by decide +kernel, rfl⟩
theorem dX6_tryRides_64 : Dc MX6_tryRides 64 67 (.invokevirtual 27) 3 := ⟨by decide +kernel, rfl⟩
theorem dX6_tryRides_67 : Dc MX6_tryRides 67 68 (.iadd) 1 := ⟨by decide +kernel, rfl⟩
theorem dX6_tryRides_68 : Dc MX6_tryRides 68 69 (.istore_n 3) 1 := ⟨by decide +kernel, rfl⟩
theorem dX6_tryRides_69 : Dc MX6_tryRides 69 72 (.iinc 4 1) 3 := ⟨by decide +kernel, rfl⟩
theorem dX6_tryRides_72 : Dc MX6_tryRides 72 75 (.goto (-56)) 3 := ⟨by decide +kernel, rfl⟩
theorem dX6_tryRides_75 : Dc MX6_tryRides 75 76 (.return_) 1 := ⟨by decide +kernel, rfl⟩
theorem dX6_tryAct_0 : Dc MX6_tryAct 0 1 (.aload_n 0) 1 := ⟨by decide +kernel, rfl⟩
theorem dX6_tryAct_1 : Dc MX6_tryAct 1 2 (.iload_n 1) 1 := ⟨by decide +kernel, rfl⟩
theorem dX6_tryAct_2 : Dc MX6_tryAct 2 5 (.invokevirtual 31) 3 := ⟨by decide +kernel, rfl⟩
theorem dX6_tryAct_5 : Dc MX6_tryAct 5 6 (.istore_n 3) 1 := ⟨by decide +kernel, rfl⟩
theorem dX6_tryAct_6 : Dc MX6_tryAct 6 7 (.iload_n 3) 1 := ⟨by decide +kernel, rfl⟩
theorem dX6_tryAct_7 : Dc MX6_tryAct 7 9 (.bipush 46) 2 := ⟨by decide +kernel, rfl⟩
theorem dX6_tryAct_9 : Dc MX6_tryAct 9 12 (.if_icmp .ne 17) 3 := ⟨by decide +kernel, rfl⟩
theorem dX6_tryAct_12 : Dc MX6_tryAct 12 13 (.aload_n 2) 1 := ⟨by decide +kernel, rfl⟩
theorem dX6_tryAct_13 : Dc MX6_tryAct 13 16 (.invokevirtual 34) 3 := ⟨by decide +kernel, rfl⟩
theorem dX6_tryAct_16 : Dc MX6_tryAct 16 19 (.ifCond .eq 8) 3 := ⟨by decide +kernel, rfl⟩
theorem dX6_tryAct_19 : Dc MX6_tryAct 19 21 (.bipush (-6)) 2 := ⟨by decide +kernel, rfl⟩
theorem dX6_tryAct_21 : Dc MX6_tryAct 21 24 (.goto 4) 3 := ⟨by decide +kernel, rfl⟩
theorem dX6_tryAct_24 : Dc MX6_tryAct 24 25 (.iconst 3) 1 := ⟨by decide +kernel, rfl⟩
theorem dX6_tryAct_25 : Dc MX6_tryAct 25 26 (.ireturn) 1 := ⟨by decide +kernel, rfl⟩
theorem dX6_tryAct_26 : Dc MX6_tryAct 26 27 (.iload_n 3) 1 := ⟨by decide +kernel, rfl⟩
theorem dX6_tryAct_27 : Dc MX6_tryAct 27 29 (.bipush 65) 2 := ⟨by decide +kernel, rfl⟩
theorem dX6_tryAct_29 : Dc MX6_tryAct 29 30 (.isub) 1 := ⟨by decide +kernel, rfl⟩
theorem dX6_tryAct_30 : Dc MX6_tryAct 30 32 (.istore 4) 2 := ⟨by decide +kernel, rfl⟩
theorem dX6_tryAct_32 : Dc MX6_tryAct 32 33 (.aload_n 0) 1 := ⟨by decide +kernel, rfl⟩
theorem dX6_tryAct_33 : Dc MX6_tryAct 33 34 (.iload_n 1) 1 := ⟨by decide +kernel, rfl⟩
theorem dX6_tryAct_34 : Dc MX6_tryAct 34 35 (.iconst 1) 1 := ⟨by decide +kernel, rfl⟩
theorem dX6_tryAct_35 : Dc MX6_tryAct 35 36 (.iadd) 1 := ⟨by decide +kernel, rfl⟩
theorem dX6_tryAct_36 : Dc MX6_tryAct 36 39 (.invokevirtual 31) 3 := ⟨by decide +kernel, rfl⟩
theorem dX6_tryAct_39 : Dc MX6_tryAct 39 41 (.istore 5) 2 := ⟨by decide +kernel, rfl⟩
theorem dX6_tryAct_41 : Dc MX6_tryAct 41 42 (.aload_n 0) 1 := ⟨by decide +kernel, rfl⟩
theorem dX6_tryAct_42 : Dc MX6_tryAct 42 43 (.iload_n 1) 1 := ⟨by decide +kernel, rfl⟩
theorem dX6_tryAct_43 : Dc MX6_tryAct 43 44 (.iconst 1) 1 := ⟨by decide +kernel, rfl⟩
theorem dX6_tryAct_44 : Dc MX6_tryAct 44 45 (.iadd) 1 := ⟨by decide +kernel, rfl⟩
theorem dX6_tryAct_45 : Dc MX6_tryAct 45 48 (.invokevirtual 40) 3 := ⟨by decide +kernel, rfl⟩
theorem dX6_tryAct_48 : Dc MX6_tryAct 48 51 (.ifCond .eq 31) 3 := ⟨by decide +kernel, rfl⟩
theorem dX6_tryAct_51 : Dc MX6_tryAct 51 52 (.aload_n 2) 1 := ⟨by decide +kernel, rfl⟩
theorem dX6_tryAct_52 : Dc MX6_tryAct 52 54 (.iload 4) 2 := ⟨by decide +kernel, rfl⟩
theorem dX6_tryAct_54 : Dc MX6_tryAct 54 56 (.bipush 10) 2 := ⟨by decide +kernel, rfl⟩
theorem dX6_tryAct_56 : Dc MX6_tryAct 56 58 (.iload 5) 2 := ⟨by decide +kernel, rfl⟩
theorem dX6_tryAct_58 : Dc MX6_tryAct 58 60 (.bipush 48) 2 := ⟨by decide +kernel, rfl⟩
theorem dX6_tryAct_60 : Dc MX6_tryAct 60 61 (.isub) 1 := ⟨by decide +kernel, rfl⟩
theorem dX6_tryAct_61 : Dc MX6_tryAct 61 62 (.imul) 1 := ⟨by decide +kernel, rfl⟩
theorem dX6_tryAct_62 : Dc MX6_tryAct 62 63 (.aload_n 0) 1 := ⟨by decide +kernel, rfl⟩
theorem dX6_tryAct_63 : Dc MX6_tryAct 63 64 (.iload_n 1) 1 := ⟨by decide +kernel, rfl⟩
theorem dX6_tryAct_64 : Dc MX6_tryAct 64 65 (.iconst 2) 1 := ⟨by decide +kernel, rfl⟩
theorem dX6_tryAct_65 : Dc MX6_tryAct 65 66 (.iadd) 1 := ⟨by decide +kernel, rfl⟩
theorem dX6_tryAct_66 : Dc MX6_tryAct 66 69 (.invokevirtual 31) 3 := ⟨by decide +kernel, rfl⟩
theorem dX6_tryAct_69 : Dc MX6_tryAct 69 70 (.iadd) 1 := ⟨by decide +kernel, rfl⟩
theorem dX6_tryAct_70 : Dc MX6_tryAct 70 72 (.bipush 48) 2 := ⟨by decide +kernel, rfl⟩
theorem dX6_tryAct_72 : Dc MX6_tryAct 72 73 (.isub) 1 := ⟨by decide +kernel, rfl⟩
theorem dX6_tryAct_73 : Dc MX6_tryAct 73 76 (.invokevirtual 44) 3 := ⟨by decide +kernel, rfl⟩
theorem dX6_tryAct_76 : Dc MX6_tryAct 76 78 (.bipush (-6)) 2 := ⟨by decide +kernel, rfl⟩
theorem dX6_tryAct_78 : Dc MX6_tryAct 78 79 (.ireturn) 1 := ⟨by decide +kernel, rfl⟩
theorem dX6_tryAct_79 : Dc MX6_tryAct 79 80 (.aload_n 2) 1 := ⟨by decide +kernel, rfl⟩
theorem dX6_tryAct_80 : Dc MX6_tryAct 80 82 (.iload 4) 2 := ⟨by decide +kernel, rfl⟩
theorem dX6_tryAct_82 : Dc MX6_tryAct 82 85 (.invokevirtual 48) 3 := ⟨by decide +kernel, rfl⟩
theorem dX6_tryAct_85 : Dc MX6_tryAct 85 88 (.ifCond .ne 5) 3 := ⟨by decide +kernel, rfl⟩
theorem dX6_tryAct_88 : Dc MX6_tryAct 88 89 (.iconst 1) 1 := ⟨by decide +kernel, rfl⟩
theorem dX6_tryAct_89 : Dc MX6_tryAct 89 90 (.ireturn) 1 := ⟨by decide +kernel, rfl⟩
theorem dX6_tryAct_90 : Dc MX6_tryAct 90 92 (.iload 5) 2 := ⟨by decide +kernel, rfl⟩
theorem dX6_tryAct_92 : Dc MX6_tryAct 92 94 (.bipush 115) 2 := ⟨by decide +kernel, rfl⟩
theorem dX6_tryAct_94 : Dc MX6_tryAct 94 97 (.if_icmp .ne 14) 3 := ⟨by decide +kernel, rfl⟩
theorem dX6_tryAct_97 : Dc MX6_tryAct 97 98 (.aload_n 2) 1 := ⟨by decide +kernel, rfl⟩
theorem dX6_tryAct_98 : Dc MX6_tryAct 98 100 (.iload 4) 2 := ⟨by decide +kernel, rfl⟩
theorem dX6_tryAct_100 : Dc MX6_tryAct 100 103 (.invokevirtual 51) 3 := ⟨by decide +kernel, rfl⟩
theorem dX6_tryAct_103 : Dc MX6_tryAct 103 106 (.ifCond .ne 5) 3 := ⟨by decide +kernel, rfl⟩
theorem dX6_tryAct_106 : Dc MX6_tryAct 106 107 (.iconst 2) 1 := ⟨by decide +kernel, rfl⟩
theorem dX6_tryAct_107 : Dc MX6_tryAct 107 108 (.ireturn) 1 := ⟨by decide +kernel, rfl⟩
theorem dX6_tryAct_108 : Dc MX6_tryAct 108 110 (.iload 5) 2 := ⟨by decide +kernel, rfl⟩
theorem dX6_tryAct_110 : Dc MX6_tryAct 110 112 (.bipush 99) 2 := ⟨by decide +kernel, rfl⟩
theorem dX6_tryAct_112 : Dc MX6_tryAct 112 115 (.if_icmp .ne 9) 3 := ⟨by decide +kernel, rfl⟩
theorem dX6_tryAct_115 : Dc MX6_tryAct 115 116 (.aload_n 2) 1 := ⟨by decide +kernel, rfl⟩
theorem dX6_tryAct_116 : Dc MX6_tryAct 116 118 (.iload 4) 2 := ⟨by decide +kernel, rfl⟩
theorem dX6_tryAct_118 : Dc MX6_tryAct 118 121 (.invokevirtual 54) 3 := ⟨by decide +kernel, rfl⟩
theorem dX6_tryAct_121 : Dc MX6_tryAct 121 123 (.bipush (-6)) 2 := ⟨by decide +kernel, rfl⟩
theorem dX6_tryAct_123 : Dc MX6_tryAct 123 124 (.ireturn) 1 := ⟨by decide +kernel, rfl⟩
theorem dJ6_bitCount_0 : Dc MJ6_bitCount 0 1 (.iload_n 0) 1 := ⟨by decide +kernel, rfl⟩
theorem dJ6_bitCount_1 : Dc MJ6_bitCount 1 2 (.iload_n 0) 1 := ⟨by decide +kernel, rfl⟩
theorem dJ6_bitCount_2 : Dc MJ6_bitCount 2 3 (.iconst 1) 1 := ⟨by decide +kernel, rfl⟩
theorem dJ6_bitCount_3 : Dc MJ6_bitCount 3 4 (.iushr) 1 := ⟨by decide +kernel, rfl⟩
theorem dJ6_bitCount_4 : Dc MJ6_bitCount 4 7 (.ldc_w 265) 3 := ⟨by decide +kernel, rfl⟩
theorem dJ6_bitCount_7 : Dc MJ6_bitCount 7 8 (.iand) 1 := ⟨by decide +kernel, rfl⟩
theorem dJ6_bitCount_8 : Dc MJ6_bitCount 8 9 (.isub) 1 := ⟨by decide +kernel, rfl⟩
theorem dJ6_bitCount_9 : Dc MJ6_bitCount 9 10 (.istore_n 0) 1 := ⟨by decide +kernel, rfl⟩
theorem dJ6_bitCount_10 : Dc MJ6_bitCount 10 11 (.iload_n 0) 1 := ⟨by decide +kernel, rfl⟩
theorem dJ6_bitCount_11 : Dc MJ6_bitCount 11 14 (.ldc_w 266) 3 := ⟨by decide +kernel, rfl⟩
theorem dJ6_bitCount_14 : Dc MJ6_bitCount 14 15 (.iand) 1 := ⟨by decide +kernel, rfl⟩
theorem dJ6_bitCount_15 : Dc MJ6_bitCount 15 16 (.iload_n 0) 1 := ⟨by decide +kernel, rfl⟩
theorem dJ6_bitCount_16 : Dc MJ6_bitCount 16 17 (.iconst 2) 1 := ⟨by decide +kernel, rfl⟩
theorem dJ6_bitCount_17 : Dc MJ6_bitCount 17 18 (.iushr) 1 := ⟨by decide +kernel, rfl⟩
theorem dJ6_bitCount_18 : Dc MJ6_bitCount 18 21 (.ldc_w 266) 3 := ⟨by decide +kernel, rfl⟩
theorem dJ6_bitCount_21 : Dc MJ6_bitCount 21 22 (.iand) 1 := ⟨by decide +kernel, rfl⟩
theorem dJ6_bitCount_22 : Dc MJ6_bitCount 22 23 (.iadd) 1 := ⟨by decide +kernel, rfl⟩
theorem dJ6_bitCount_23 : Dc MJ6_bitCount 23 24 (.istore_n 0) 1 := ⟨by decide +kernel, rfl⟩
theorem dJ6_bitCount_24 : Dc MJ6_bitCount 24 25 (.iload_n 0) 1 := ⟨by decide +kernel, rfl⟩
theorem dJ6_bitCount_25 : Dc MJ6_bitCount 25 26 (.iload_n 0) 1 := ⟨by decide +kernel, rfl⟩
theorem dJ6_bitCount_26 : Dc MJ6_bitCount 26 27 (.iconst 4) 1 := ⟨by decide +kernel, rfl⟩
theorem dJ6_bitCount_27 : Dc MJ6_bitCount 27 28 (.iushr) 1 := ⟨by decide +kernel, rfl⟩
theorem dJ6_bitCount_28 : Dc MJ6_bitCount 28 29 (.iadd) 1 := ⟨by decide +kernel, rfl⟩
theorem dJ6_bitCount_29 : Dc MJ6_bitCount 29 32 (.ldc_w 267) 3 := ⟨by decide +kernel, rfl⟩
theorem dJ6_bitCount_32 : Dc MJ6_bitCount 32 33 (.iand) 1 := ⟨by decide +kernel, rfl⟩
theorem dJ6_bitCount_33 : Dc MJ6_bitCount 33 34 (.istore_n 0) 1 := ⟨by decide +kernel, rfl⟩
theorem dJ6_bitCount_34 : Dc MJ6_bitCount 34 35 (.iload_n 0) 1 := ⟨by decide +kernel, rfl⟩
theorem dJ6_bitCount_35 : Dc MJ6_bitCount 35 36 (.iload_n 0) 1 := ⟨by decide +kernel, rfl⟩
theorem dJ6_bitCount_36 : Dc MJ6_bitCount 36 38 (.bipush 8) 2 := ⟨by decide +kernel, rfl⟩
theorem dJ6_bitCount_38 : Dc MJ6_bitCount 38 39 (.iushr) 1 := ⟨by decide +kernel, rfl⟩
theorem dJ6_bitCount_39 : Dc MJ6_bitCount 39 40 (.iadd) 1 := ⟨by decide +kernel, rfl⟩
theorem dJ6_bitCount_40 : Dc MJ6_bitCount 40 41 (.istore_n 0) 1 := ⟨by decide +kernel, rfl⟩
theorem dJ6_bitCount_41 : Dc MJ6_bitCount 41 42 (.iload_n 0) 1 := ⟨by decide +kernel, rfl⟩
theorem dJ6_bitCount_42 : Dc MJ6_bitCount 42 43 (.iload_n 0) 1 := ⟨by decide +kernel, rfl⟩
theorem dJ6_bitCount_43 : Dc MJ6_bitCount 43 45 (.bipush 16) 2 := ⟨by decide +kernel, rfl⟩
theorem dJ6_bitCount_45 : Dc MJ6_bitCount 45 46 (.iushr) 1 := ⟨by decide +kernel, rfl⟩
theorem dJ6_bitCount_46 : Dc MJ6_bitCount 46 47 (.iadd) 1 := ⟨by decide +kernel, rfl⟩
theorem dJ6_bitCount_47 : Dc MJ6_bitCount 47 48 (.istore_n 0) 1 := ⟨by decide +kernel, rfl⟩
theorem dJ6_bitCount_48 : Dc MJ6_bitCount 48 49 (.iload_n 0) 1 := ⟨by decide +kernel, rfl⟩
theorem dJ6_bitCount_49 : Dc MJ6_bitCount 49 51 (.bipush 63) 2 := ⟨by decide +kernel, rfl⟩
theorem dJ6_bitCount_51 : Dc MJ6_bitCount 51 52 (.iand) 1 := ⟨by decide +kernel, rfl⟩
theorem dJ6_bitCount_52 : Dc MJ6_bitCount 52 53 (.ireturn) 1 := ⟨by decide +kernel, rfl⟩
end
section
theorem dX7_line_0 : Dc MX7_line 0 1 (.iload_n 1) 1 := ⟨by decide +kernel, rfl⟩
theorem dX7_line_1 : Dc MX7_line 1 2 (.iconst 1) 1 := ⟨by decide +kernel, rfl⟩
theorem dX7_line_2 : Dc MX7_line 2 4 (.bipush 30) 2 := ⟨by decide +kernel, rfl⟩
theorem dX7_line_4 : Dc MX7_line 4 7 (.invokestatic 64) 3 := ⟨by decide +kernel, rfl⟩
theorem dX7_line_7 : Dc MX7_line 7 10 (.ifCond .ne 6) 3 := ⟨by decide +kernel, rfl⟩
theorem dX7_line_10 : Dc MX7_line 10 12 (.bipush (-2)) 2 := ⟨by decide +kernel, rfl⟩
theorem dX7_line_12 : Dc MX7_line 12 13 (.ireturn) 1 := ⟨by decide +kernel, rfl⟩
theorem dX7_line_13 : Dc MX7_line 13 14 (.aload_n 0) 1 := ⟨by decide +kernel, rfl⟩
theorem dX7_line_14 : Dc MX7_line 14 17 (.getfield 10) 3 := ⟨by decide +kernel, rfl⟩
theorem dX7_line_17 : Dc MX7_line 17 20 (.getfield 68) 3 := ⟨by decide +kernel, rfl⟩
theorem dX7_line_20 : Dc MX7_line 20 21 (.istore_n 2) 1 := ⟨by decide +kernel, rfl⟩
theorem dX7_line_21 : Dc MX7_line 21 22 (.aload_n 0) 1 := ⟨by decide +kernel, rfl⟩
theorem dX7_line_22 : Dc MX7_line 22 25 (.getfield 10) 3 := ⟨by decide +kernel, rfl⟩
theorem dX7_line_25 : Dc MX7_line 25 26 (.iload_n 1) 1 := ⟨by decide +kernel, rfl⟩
theorem dX7_line_26 : Dc MX7_line 26 29 (.putfield 68) 3 := ⟨by decide +kernel, rfl⟩
theorem dX7_line_29 : Dc MX7_line 29 30 (.aload_n 0) 1 := ⟨by decide +kernel, rfl⟩
theorem dX7_line_30 : Dc MX7_line 30 33 (.getfield 10) 3 := ⟨by decide +kernel, rfl⟩
theorem dX7_line_33 : Dc MX7_line 33 34 (.iconst 0) 1 := ⟨by decide +kernel, rfl⟩
theorem dX7_line_34 : Dc MX7_line 34 37 (.putfield 72) 3 := ⟨by decide +kernel, rfl⟩
theorem dX7_line_37 : Dc MX7_line 37 38 (.iload_n 2) 1 := ⟨by decide +kernel, rfl⟩
theorem dX7_line_38 : Dc MX7_line 38 39 (.ireturn) 1 := ⟨by decide +kernel, rfl⟩
theorem dX7_tunnel_0 : Dc MX7_tunnel 0 1 (.iload_n 1) 1 := ⟨by decide +kernel, rfl⟩
theorem dX7_tunnel_1 : Dc MX7_tunnel 1 4 (.invokestatic 75) 3 := ⟨by decide +kernel, rfl⟩
theorem dX7_tunnel_4 : Dc MX7_tunnel 4 7 (.ifCond .ne 6) 3 := ⟨by decide +kernel, rfl⟩
theorem dX7_tunnel_7 : Dc MX7_tunnel 7 9 (.bipush (-2)) 2 := ⟨by decide +kernel, rfl⟩
theorem dX7_tunnel_9 : Dc MX7_tunnel 9 10 (.ireturn) 1 := ⟨by decide +kernel, rfl⟩
theorem dX7_tunnel_10 : Dc MX7_tunnel 10 11 (.iconst 1) 1 := ⟨by decide +kernel, rfl⟩
theorem dX7_tunnel_11 : Dc MX7_tunnel 11 12 (.iload_n 1) 1 := ⟨by decide +kernel, rfl⟩
theorem dX7_tunnel_12 : Dc MX7_tunnel 12 13 (.ishl) 1 := ⟨by decide +kernel, rfl⟩
theorem dX7_tunnel_13 : Dc MX7_tunnel 13 14 (.istore_n 3) 1 := ⟨by decide +kernel, rfl⟩
theorem dX7_tunnel_14 : Dc MX7_tunnel 14 15 (.aload_n 0) 1 := ⟨by decide +kernel, rfl⟩
theorem dX7_tunnel_15 : Dc MX7_tunnel 15 18 (.getfield 10) 3 := ⟨by decide +kernel, rfl⟩
theorem dX7_tunnel_18 : Dc MX7_tunnel 18 19 (.iload_n 2) 1 := ⟨by decide +kernel, rfl⟩
theorem dX7_tunnel_19 : Dc MX7_tunnel 19 22 (.ifCond .eq 15) 3 := ⟨by decide +kernel, rfl⟩
theorem dX7_tunnel_22 : Dc MX7_tunnel 22 23 (.aload_n 0) 1 := ⟨by decide +kernel, rfl⟩
theorem dX7_tunnel_23 : Dc MX7_tunnel 23 26 (.getfield 10) 3 := ⟨by decide +kernel, rfl⟩
theorem dX7_tunnel_26 : Dc MX7_tunnel 26 29 (.getfield 79) 3 := ⟨by decide +kernel, rfl⟩
theorem dX7_tunnel_29 : Dc MX7_tunnel 29 30 (.iload_n 3) 1 := ⟨by decide +kernel, rfl⟩
theorem dX7_tunnel_30 : Dc MX7_tunnel 30 31 (.ior) 1 := ⟨by decide +kernel, rfl⟩
theorem dX7_tunnel_31 : Dc MX7_tunnel 31 34 (.goto 14) 3 := ⟨by decide +kernel, rfl⟩
theorem dX7_tunnel_34 : Dc MX7_tunnel 34 35 (.aload_n 0) 1 := ⟨by decide +kernel, rfl⟩
theorem dX7_tunnel_35 : Dc MX7_tunnel 35 38 (.getfield 10) 3 := ⟨by decide +kernel, rfl⟩
theorem dX7_tunnel_38 : Dc MX7_tunnel 38 41 (.getfield 79) 3 := ⟨by decide +kernel, rfl⟩
theorem dX7_tunnel_41 : Dc MX7_tunnel 41 42 (.iload_n 3) 1 := ⟨by decide +kernel, rfl⟩
theorem dX7_tunnel_42 : Dc MX7_tunnel 42 43 (.iconst (-1)) 1 := ⟨by decide +kernel, rfl⟩
theorem dX7_tunnel_43 : Dc MX7_tunnel 43 44 (.ixor) 1 := ⟨by decide +kernel, rfl⟩
theorem dX7_tunnel_44 : Dc MX7_tunnel 44 45 (.iand) 1 := ⟨by decide +kernel, rfl⟩
theorem dX7_tunnel_45 : Dc MX7_tunnel 45 48 (.putfield 79) 3 := ⟨by decide +kernel, rfl⟩
theorem dX7_tunnel_48 : Dc MX7_tunnel 48 49 (.aload_n 0) 1 := ⟨by decide +kernel, rfl⟩
theorem dX7_tunnel_49 : Dc MX7_tunnel 49 52 (.getfield 10) 3 := ⟨by decide +kernel, rfl⟩
theorem dX7_tunnel_52 : Dc MX7_tunnel 52 55 (.invokevirtual 82) 3 := ⟨by decide +kernel, rfl⟩
theorem dX7_tunnel_55 : Dc MX7_tunnel 55 56 (.ireturn) 1 := ⟨by decide +kernel, rfl⟩
theorem dX7_ride_0 : Dc MX7_ride 0 1 (.iload_n 1) 1 := ⟨by decide +kernel, rfl⟩
theorem dX7_ride_1 : Dc MX7_ride 1 4 (.invokestatic 86) 3 := ⟨by decide +kernel, rfl⟩
theorem dX7_ride_4 : Dc MX7_ride 4 7 (.ifCond .ne 5) 3 := ⟨by decide +kernel, rfl⟩
theorem dX7_ride_7 : Dc MX7_ride 7 8 (.iconst (-1)) 1 := ⟨by decide +kernel, rfl⟩
theorem dX7_ride_8 : Dc MX7_ride 8 9 (.ireturn) 1 := ⟨by decide +kernel, rfl⟩
theorem dX7_ride_9 : Dc MX7_ride 9 10 (.iload_n 2) 1 := ⟨by decide +kernel, rfl⟩
theorem dX7_ride_10 : Dc MX7_ride 10 11 (.iconst (-1)) 1 := ⟨by decide +kernel, rfl⟩
theorem dX7_ride_11 : Dc MX7_ride 11 14 (.if_icmp .ne 17) 3 := ⟨by decide +kernel, rfl⟩
theorem dX7_ride_14 : Dc MX7_ride 14 15 (.aload_n 0) 1 := ⟨by decide +kernel, rfl⟩
theorem dX7_ride_15 : Dc MX7_ride 15 18 (.getfield 10) 3 := ⟨by decide +kernel, rfl⟩
theorem dX7_ride_18 : Dc MX7_ride 18 19 (.iload_n 1) 1 := ⟨by decide +kernel, rfl⟩
theorem dX7_ride_19 : Dc MX7_ride 19 21 (.bipush (-6)) 2 := ⟨by decide +kernel, rfl⟩
theorem dX7_ride_21 : Dc MX7_ride 21 23 (.bipush (-6)) 2 := ⟨by decide +kernel, rfl⟩
theorem dX7_ride_23 : Dc MX7_ride 23 26 (.invokevirtual 89) 3 := ⟨by decide +kernel, rfl⟩
theorem dX7_ride_26 : Dc MX7_ride 26 27 (.iconst 0) 1 := ⟨by decide +kernel, rfl⟩
theorem dX7_ride_27 : Dc MX7_ride 27 28 (.ireturn) 1 := ⟨by decide +kernel, rfl⟩
theorem dX7_ride_28 : Dc MX7_ride 28 29 (.iload_n 2) 1 := ⟨by decide +kernel, rfl⟩
theorem dX7_ride_29 : Dc MX7_ride 29 32 (.invokestatic 75) 3 := ⟨by decide +kernel, rfl⟩
theorem dX7_ride_32 : Dc MX7_ride 32 35 (.ifCond .eq 15) 3 := ⟨by decide +kernel, rfl⟩
theorem dX7_ride_35 : Dc MX7_ride 35 36 (.iload_n 3) 1 := ⟨by decide +kernel, rfl⟩
theorem dX7_ride_36 : Dc MX7_ride 36 39 (.invokestatic 75) 3 := ⟨by decide +kernel, rfl⟩
theorem dX7_ride_39 : Dc MX7_ride 39 42 (.ifCond .eq 8) 3 := ⟨by decide +kernel, rfl⟩
theorem dX7_ride_42 : Dc MX7_ride 42 43 (.iload_n 2) 1 := ⟨by decide +kernel, rfl⟩
theorem dX7_ride_43 : Dc MX7_ride 43 44 (.iload_n 3) 1 := ⟨by decide +kernel, rfl⟩
theorem dX7_ride_44 : Dc MX7_ride 44 47 (.if_icmp .le 6) 3 := ⟨by decide +kernel, rfl⟩
theorem dX7_ride_47 : Dc MX7_ride 47 49 (.bipush (-2)) 2 := ⟨by decide +kernel, rfl⟩
theorem dX7_ride_49 : Dc MX7_ride 49 50 (.ireturn) 1 := ⟨by decide +kernel, rfl⟩
theorem dX7_ride_50 : Dc MX7_ride 50 51 (.aload_n 0) 1 := ⟨by decide +kernel, rfl⟩
theorem dX7_ride_51 : Dc MX7_ride 51 54 (.getfield 10) 3 := ⟨by decide +kernel, rfl⟩
theorem dX7_ride_54 : Dc MX7_ride 54 55 (.iload_n 1) 1 := ⟨by decide +kernel, rfl⟩
theorem dX7_ride_55 : Dc MX7_ride 55 56 (.iload_n 2) 1 := ⟨by decide +kernel, rfl⟩
theorem dX7_ride_56 : Dc MX7_ride 56 57 (.iload_n 3) 1 := ⟨by decide +kernel, rfl⟩
theorem dX7_ride_57 : Dc MX7_ride 57 60 (.invokevirtual 89) 3 := ⟨by decide +kernel, rfl⟩
theorem dX7_ride_60 : Dc MX7_ride 60 61 (.aload_n 0) 1 := ⟨by decide +kernel, rfl⟩
theorem dX7_ride_61 : Dc MX7_ride 61 64 (.getfield 10) 3 := ⟨by decide +kernel, rfl⟩
theorem dX7_ride_64 : Dc MX7_ride 64 65 (.iload_n 1) 1 := ⟨by decide +kernel, rfl⟩
theorem dX7_ride_65 : Dc MX7_ride 65 68 (.invokevirtual 93) 3 := ⟨by decide +kernel, rfl⟩
theorem dX7_ride_68 : Dc MX7_ride 68 69 (.ireturn) 1 := ⟨by decide +kernel, rfl⟩
theorem dX7_seat_0 : Dc MX7_seat 0 1 (.iload_n 1) 1 := ⟨by decide +kernel, rfl⟩
theorem dX7_seat_1 : Dc MX7_seat 1 4 (.invokestatic 86) 3 := ⟨by decide +kernel, rfl⟩
theorem dX7_seat_4 : Dc MX7_seat 4 7 (.ifCond .eq 10) 3 := ⟨by decide +kernel, rfl⟩
theorem dX7_seat_7 : Dc MX7_seat 7 8 (.iload_n 2) 1 := ⟨by decide +kernel, rfl⟩
theorem dX7_seat_8 : Dc MX7_seat 8 11 (.invokestatic 97) 3 := ⟨by decide +kernel, rfl⟩
theorem dX7_seat_11 : Dc MX7_seat 11 14 (.ifCond .ne 5) 3 := ⟨by decide +kernel, rfl⟩
theorem dX7_seat_14 : Dc MX7_seat 14 15 (.iconst (-1)) 1 := ⟨by decide +kernel, rfl⟩
theorem dX7_seat_15 : Dc MX7_seat 15 16 (.ireturn) 1 := ⟨by decide +kernel, rfl⟩
theorem dX7_seat_16 : Dc MX7_seat 16 17 (.aload_n 0) 1 := ⟨by decide +kernel, rfl⟩
theorem dX7_seat_17 : Dc MX7_seat 17 20 (.getfield 10) 3 := ⟨by decide +kernel, rfl⟩
theorem dX7_seat_20 : Dc MX7_seat 20 23 (.getfield 100) 3 := ⟨by decide +kernel, rfl⟩
theorem dX7_seat_23 : Dc MX7_seat 23 24 (.iload_n 1) 1 := ⟨by decide +kernel, rfl⟩
theorem dX7_seat_24 : Dc MX7_seat 24 25 (.iaload) 1 := ⟨by decide +kernel, rfl⟩
theorem dX7_seat_25 : Dc MX7_seat 25 26 (.istore_n 3) 1 := ⟨by decide +kernel, rfl⟩
theorem dX7_seat_26 : Dc MX7_seat 26 27 (.aload_n 0) 1 := ⟨by decide +kernel, rfl⟩
theorem dX7_seat_27 : Dc MX7_seat 27 30 (.getfield 10) 3 := ⟨by decide +kernel, rfl⟩
theorem dX7_seat_30 : Dc MX7_seat 30 33 (.getfield 100) 3 := ⟨by decide +kernel, rfl⟩
theorem dX7_seat_33 : Dc MX7_seat 33 34 (.iload_n 1) 1 := ⟨by decide +kernel, rfl⟩
theorem dX7_seat_34 : Dc MX7_seat 34 35 (.iload_n 2) 1 := ⟨by decide +kernel, rfl⟩
theorem dX7_seat_35 : Dc MX7_seat 35 36 (.iastore) 1 := ⟨by decide +kernel, rfl⟩
theorem dX7_seat_36 : Dc MX7_seat 36 37 (.iload_n 3) 1 := ⟨by decide +kernel, rfl⟩
theorem dX7_seat_37 : Dc MX7_seat 37 38 (.ireturn) 1 := ⟨by decide +kernel, rfl⟩
theorem dX7_purse_0 : Dc MX7_purse 0 1 (.iload_n 1) 1 := ⟨by decide +kernel, rfl⟩
theorem dX7_purse_1 : Dc MX7_purse 1 4 (.invokestatic 86) 3 := ⟨by decide +kernel, rfl⟩
theorem dX7_purse_4 : Dc MX7_purse 4 7 (.ifCond .ne 5) 3 := ⟨by decide +kernel, rfl⟩
theorem dX7_purse_7 : Dc MX7_purse 7 8 (.iconst (-1)) 1 := ⟨by decide +kernel, rfl⟩
theorem dX7_purse_8 : Dc MX7_purse 8 9 (.ireturn) 1 := ⟨by decide +kernel, rfl⟩
theorem dX7_purse_9 : Dc MX7_purse 9 10 (.iload_n 2) 1 := ⟨by decide +kernel, rfl⟩
theorem dX7_purse_10 : Dc MX7_purse 10 11 (.iconst 0) 1 := ⟨by decide +kernel, rfl⟩
theorem dX7_purse_11 : Dc MX7_purse 11 14 (.sipush 999) 3 := ⟨by decide +kernel, rfl⟩
theorem dX7_purse_14 : Dc MX7_purse 14 17 (.invokestatic 64) 3 := ⟨by decide +kernel, rfl⟩
theorem dX7_purse_17 : Dc MX7_purse 17 20 (.ifCond .ne 6) 3 := ⟨by decide +kernel, rfl⟩
theorem dX7_purse_20 : Dc MX7_purse 20 22 (.bipush (-2)) 2 := ⟨by decide +kernel, rfl⟩
theorem dX7_purse_22 : Dc MX7_purse 22 23 (.ireturn) 1 := ⟨by decide +kernel, rfl⟩
theorem dX7_purse_23 : Dc MX7_purse 23 24 (.aload_n 0) 1 := ⟨by decide +kernel, rfl⟩
theorem dX7_purse_24 : Dc MX7_purse 24 27 (.getfield 10) 3 := ⟨by decide +kernel, rfl⟩
theorem dX7_purse_27 : Dc MX7_purse 27 30 (.getfield 104) 3 := ⟨by decide +kernel, rfl⟩
theorem dX7_purse_30 : Dc MX7_purse 30 31 (.iload_n 1) 1 := ⟨by decide +kernel, rfl⟩
theorem dX7_purse_31 : Dc MX7_purse 31 32 (.iaload) 1 := ⟨by decide +kernel, rfl⟩
theorem dX7_purse_32 : Dc MX7_purse 32 33 (.istore_n 3) 1 := ⟨by decide +kernel, rfl⟩
theorem dX7_purse_33 : Dc MX7_purse 33 34 (.aload_n 0) 1 := ⟨by decide +kernel, rfl⟩
theorem dX7_purse_34 : Dc MX7_purse 34 37 (.getfield 10) 3 := ⟨by decide +kernel, rfl⟩
theorem dX7_purse_37 : Dc MX7_purse 37 40 (.getfield 104) 3 := ⟨by decide +kernel, rfl⟩
theorem dX7_purse_40 : Dc MX7_purse 40 41 (.iload_n 1) 1 := ⟨by decide +kernel, rfl⟩
theorem dX7_purse_41 : Dc MX7_purse 41 42 (.iload_n 2) 1 := ⟨by decide +kernel, rfl⟩
theorem dX7_purse_42 : Dc MX7_purse 42 43 (.iastore) 1 := ⟨by decide +kernel, rfl⟩
theorem dX7_purse_43 : Dc MX7_purse 43 44 (.iload_n 3) 1 := ⟨by decide +kernel, rfl⟩
theorem dX7_purse_44 : Dc MX7_purse 44 45 (.ireturn) 1 := ⟨by decide +kernel, rfl⟩
theorem dX7_fine_0 : Dc MX7_fine 0 1 (.iload_n 1) 1 := ⟨by decide +kernel, rfl⟩
theorem dX7_fine_1 : Dc MX7_fine 1 2 (.iconst 0) 1 := ⟨by decide +kernel, rfl⟩
theorem dX7_fine_2 : Dc MX7_fine 2 4 (.bipush 99) 2 := ⟨by decide +kernel, rfl⟩
theorem dX7_fine_4 : Dc MX7_fine 4 7 (.invokestatic 64) 3 := ⟨by decide +kernel, rfl⟩
theorem dX7_fine_7 : Dc MX7_fine 7 10 (.ifCond .ne 6) 3 := ⟨by decide +kernel, rfl⟩
theorem dX7_fine_10 : Dc MX7_fine 10 12 (.bipush (-2)) 2 := ⟨by decide +kernel, rfl⟩
theorem dX7_fine_12 : Dc MX7_fine 12 13 (.ireturn) 1 := ⟨by decide +kernel, rfl⟩
theorem dX7_fine_13 : Dc MX7_fine 13 14 (.aload_n 0) 1 := ⟨by decide +kernel, rfl⟩
theorem dX7_fine_14 : Dc MX7_fine 14 17 (.getfield 10) 3 := ⟨by decide +kernel, rfl⟩
theorem dX7_fine_17 : Dc MX7_fine 17 20 (.getfield 107) 3 := ⟨by decide +kernel, rfl⟩
theorem dX7_fine_20 : Dc MX7_fine 20 21 (.istore_n 2) 1 := ⟨by decide +kernel, rfl⟩
theorem dX7_fine_21 : Dc MX7_fine 21 22 (.aload_n 0) 1 := ⟨by decide +kernel, rfl⟩
theorem dX7_fine_22 : Dc MX7_fine 22 25 (.getfield 10) 3 := ⟨by decide +kernel, rfl⟩
theorem dX7_fine_25 : Dc MX7_fine 25 26 (.iload_n 1) 1 := ⟨by decide +kernel, rfl⟩
theorem dX7_fine_26 : Dc MX7_fine 26 29 (.putfield 107) 3 := ⟨by decide +kernel, rfl⟩
theorem dX7_fine_29 : Dc MX7_fine 29 30 (.iload_n 2) 1 := ⟨by decide +kernel, rfl⟩
theorem dX7_fine_30 : Dc MX7_fine 30 31 (.ireturn) 1 := ⟨by decide +kernel, rfl⟩
theorem dX7_say_0 : Dc MX7_say 0 1 (.iload_n 1) 1 := ⟨by decide +kernel, rfl⟩
theorem dX7_say_1 : Dc MX7_say 1 3 (.bipush 33) 2 := ⟨by decide +kernel, rfl⟩
theorem dX7_say_3 : Dc MX7_say 3 5 (.bipush 126) 2 := ⟨by decide +kernel, rfl⟩
theorem dX7_say_5 : Dc MX7_say 5 8 (.invokestatic 64) 3 := ⟨by decide +kernel, rfl⟩
theorem dX7_say_8 : Dc MX7_say 8 11 (.ifCond .ne 6) 3 := ⟨by decide +kernel, rfl⟩
theorem dX7_say_11 : Dc MX7_say 11 13 (.bipush (-2)) 2 := ⟨by decide +kernel, rfl⟩
theorem dX7_say_13 : Dc MX7_say 13 14 (.ireturn) 1 := ⟨by decide +kernel, rfl⟩
theorem dX7_say_14 : Dc MX7_say 14 15 (.aload_n 0) 1 := ⟨by decide +kernel, rfl⟩
theorem dX7_say_15 : Dc MX7_say 15 18 (.getfield 22) 3 := ⟨by decide +kernel, rfl⟩
theorem dX7_say_18 : Dc MX7_say 18 19 (.iload_n 1) 1 := ⟨by decide +kernel, rfl⟩
theorem dX7_say_19 : Dc MX7_say 19 22 (.invokevirtual 110) 3 := ⟨by decide +kernel, rfl⟩
theorem dX7_say_22 : Dc MX7_say 22 25 (.ifCond .eq 13) 3 := ⟨by decide +kernel, rfl⟩
theorem dX7_say_25 : Dc MX7_say 25 26 (.aload_n 0) 1 := ⟨by decide +kernel, rfl⟩
theorem dX7_say_26 : Dc MX7_say 26 29 (.getfield 22) 3 := ⟨by decide +kernel, rfl⟩
theorem dX7_say_29 : Dc MX7_say 29 32 (.getfield 113) 3 := ⟨by decide +kernel, rfl⟩
theorem dX7_say_32 : Dc MX7_say 32 35 (.goto 5) 3 := ⟨by decide +kernel, rfl⟩
theorem dX7_say_35 : Dc MX7_say 35 37 (.bipush (-4)) 2 := ⟨by decide +kernel, rfl⟩
theorem dX7_say_37 : Dc MX7_say 37 38 (.ireturn) 1 := ⟨by decide +kernel, rfl⟩
theorem dX7_wipe_0 : Dc MX7_wipe 0 1 (.aload_n 0) 1 := ⟨by decide +kernel, rfl⟩
theorem dX7_wipe_1 : Dc MX7_wipe 1 4 (.getfield 22) 3 := ⟨by decide +kernel, rfl⟩
theorem dX7_wipe_4 : Dc MX7_wipe 4 7 (.invokevirtual 116) 3 := ⟨by decide +kernel, rfl⟩
theorem dX7_wipe_7 : Dc MX7_wipe 7 8 (.ireturn) 1 := ⟨by decide +kernel, rfl⟩
theorem dX7_fault_0 : Dc MX7_fault 0 1 (.aload_n 0) 1 := ⟨by decide +kernel, rfl⟩
theorem dX7_fault_1 : Dc MX7_fault 1 4 (.getfield 22) 3 := ⟨by decide +kernel, rfl⟩
theorem dX7_fault_4 : Dc MX7_fault 4 7 (.invokevirtual 119) 3 := ⟨by decide +kernel, rfl⟩
theorem dX7_fault_7 : Dc MX7_fault 7 8 (.ireturn) 1 := ⟨by decide +kernel, rfl⟩
theorem dX7_judge_0 : Dc MX7_judge 0 1 (.iload_n 1) 1 := ⟨by decide +kernel, rfl⟩
theorem dX7_judge_1 : Dc MX7_judge 1 2 (.iconst 0) 1 := ⟨by decide +kernel, rfl⟩
theorem dX7_judge_2 : Dc MX7_judge 2 3 (.iconst 1) 1 := ⟨by decide +kernel, rfl⟩
theorem dX7_judge_3 : Dc MX7_judge 3 6 (.invokestatic 64) 3 := ⟨by decide +kernel, rfl⟩
theorem dX7_judge_6 : Dc MX7_judge 6 9 (.ifCond .ne 6) 3 := ⟨by decide +kernel, rfl⟩
theorem dX7_judge_9 : Dc MX7_judge 9 11 (.bipush (-2)) 2 := ⟨by decide +kernel, rfl⟩
theorem dX7_judge_11 : Dc MX7_judge 11 12 (.ireturn) 1 := ⟨by decide +kernel, rfl⟩
theorem dX7_judge_12 : Dc MX7_judge 12 13 (.aload_n 0) 1 := ⟨by decide +kernel, rfl⟩
theorem dX7_judge_13 : Dc MX7_judge 13 16 (.getfield 22) 3 := ⟨by decide +kernel, rfl⟩
theorem dX7_judge_16 : Dc MX7_judge 16 19 (.invokevirtual 119) 3 := ⟨by decide +kernel, rfl⟩
theorem dX7_judge_19 : Dc MX7_judge 19 21 (.bipush (-6)) 2 := ⟨by decide +kernel, rfl⟩
theorem dX7_judge_21 : Dc MX7_judge 21 24 (.if_icmp .eq 6) 3 := ⟨by decide +kernel, rfl⟩
theorem dX7_judge_24 : Dc MX7_judge 24 26 (.bipush (-5)) 2 := ⟨by decide +kernel, rfl⟩
theorem dX7_judge_26 : Dc MX7_judge 26 27 (.ireturn) 1 := ⟨by decide +kernel, rfl⟩
theorem dX7_judge_27 : Dc MX7_judge 27 28 (.aload_n 0) 1 := ⟨by decide +kernel, rfl⟩
theorem dX7_judge_28 : Dc MX7_judge 28 31 (.invokevirtual 122) 3 := ⟨by decide +kernel, rfl⟩
theorem dX7_judge_31 : Dc MX7_judge 31 34 (.ifCond .eq 6) 3 := ⟨by decide +kernel, rfl⟩
theorem dX7_judge_34 : Dc MX7_judge 34 36 (.bipush (-6)) 2 := ⟨by decide +kernel, rfl⟩
theorem dX7_judge_36 : Dc MX7_judge 36 37 (.ireturn) 1 := ⟨by decide +kernel, rfl⟩
theorem dX7_judge_37 : Dc MX7_judge 37 38 (.iload_n 1) 1 := ⟨by decide +kernel, rfl⟩
theorem dX7_judge_38 : Dc MX7_judge 38 41 (.ifCond .ne 13) 3 := ⟨by decide +kernel, rfl⟩
theorem dX7_judge_41 : Dc MX7_judge 41 42 (.aload_n 0) 1 := ⟨by decide +kernel, rfl⟩
theorem dX7_judge_42 : Dc MX7_judge 42 45 (.getfield 29) 3 := ⟨by decide +kernel, rfl⟩
theorem dX7_judge_45 : Dc MX7_judge 45 48 (.getfield 126) 3 := ⟨by decide +kernel, rfl⟩
theorem dX7_judge_48 : Dc MX7_judge 48 51 (.goto 10) 3 := ⟨by decide +kernel, rfl⟩
theorem dX7_judge_51 : Dc MX7_judge 51 52 (.aload_n 0) 1 := ⟨by decide +kernel, rfl⟩
theorem dX7_judge_52 : Dc MX7_judge 52 55 (.getfield 29) 3 := ⟨by decide +kernel, rfl⟩
theorem dX7_judge_55 : Dc MX7_judge 55 58 (.getfield 129) 3 := ⟨by decide +kernel, rfl⟩
theorem dX7_judge_58 : Dc MX7_judge 58 59 (.ireturn) 1 := ⟨by decide +kernel, rfl⟩
theorem dX7_done_0 : Dc MX7_done 0 1 (.aload_n 0) 1 := ⟨by decide +kernel, rfl⟩
theorem dX7_done_1 : Dc MX7_done 1 4 (.invokevirtual 122) 3 := ⟨by decide +kernel, rfl⟩
theorem dX7_done_4 : Dc MX7_done 4 7 (.ifCond .ne 6) 3 := ⟨by decide +kernel, rfl⟩
theorem dX7_done_7 : Dc MX7_done 7 9 (.bipush (-5)) 2 := ⟨by decide +kernel, rfl⟩
theorem dX7_done_9 : Dc MX7_done 9 10 (.ireturn) 1 := ⟨by decide +kernel, rfl⟩
theorem dX7_done_10 : Dc MX7_done 10 11 (.aload_n 0) 1 := ⟨by decide +kernel, rfl⟩
theorem dX7_done_11 : Dc MX7_done 11 14 (.getfield 10) 3 := ⟨by decide +kernel, rfl⟩
theorem dX7_done_14 : Dc MX7_done 14 15 (.aload_n 0) 1 := ⟨by decide +kernel, rfl⟩
theorem dX7_done_15 : Dc MX7_done 15 18 (.getfield 16) 3 := ⟨by decide +kernel, rfl⟩
theorem dX7_done_18 : Dc MX7_done 18 21 (.invokevirtual 132) 3 := ⟨by decide +kernel, rfl⟩
theorem dX7_done_21 : Dc MX7_done 21 22 (.aload_n 0) 1 := ⟨by decide +kernel, rfl⟩
theorem dX7_done_22 : Dc MX7_done 22 25 (.getfield 22) 3 := ⟨by decide +kernel, rfl⟩
theorem dX7_done_25 : Dc MX7_done 25 28 (.invokevirtual 116) 3 := ⟨by decide +kernel, rfl⟩
theorem dX7_done_28 : Dc MX7_done 28 29 (.pop) 1 := ⟨by decide +kernel, rfl⟩
theorem dX7_done_29 : Dc MX7_done 29 30 (.aload_n 0) 1 := ⟨by decide +kernel, rfl⟩
theorem dX7_done_30 : Dc MX7_done 30 33 (.getfield 29) 3 := ⟨by decide +kernel, rfl⟩
theorem dX7_done_33 : Dc MX7_done 33 36 (.getfield 126) 3 := ⟨by decide +kernel, rfl⟩
theorem dX7_done_36 : Dc MX7_done 36 37 (.ireturn) 1 := ⟨by decide +kernel, rfl⟩
theorem dX7_behind_0 : Dc MX7_behind 0 1 (.iload_n 1) 1 := ⟨by decide +kernel, rfl⟩
theorem dX7_behind_1 : Dc MX7_behind 1 2 (.iconst 0) 1 := ⟨by decide +kernel, rfl⟩
theorem dX7_behind_2 : Dc MX7_behind 2 4 (.bipush 8) 2 := ⟨by decide +kernel, rfl⟩
theorem dX7_behind_4 : Dc MX7_behind 4 7 (.invokestatic 64) 3 := ⟨by decide +kernel, rfl⟩
theorem dX7_behind_7 : Dc MX7_behind 7 10 (.ifCond .ne 6) 3 := ⟨by decide +kernel, rfl⟩
theorem dX7_behind_10 : Dc MX7_behind 10 12 (.bipush (-2)) 2 := ⟨by decide +kernel, rfl⟩
theorem dX7_behind_12 : Dc MX7_behind 12 13 (.ireturn) 1 := ⟨by decide +kernel, rfl⟩
theorem dX7_behind_13 : Dc MX7_behind 13 14 (.aload_n 0) 1 := ⟨by decide +kernel, rfl⟩
theorem dX7_behind_14 : Dc MX7_behind 14 17 (.invokevirtual 122) 3 := ⟨by decide +kernel, rfl⟩
theorem dX7_behind_17 : Dc MX7_behind 17 20 (.ifCond .ne 6) 3 := ⟨by decide +kernel, rfl⟩
theorem dX7_behind_20 : Dc MX7_behind 20 22 (.bipush (-5)) 2 := ⟨by decide +kernel, rfl⟩
theorem dX7_behind_22 : Dc MX7_behind 22 23 (.ireturn) 1 := ⟨by decide +kernel, rfl⟩
theorem dX7_behind_23 : Dc MX7_behind 23 24 (.iload_n 1) 1 := ⟨by decide +kernel, rfl⟩
theorem dX7_behind_24 : Dc MX7_behind 24 27 (.invokestatic 86) 3 := ⟨by decide +kernel, rfl⟩
theorem dX7_behind_27 : Dc MX7_behind 27 30 (.ifCond .eq 13) 3 := ⟨by decide +kernel, rfl⟩
theorem dX7_behind_30 : Dc MX7_behind 30 31 (.aload_n 0) 1 := ⟨by decide +kernel, rfl⟩
theorem dX7_behind_31 : Dc MX7_behind 31 34 (.getfield 16) 3 := ⟨by decide +kernel, rfl⟩
theorem dX7_behind_34 : Dc MX7_behind 34 37 (.getfield 104) 3 := ⟨by decide +kernel, rfl⟩
theorem dX7_behind_37 : Dc MX7_behind 37 38 (.iload_n 1) 1 := ⟨by decide +kernel, rfl⟩
theorem dX7_behind_38 : Dc MX7_behind 38 39 (.iaload) 1 := ⟨by decide +kernel, rfl⟩
theorem dX7_behind_39 : Dc MX7_behind 39 40 (.ireturn) 1 := ⟨by decide +kernel, rfl⟩
theorem dX7_behind_40 : Dc MX7_behind 40 41 (.iload_n 1) 1 := ⟨by decide +kernel, rfl⟩
theorem dX7_behind_41 : Dc MX7_behind 41 43 (.bipush 6) 2 := ⟨by decide +kernel, rfl⟩
theorem dX7_behind_43 : Dc MX7_behind 43 46 (.if_icmp .ne 11) 3 := ⟨by decide +kernel, rfl⟩
theorem dX7_behind_46 : Dc MX7_behind 46 47 (.aload_n 0) 1 := ⟨by decide +kernel, rfl⟩
theorem dX7_behind_47 : Dc MX7_behind 47 50 (.getfield 16) 3 := ⟨by decide +kernel, rfl⟩
theorem dX7_behind_50 : Dc MX7_behind 50 53 (.getfield 136) 3 := ⟨by decide +kernel, rfl⟩
theorem dX7_behind_53 : Dc MX7_behind 53 54 (.ireturn) 1 := ⟨by decide +kernel, rfl⟩
theorem dX7_behind_54 : Dc MX7_behind 54 55 (.iload_n 1) 1 := ⟨by decide +kernel, rfl⟩
theorem dX7_behind_55 : Dc MX7_behind 55 57 (.bipush 7) 2 := ⟨by decide +kernel, rfl⟩
theorem dX7_behind_57 : Dc MX7_behind 57 60 (.if_icmp .ne 13) 3 := ⟨by decide +kernel, rfl⟩
theorem dX7_behind_60 : Dc MX7_behind 60 61 (.aload_n 0) 1 := ⟨by decide +kernel, rfl⟩
theorem dX7_behind_61 : Dc MX7_behind 61 64 (.getfield 16) 3 := ⟨by decide +kernel, rfl⟩
theorem dX7_behind_64 : Dc MX7_behind 64 67 (.getfield 72) 3 := ⟨by decide +kernel, rfl⟩
theorem dX7_behind_67 : Dc MX7_behind 67 70 (.goto 10) 3 := ⟨by decide +kernel, rfl⟩
theorem dX7_behind_70 : Dc MX7_behind 70 71 (.aload_n 0) 1 := ⟨by decide +kernel, rfl⟩
theorem dX7_behind_71 : Dc MX7_behind 71 74 (.getfield 16) 3 := ⟨by decide +kernel, rfl⟩
theorem dX7_behind_74 : Dc MX7_behind 74 77 (.getfield 139) 3 := ⟨by decide +kernel, rfl⟩
theorem dX7_behind_77 : Dc MX7_behind 77 78 (.ireturn) 1 := ⟨by decide +kernel, rfl⟩
theorem dX7_holds_0 : Dc MX7_holds 0 1 (.iload_n 1) 1 := ⟨by decide +kernel, rfl⟩
theorem dX7_holds_1 : Dc MX7_holds 1 4 (.invokestatic 97) 3 := ⟨by decide +kernel, rfl⟩
theorem dX7_holds_4 : Dc MX7_holds 4 7 (.ifCond .ne 5) 3 := ⟨by decide +kernel, rfl⟩
theorem dX7_holds_7 : Dc MX7_holds 7 8 (.iconst (-1)) 1 := ⟨by decide +kernel, rfl⟩
theorem dX7_holds_8 : Dc MX7_holds 8 9 (.ireturn) 1 := ⟨by decide +kernel, rfl⟩
theorem dX7_holds_9 : Dc MX7_holds 9 10 (.aload_n 0) 1 := ⟨by decide +kernel, rfl⟩
theorem dX7_holds_10 : Dc MX7_holds 10 13 (.getfield 10) 3 := ⟨by decide +kernel, rfl⟩
theorem dX7_holds_13 : Dc MX7_holds 13 14 (.iload_n 1) 1 := ⟨by decide +kernel, rfl⟩
theorem dX7_holds_14 : Dc MX7_holds 14 17 (.invokevirtual 142) 3 := ⟨by decide +kernel, rfl⟩
theorem dX7_holds_17 : Dc MX7_holds 17 18 (.ireturn) 1 := ⟨by decide +kernel, rfl⟩
theorem dX7_hears_0 : Dc MX7_hears 0 1 (.iload_n 1) 1 := ⟨by decide +kernel, rfl⟩
theorem dX7_hears_1 : Dc MX7_hears 1 4 (.invokestatic 86) 3 := ⟨by decide +kernel, rfl⟩
theorem dX7_hears_4 : Dc MX7_hears 4 7 (.ifCond .ne 5) 3 := ⟨by decide +kernel, rfl⟩
theorem dX7_hears_7 : Dc MX7_hears 7 8 (.iconst (-1)) 1 := ⟨by decide +kernel, rfl⟩
theorem dX7_hears_8 : Dc MX7_hears 8 9 (.ireturn) 1 := ⟨by decide +kernel, rfl⟩
theorem dX7_hears_9 : Dc MX7_hears 9 10 (.aload_n 0) 1 := ⟨by decide +kernel, rfl⟩
theorem dX7_hears_10 : Dc MX7_hears 10 13 (.getfield 10) 3 := ⟨by decide +kernel, rfl⟩
theorem dX7_hears_13 : Dc MX7_hears 13 14 (.iload_n 1) 1 := ⟨by decide +kernel, rfl⟩
theorem dX7_hears_14 : Dc MX7_hears 14 17 (.invokevirtual 145) 3 := ⟨by decide +kernel, rfl⟩
theorem dX7_hears_17 : Dc MX7_hears 17 20 (.ifCond .ne 6) 3 := ⟨by decide +kernel, rfl⟩
theorem dX7_hears_20 : Dc MX7_hears 20 22 (.bipush (-6)) 2 := ⟨by decide +kernel, rfl⟩
theorem dX7_hears_22 : Dc MX7_hears 22 23 (.ireturn) 1 := ⟨by decide +kernel, rfl⟩
theorem dX7_hears_23 : Dc MX7_hears 23 24 (.aload_n 0) 1 := ⟨by decide +kernel, rfl⟩
theorem dX7_hears_24 : Dc MX7_hears 24 27 (.getfield 10) 3 := ⟨by decide +kernel, rfl⟩
theorem dX7_hears_27 : Dc MX7_hears 27 28 (.iload_n 1) 1 := ⟨by decide +kernel, rfl⟩
theorem dX7_hears_28 : Dc MX7_hears 28 29 (.aload_n 0) 1 := ⟨by decide +kernel, rfl⟩
theorem dX7_hears_29 : Dc MX7_hears 29 32 (.getfield 10) 3 := ⟨by decide +kernel, rfl⟩
theorem dX7_hears_32 : Dc MX7_hears 32 35 (.getfield 72) 3 := ⟨by decide +kernel, rfl⟩
theorem dX7_hears_35 : Dc MX7_hears 35 38 (.invokevirtual 148) 3 := ⟨by decide +kernel, rfl⟩
theorem dX7_hears_38 : Dc MX7_hears 38 39 (.ireturn) 1 := ⟨by decide +kernel, rfl⟩
theorem dX7_forecast_0 : Dc MX7_forecast 0 1 (.iload_n 1) 1 := ⟨by decide +kernel, rfl⟩
theorem dX7_forecast_1 : Dc MX7_forecast 1 4 (.invokestatic 97) 3 := ⟨by decide +kernel, rfl⟩
theorem dX7_forecast_4 : Dc MX7_forecast 4 7 (.ifCond .ne 5) 3 := ⟨by decide +kernel, rfl⟩
theorem dX7_forecast_7 : Dc MX7_forecast 7 8 (.iconst (-1)) 1 := ⟨by decide +kernel, rfl⟩
theorem dX7_forecast_8 : Dc MX7_forecast 8 9 (.ireturn) 1 := ⟨by decide +kernel, rfl⟩
theorem dX7_forecast_9 : Dc MX7_forecast 9 10 (.iload_n 2) 1 := ⟨by decide +kernel, rfl⟩
theorem dX7_forecast_10 : Dc MX7_forecast 10 11 (.iconst 0) 1 := ⟨by decide +kernel, rfl⟩
theorem dX7_forecast_11 : Dc MX7_forecast 11 13 (.bipush 30) 2 := ⟨by decide +kernel, rfl⟩
theorem dX7_forecast_13 : Dc MX7_forecast 13 16 (.invokestatic 64) 3 := ⟨by decide +kernel, rfl⟩
theorem dX7_forecast_16 : Dc MX7_forecast 16 19 (.ifCond .ne 6) 3 := ⟨by decide +kernel, rfl⟩
theorem dX7_forecast_19 : Dc MX7_forecast 19 21 (.bipush (-2)) 2 := ⟨by decide +kernel, rfl⟩
theorem dX7_forecast_21 : Dc MX7_forecast 21 22 (.ireturn) 1 := ⟨by decide +kernel, rfl⟩
theorem dX7_forecast_22 : Dc MX7_forecast 22 23 (.aload_n 0) 1 := ⟨by decide +kernel, rfl⟩
theorem dX7_forecast_23 : Dc MX7_forecast 23 26 (.getfield 16) 3 := ⟨by decide +kernel, rfl⟩
theorem dX7_forecast_26 : Dc MX7_forecast 26 27 (.aload_n 0) 1 := ⟨by decide +kernel, rfl⟩
theorem dX7_forecast_27 : Dc MX7_forecast 27 30 (.getfield 10) 3 := ⟨by decide +kernel, rfl⟩
theorem dX7_forecast_30 : Dc MX7_forecast 30 33 (.invokevirtual 132) 3 := ⟨by decide +kernel, rfl⟩
theorem dX7_forecast_33 : Dc MX7_forecast 33 34 (.iconst 0) 1 := ⟨by decide +kernel, rfl⟩
theorem dX7_forecast_34 : Dc MX7_forecast 34 35 (.istore_n 3) 1 := ⟨by decide +kernel, rfl⟩
theorem dX7_forecast_35 : Dc MX7_forecast 35 36 (.iload_n 3) 1 := ⟨by decide +kernel, rfl⟩
theorem dX7_forecast_36 : Dc MX7_forecast 36 37 (.iload_n 2) 1 := ⟨by decide +kernel, rfl⟩
theorem dX7_forecast_37 : Dc MX7_forecast 37 40 (.if_icmp .ge 17) 3 := ⟨by decide +kernel, rfl⟩
theorem dX7_forecast_40 : Dc MX7_forecast 40 41 (.aload_n 0) 1 := ⟨by decide +kernel, rfl⟩
theorem dX7_forecast_41 : Dc MX7_forecast 41 44 (.getfield 16) 3 := ⟨by decide +kernel, rfl⟩
theorem dX7_forecast_44 : Dc MX7_forecast 44 47 (.invokevirtual 152) 3 := ⟨by decide +kernel, rfl⟩
theorem dX7_forecast_47 : Dc MX7_forecast 47 48 (.pop) 1 := ⟨by decide +kernel, rfl⟩
theorem dX7_forecast_48 : Dc MX7_forecast 48 51 (.iinc 3 1) 3 := ⟨by decide +kernel, rfl⟩
theorem dX7_forecast_51 : Dc MX7_forecast 51 54 (.goto (-16)) 3 := ⟨by decide +kernel, rfl⟩
theorem dX7_forecast_54 : Dc MX7_forecast 54 55 (.aload_n 0) 1 := ⟨by decide +kernel, rfl⟩
theorem dX7_forecast_55 : Dc MX7_forecast 55 58 (.getfield 16) 3 := ⟨by decide +kernel, rfl⟩
theorem dX7_forecast_58 : Dc MX7_forecast 58 59 (.iload_n 1) 1 := ⟨by decide +kernel, rfl⟩
theorem dX7_forecast_59 : Dc MX7_forecast 59 62 (.invokevirtual 142) 3 := ⟨by decide +kernel, rfl⟩
theorem dX7_forecast_62 : Dc MX7_forecast 62 63 (.ireturn) 1 := ⟨by decide +kernel, rfl⟩
theorem dX7_rests_0 : Dc MX7_rests 0 1 (.iload_n 1) 1 := ⟨by decide +kernel, rfl⟩
theorem dX7_rests_1 : Dc MX7_rests 1 4 (.invokestatic 86) 3 := ⟨by decide +kernel, rfl⟩
theorem dX7_rests_4 : Dc MX7_rests 4 7 (.ifCond .ne 5) 3 := ⟨by decide +kernel, rfl⟩
theorem dX7_rests_7 : Dc MX7_rests 7 8 (.iconst (-1)) 1 := ⟨by decide +kernel, rfl⟩
theorem dX7_rests_8 : Dc MX7_rests 8 9 (.ireturn) 1 := ⟨by decide +kernel, rfl⟩
theorem dX7_rests_9 : Dc MX7_rests 9 10 (.aload_n 0) 1 := ⟨by decide +kernel, rfl⟩
theorem dX7_rests_10 : Dc MX7_rests 10 13 (.invokevirtual 155) 3 := ⟨by decide +kernel, rfl⟩
theorem dX7_rests_13 : Dc MX7_rests 13 14 (.aload_n 0) 1 := ⟨by decide +kernel, rfl⟩
theorem dX7_rests_14 : Dc MX7_rests 14 17 (.getfield 16) 3 := ⟨by decide +kernel, rfl⟩
theorem dX7_rests_17 : Dc MX7_rests 17 20 (.getfield 104) 3 := ⟨by decide +kernel, rfl⟩
theorem dX7_rests_20 : Dc MX7_rests 20 21 (.iload_n 1) 1 := ⟨by decide +kernel, rfl⟩
theorem dX7_rests_21 : Dc MX7_rests 21 22 (.iaload) 1 := ⟨by decide +kernel, rfl⟩
theorem dX7_rests_22 : Dc MX7_rests 22 23 (.ireturn) 1 := ⟨by decide +kernel, rfl⟩
theorem dX7_talks_0 : Dc MX7_talks 0 1 (.iload_n 1) 1 := ⟨by decide +kernel, rfl⟩
theorem dX7_talks_1 : Dc MX7_talks 1 4 (.invokestatic 86) 3 := ⟨by decide +kernel, rfl⟩
theorem dX7_talks_4 : Dc MX7_talks 4 7 (.ifCond .eq 15) 3 := ⟨by decide +kernel, rfl⟩
theorem dX7_talks_7 : Dc MX7_talks 7 8 (.iload_n 2) 1 := ⟨by decide +kernel, rfl⟩
theorem dX7_talks_8 : Dc MX7_talks 8 11 (.invokestatic 86) 3 := ⟨by decide +kernel, rfl⟩
theorem dX7_talks_11 : Dc MX7_talks 11 14 (.ifCond .eq 8) 3 := ⟨by decide +kernel, rfl⟩
theorem dX7_talks_14 : Dc MX7_talks 14 15 (.iload_n 1) 1 := ⟨by decide +kernel, rfl⟩
theorem dX7_talks_15 : Dc MX7_talks 15 16 (.iload_n 2) 1 := ⟨by decide +kernel, rfl⟩
theorem dX7_talks_16 : Dc MX7_talks 16 19 (.if_icmp .ne 5) 3 := ⟨by decide +kernel, rfl⟩
theorem dX7_talks_19 : Dc MX7_talks 19 20 (.iconst (-1)) 1 := ⟨by decide +kernel, rfl⟩
theorem dX7_talks_20 : Dc MX7_talks 20 21 (.ireturn) 1 := ⟨by decide +kernel, rfl⟩
theorem dX7_talks_21 : Dc MX7_talks 21 22 (.iconst 0) 1 := ⟨by decide +kernel, rfl⟩
theorem dX7_talks_22 : Dc MX7_talks 22 23 (.istore_n 3) 1 := ⟨by decide +kernel, rfl⟩
theorem dX7_talks_23 : Dc MX7_talks 23 24 (.aload_n 0) 1 := ⟨by decide +kernel, rfl⟩
theorem dX7_talks_24 : Dc MX7_talks 24 27 (.getfield 16) 3 := ⟨by decide +kernel, rfl⟩
theorem dX7_talks_27 : Dc MX7_talks 27 28 (.aload_n 0) 1 := ⟨by decide +kernel, rfl⟩
theorem dX7_talks_28 : Dc MX7_talks 28 31 (.getfield 10) 3 := ⟨by decide +kernel, rfl⟩
theorem dX7_talks_31 : Dc MX7_talks 31 34 (.invokevirtual 132) 3 := ⟨by decide +kernel, rfl⟩
theorem dX7_talks_34 : Dc MX7_talks 34 35 (.aload_n 0) 1 := ⟨by decide +kernel, rfl⟩
theorem dX7_talks_35 : Dc MX7_talks 35 38 (.getfield 10) 3 := ⟨by decide +kernel, rfl⟩
theorem dX7_talks_38 : Dc MX7_talks 38 41 (.getfield 72) 3 := ⟨by decide +kernel, rfl⟩
theorem dX7_talks_41 : Dc MX7_talks 41 43 (.istore 4) 2 := ⟨by decide +kernel, rfl⟩
theorem dX7_talks_43 : Dc MX7_talks 43 45 (.iload 4) 2 := ⟨by decide +kernel, rfl⟩
theorem dX7_talks_45 : Dc MX7_talks 45 46 (.aload_n 0) 1 := ⟨by decide +kernel, rfl⟩
theorem dX7_talks_46 : Dc MX7_talks 46 49 (.getfield 10) 3 := ⟨by decide +kernel, rfl⟩
theorem dX7_talks_49 : Dc MX7_talks 49 52 (.getfield 68) 3 := ⟨by decide +kernel, rfl⟩
theorem dX7_talks_52 : Dc MX7_talks 52 55 (.if_icmp .ge 53) 3 := ⟨by decide +kernel, rfl⟩
theorem dX7_talks_55 : Dc MX7_talks 55 56 (.aload_n 0) 1 := ⟨by decide +kernel, rfl⟩
theorem dX7_talks_56 : Dc MX7_talks 56 59 (.getfield 16) 3 := ⟨by decide +kernel, rfl⟩
theorem dX7_talks_59 : Dc MX7_talks 59 60 (.iload_n 1) 1 := ⟨by decide +kernel, rfl⟩
theorem dX7_talks_60 : Dc MX7_talks 60 63 (.invokevirtual 145) 3 := ⟨by decide +kernel, rfl⟩
theorem dX7_talks_63 : Dc MX7_talks 63 66 (.ifCond .eq 28) 3 := ⟨by decide +kernel, rfl⟩
theorem dX7_talks_66 : Dc MX7_talks 66 67 (.aload_n 0) 1 := ⟨by decide +kernel, rfl⟩
theorem dX7_talks_67 : Dc MX7_talks 67 70 (.getfield 16) 3 := ⟨by decide +kernel, rfl⟩
theorem dX7_talks_70 : Dc MX7_talks 70 71 (.iload_n 2) 1 := ⟨by decide +kernel, rfl⟩
theorem dX7_talks_71 : Dc MX7_talks 71 72 (.aload_n 0) 1 := ⟨by decide +kernel, rfl⟩
theorem dX7_talks_72 : Dc MX7_talks 72 75 (.getfield 16) 3 := ⟨by decide +kernel, rfl⟩
theorem dX7_talks_75 : Dc MX7_talks 75 78 (.getfield 100) 3 := ⟨by decide +kernel, rfl⟩
theorem dX7_talks_78 : Dc MX7_talks 78 79 (.iload_n 1) 1 := ⟨by decide +kernel, rfl⟩
theorem dX7_talks_79 : Dc MX7_talks 79 80 (.iaload) 1 := ⟨by decide +kernel, rfl⟩
theorem dX7_talks_80 : Dc MX7_talks 80 82 (.iload 4) 2 := ⟨by decide +kernel, rfl⟩
theorem dX7_talks_82 : Dc MX7_talks 82 85 (.invokevirtual 158) 3 := ⟨by decide +kernel, rfl⟩
theorem dX7_talks_85 : Dc MX7_talks 85 88 (.ifCond .eq 6) 3 := ⟨by decide +kernel, rfl⟩
theorem dX7_talks_88 : Dc MX7_talks 88 91 (.iinc 3 1) 3 := ⟨by decide +kernel, rfl⟩
theorem dX7_talks_91 : Dc MX7_talks 91 92 (.aload_n 0) 1 := ⟨by decide +kernel, rfl⟩
theorem dX7_talks_92 : Dc MX7_talks 92 95 (.getfield 16) 3 := ⟨by decide +kernel, rfl⟩
theorem dX7_talks_95 : Dc MX7_talks 95 98 (.invokevirtual 152) 3 := ⟨by decide +kernel, rfl⟩
theorem dX7_talks_98 : Dc MX7_talks 98 99 (.pop) 1 := ⟨by decide +kernel, rfl⟩
theorem dX7_talks_99 : Dc MX7_talks 99 102 (.iinc 4 1) 3 := ⟨by decide +kernel, rfl⟩
theorem dX7_talks_102 : Dc MX7_talks 102 105 (.goto (-59)) 3 := ⟨by decide +kernel, rfl⟩
theorem dX7_talks_105 : Dc MX7_talks 105 106 (.iload_n 3) 1 := ⟨by decide +kernel, rfl⟩
theorem dX7_talks_106 : Dc MX7_talks 106 107 (.ireturn) 1 := ⟨by decide +kernel, rfl⟩
theorem dX7_buy_0 : Dc MX7_buy 0 1 (.iload_n 1) 1 := ⟨by decide +kernel, rfl⟩
theorem dX7_buy_1 : Dc MX7_buy 1 4 (.invokestatic 86) 3 := ⟨by decide +kernel, rfl⟩
theorem dX7_buy_4 : Dc MX7_buy 4 7 (.ifCond .ne 5) 3 := ⟨by decide +kernel, rfl⟩
theorem dX7_buy_7 : Dc MX7_buy 7 8 (.iconst (-1)) 1 := ⟨by decide +kernel, rfl⟩
theorem dX7_buy_8 : Dc MX7_buy 8 9 (.ireturn) 1 := ⟨by decide +kernel, rfl⟩
theorem dX7_buy_9 : Dc MX7_buy 9 10 (.iload_n 2) 1 := ⟨by decide +kernel, rfl⟩
theorem dX7_buy_10 : Dc MX7_buy 10 11 (.iconst 0) 1 := ⟨by decide +kernel, rfl⟩
theorem dX7_buy_11 : Dc MX7_buy 11 12 (.iconst 1) 1 := ⟨by decide +kernel, rfl⟩
theorem dX7_buy_12 : Dc MX7_buy 12 15 (.invokestatic 64) 3 := ⟨by decide +kernel, rfl⟩
theorem dX7_buy_15 : Dc MX7_buy 15 18 (.ifCond .ne 6) 3 := ⟨by decide +kernel, rfl⟩
theorem dX7_buy_18 : Dc MX7_buy 18 20 (.bipush (-2)) 2 := ⟨by decide +kernel, rfl⟩
theorem dX7_buy_20 : Dc MX7_buy 20 21 (.ireturn) 1 := ⟨by decide +kernel, rfl⟩
theorem dX7_buy_21 : Dc MX7_buy 21 22 (.aload_n 0) 1 := ⟨by decide +kernel, rfl⟩
theorem dX7_buy_22 : Dc MX7_buy 22 25 (.getfield 10) 3 := ⟨by decide +kernel, rfl⟩
theorem dX7_buy_25 : Dc MX7_buy 25 26 (.iload_n 1) 1 := ⟨by decide +kernel, rfl⟩
theorem dX7_buy_26 : Dc MX7_buy 26 29 (.invokevirtual 161) 3 := ⟨by decide +kernel, rfl⟩
theorem dX7_buy_29 : Dc MX7_buy 29 32 (.ifCond .ne 6) 3 := ⟨by decide +kernel, rfl⟩
theorem dX7_buy_32 : Dc MX7_buy 32 34 (.bipush (-6)) 2 := ⟨by decide +kernel, rfl⟩
theorem dX7_buy_34 : Dc MX7_buy 34 35 (.ireturn) 1 := ⟨by decide +kernel, rfl⟩
theorem dX7_buy_35 : Dc MX7_buy 35 36 (.iconst 1) 1 := ⟨by decide +kernel, rfl⟩
theorem dX7_buy_36 : Dc MX7_buy 36 37 (.istore_n 3) 1 := ⟨by decide +kernel, rfl⟩
theorem dX7_buy_37 : Dc MX7_buy 37 38 (.iload_n 3) 1 := ⟨by decide +kernel, rfl⟩
theorem dX7_buy_38 : Dc MX7_buy 38 40 (.bipush 99) 2 := ⟨by decide +kernel, rfl⟩
theorem dX7_buy_40 : Dc MX7_buy 40 43 (.if_icmp .gt 32) 3 := ⟨by decide +kernel, rfl⟩
theorem dX7_buy_43 : Dc MX7_buy 43 44 (.aload_n 0) 1 := ⟨by decide +kernel, rfl⟩
theorem dX7_buy_44 : Dc MX7_buy 44 45 (.iload_n 1) 1 := ⟨by decide +kernel, rfl⟩
theorem dX7_buy_45 : Dc MX7_buy 45 46 (.iload_n 3) 1 := ⟨by decide +kernel, rfl⟩
theorem dX7_buy_46 : Dc MX7_buy 46 49 (.invokevirtual 164) 3 := ⟨by decide +kernel, rfl⟩
theorem dX7_buy_49 : Dc MX7_buy 49 52 (.ifCond .eq 17) 3 := ⟨by decide +kernel, rfl⟩
theorem dX7_buy_52 : Dc MX7_buy 52 53 (.iload_n 2) 1 := ⟨by decide +kernel, rfl⟩
theorem dX7_buy_53 : Dc MX7_buy 53 56 (.ifCond .ne 7) 3 := ⟨by decide +kernel, rfl⟩
theorem dX7_buy_56 : Dc MX7_buy 56 57 (.iload_n 3) 1 := ⟨by decide +kernel, rfl⟩
theorem dX7_buy_57 : Dc MX7_buy 57 60 (.goto 8) 3 := ⟨by decide +kernel, rfl⟩
theorem dX7_buy_60 : Dc MX7_buy 60 61 (.aload_n 0) 1 := ⟨by decide +kernel, rfl⟩
theorem dX7_buy_61 : Dc MX7_buy 61 62 (.iload_n 1) 1 := ⟨by decide +kernel, rfl⟩
theorem dX7_buy_62 : Dc MX7_buy 62 65 (.invokevirtual 168) 3 := ⟨by decide +kernel, rfl⟩
theorem dX7_buy_65 : Dc MX7_buy 65 66 (.ireturn) 1 := ⟨by decide +kernel, rfl⟩
theorem dX7_buy_66 : Dc MX7_buy 66 69 (.iinc 3 1) 3 := ⟨by decide +kernel, rfl⟩
theorem dX7_buy_69 : Dc MX7_buy 69 72 (.goto (-32)) 3 := ⟨by decide +kernel, rfl⟩
theorem dX7_buy_72 : Dc MX7_buy 72 74 (.bipush (-6)) 2 := ⟨by decide +kernel, rfl⟩
theorem dX7_buy_74 : Dc MX7_buy 74 75 (.ireturn) 1 := ⟨by decide +kernel, rfl⟩
theorem dX7_seats_0 : Dc MX7_seats 0 1 (.iload_n 1) 1 := ⟨by decide +kernel, rfl⟩
theorem dX7_seats_1 : Dc MX7_seats 1 2 (.iconst 0) 1 := ⟨by decide +kernel, rfl⟩
theorem dX7_seats_2 : Dc MX7_seats 2 5 (.sipush 32767) 3 := ⟨by decide +kernel, rfl⟩
theorem dX7_seats_5 : Dc MX7_seats 5 8 (.invokestatic 64) 3 := ⟨by decide +kernel, rfl⟩
theorem dX7_seats_8 : Dc MX7_seats 8 11 (.ifCond .eq 23) 3 := ⟨by decide +kernel, rfl⟩
theorem dX7_seats_11 : Dc MX7_seats 11 12 (.iload_n 2) 1 := ⟨by decide +kernel, rfl⟩
theorem dX7_seats_12 : Dc MX7_seats 12 13 (.iconst 0) 1 := ⟨by decide +kernel, rfl⟩
theorem dX7_seats_13 : Dc MX7_seats 13 16 (.sipush 32767) 3 := ⟨by decide +kernel, rfl⟩
theorem dX7_seats_16 : Dc MX7_seats 16 19 (.invokestatic 64) 3 := ⟨by decide +kernel, rfl⟩
theorem dX7_seats_19 : Dc MX7_seats 19 22 (.ifCond .eq 12) 3 := ⟨by decide +kernel, rfl⟩
theorem dX7_seats_22 : Dc MX7_seats 22 23 (.iload_n 3) 1 := ⟨by decide +kernel, rfl⟩
theorem dX7_seats_23 : Dc MX7_seats 23 24 (.iconst 0) 1 := ⟨by decide +kernel, rfl⟩
theorem dX7_seats_24 : Dc MX7_seats 24 25 (.iconst 1) 1 := ⟨by decide +kernel, rfl⟩
theorem dX7_seats_25 : Dc MX7_seats 25 28 (.invokestatic 64) 3 := ⟨by decide +kernel, rfl⟩
theorem dX7_seats_28 : Dc MX7_seats 28 31 (.ifCond .ne 6) 3 := ⟨by decide +kernel, rfl⟩
theorem dX7_seats_31 : Dc MX7_seats 31 33 (.bipush (-2)) 2 := ⟨by decide +kernel, rfl⟩
theorem dX7_seats_33 : Dc MX7_seats 33 34 (.ireturn) 1 := ⟨by decide +kernel, rfl⟩
theorem dX7_seats_34 : Dc MX7_seats 34 35 (.aload_n 0) 1 := ⟨by decide +kernel, rfl⟩
theorem dX7_seats_35 : Dc MX7_seats 35 38 (.getfield 43) 3 := ⟨by decide +kernel, rfl⟩
theorem dX7_seats_38 : Dc MX7_seats 38 39 (.aload_n 0) 1 := ⟨by decide +kernel, rfl⟩
theorem dX7_seats_39 : Dc MX7_seats 39 42 (.getfield 10) 3 := ⟨by decide +kernel, rfl⟩
theorem dX7_seats_42 : Dc MX7_seats 42 43 (.iload_n 1) 1 := ⟨by decide +kernel, rfl⟩
theorem dX7_seats_43 : Dc MX7_seats 43 44 (.iload_n 2) 1 := ⟨by decide +kernel, rfl⟩
theorem dX7_seats_44 : Dc MX7_seats 44 47 (.invokevirtual 171) 3 := ⟨by decide +kernel, rfl⟩
theorem dX7_seats_47 : Dc MX7_seats 47 48 (.iload_n 3) 1 := ⟨by decide +kernel, rfl⟩
theorem dX7_seats_48 : Dc MX7_seats 48 51 (.ifCond .ne 13) 3 := ⟨by decide +kernel, rfl⟩
theorem dX7_seats_51 : Dc MX7_seats 51 52 (.aload_n 0) 1 := ⟨by decide +kernel, rfl⟩
theorem dX7_seats_52 : Dc MX7_seats 52 55 (.getfield 43) 3 := ⟨by decide +kernel, rfl⟩
theorem dX7_seats_55 : Dc MX7_seats 55 58 (.getfield 175) 3 := ⟨by decide +kernel, rfl⟩
theorem dX7_seats_58 : Dc MX7_seats 58 61 (.goto 10) 3 := ⟨by decide +kernel, rfl⟩
theorem dX7_seats_61 : Dc MX7_seats 61 62 (.aload_n 0) 1 := ⟨by decide +kernel, rfl⟩
theorem dX7_seats_62 : Dc MX7_seats 62 65 (.getfield 43) 3 := ⟨by decide +kernel, rfl⟩
theorem dX7_seats_65 : Dc MX7_seats 65 68 (.getfield 178) 3 := ⟨by decide +kernel, rfl⟩
theorem dX7_seats_68 : Dc MX7_seats 68 69 (.ireturn) 1 := ⟨by decide +kernel, rfl⟩
theorem dX7_word_0 : Dc MX7_word 0 1 (.iload_n 1) 1 := ⟨by decide +kernel, rfl⟩
theorem dX7_word_1 : Dc MX7_word 1 4 (.invokestatic 86) 3 := ⟨by decide +kernel, rfl⟩
theorem dX7_word_4 : Dc MX7_word 4 7 (.ifCond .ne 5) 3 := ⟨by decide +kernel, rfl⟩
theorem dX7_word_7 : Dc MX7_word 7 8 (.iconst (-1)) 1 := ⟨by decide +kernel, rfl⟩
theorem dX7_word_8 : Dc MX7_word 8 9 (.ireturn) 1 := ⟨by decide +kernel, rfl⟩
theorem dX7_word_9 : Dc MX7_word 9 10 (.iload_n 2) 1 := ⟨by decide +kernel, rfl⟩
theorem dX7_word_10 : Dc MX7_word 10 13 (.invokestatic 75) 3 := ⟨by decide +kernel, rfl⟩
theorem dX7_word_13 : Dc MX7_word 13 16 (.ifCond .ne 6) 3 := ⟨by decide +kernel, rfl⟩
theorem dX7_word_16 : Dc MX7_word 16 18 (.bipush (-2)) 2 := ⟨by decide +kernel, rfl⟩
theorem dX7_word_18 : Dc MX7_word 18 19 (.ireturn) 1 := ⟨by decide +kernel, rfl⟩
theorem dX7_word_19 : Dc MX7_word 19 20 (.iconst 1) 1 := ⟨by decide +kernel, rfl⟩
theorem dX7_word_20 : Dc MX7_word 20 21 (.iload_n 1) 1 := ⟨by decide +kernel, rfl⟩
theorem dX7_word_21 : Dc MX7_word 21 22 (.ishl) 1 := ⟨by decide +kernel, rfl⟩
theorem dX7_word_22 : Dc MX7_word 22 23 (.istore_n 3) 1 := ⟨by decide +kernel, rfl⟩
theorem dX7_word_23 : Dc MX7_word 23 24 (.iload_n 2) 1 := ⟨by decide +kernel, rfl⟩
theorem dX7_word_24 : Dc MX7_word 24 26 (.istore 4) 2 := ⟨by decide +kernel, rfl⟩
theorem dX7_word_26 : Dc MX7_word 26 28 (.iload 4) 2 := ⟨by decide +kernel, rfl⟩
theorem dX7_word_28 : Dc MX7_word 28 29 (.aload_n 0) 1 := ⟨by decide +kernel, rfl⟩
theorem dX7_word_29 : Dc MX7_word 29 32 (.getfield 10) 3 := ⟨by decide +kernel, rfl⟩
theorem dX7_word_32 : Dc MX7_word 32 35 (.getfield 68) 3 := ⟨by decide +kernel, rfl⟩
theorem dX7_word_35 : Dc MX7_word 35 38 (.if_icmp .ge 20) 3 := ⟨by decide +kernel, rfl⟩
theorem dX7_word_38 : Dc MX7_word 38 39 (.aload_n 0) 1 := ⟨by decide +kernel, rfl⟩
theorem dX7_word_39 : Dc MX7_word 39 42 (.getfield 10) 3 := ⟨by decide +kernel, rfl⟩
theorem dX7_word_42 : Dc MX7_word 42 44 (.iload 4) 2 := ⟨by decide +kernel, rfl⟩
theorem dX7_word_44 : Dc MX7_word 44 45 (.iload_n 3) 1 := ⟨by decide +kernel, rfl⟩
theorem dX7_word_45 : Dc MX7_word 45 48 (.invokevirtual 181) 3 := ⟨by decide +kernel, rfl⟩
theorem dX7_word_48 : Dc MX7_word 48 49 (.istore_n 3) 1 := ⟨by decide +kernel, rfl⟩
theorem dX7_word_49 : Dc MX7_word 49 52 (.iinc 4 1) 3 := ⟨by decide +kernel, rfl⟩
theorem dX7_word_52 : Dc MX7_word 52 55 (.goto (-26)) 3 := ⟨by decide +kernel, rfl⟩
theorem dX7_word_55 : Dc MX7_word 55 56 (.iload_n 3) 1 := ⟨by decide +kernel, rfl⟩
theorem dX7_word_56 : Dc MX7_word 56 57 (.ireturn) 1 := ⟨by decide +kernel, rfl⟩
theorem dX7_heard_0 : Dc MX7_heard 0 1 (.iload_n 1) 1 := ⟨by decide +kernel, rfl⟩
theorem dX7_heard_1 : Dc MX7_heard 1 4 (.invokestatic 86) 3 := ⟨by decide +kernel, rfl⟩
theorem dX7_heard_4 : Dc MX7_heard 4 7 (.ifCond .eq 10) 3 := ⟨by decide +kernel, rfl⟩
theorem dX7_heard_7 : Dc MX7_heard 7 8 (.iload_n 3) 1 := ⟨by decide +kernel, rfl⟩
theorem dX7_heard_8 : Dc MX7_heard 8 11 (.invokestatic 86) 3 := ⟨by decide +kernel, rfl⟩
theorem dX7_heard_11 : Dc MX7_heard 11 14 (.ifCond .ne 5) 3 := ⟨by decide +kernel, rfl⟩
theorem dX7_heard_14 : Dc MX7_heard 14 15 (.iconst (-1)) 1 := ⟨by decide +kernel, rfl⟩
theorem dX7_heard_15 : Dc MX7_heard 15 16 (.ireturn) 1 := ⟨by decide +kernel, rfl⟩
theorem dX7_heard_16 : Dc MX7_heard 16 17 (.iload_n 2) 1 := ⟨by decide +kernel, rfl⟩
theorem dX7_heard_17 : Dc MX7_heard 17 20 (.invokestatic 75) 3 := ⟨by decide +kernel, rfl⟩
theorem dX7_heard_20 : Dc MX7_heard 20 23 (.ifCond .ne 6) 3 := ⟨by decide +kernel, rfl⟩
theorem dX7_heard_23 : Dc MX7_heard 23 25 (.bipush (-2)) 2 := ⟨by decide +kernel, rfl⟩
theorem dX7_heard_25 : Dc MX7_heard 25 26 (.ireturn) 1 := ⟨by decide +kernel, rfl⟩
theorem dX7_heard_26 : Dc MX7_heard 26 27 (.iload_n 1) 1 := ⟨by decide +kernel, rfl⟩
theorem dX7_heard_27 : Dc MX7_heard 27 28 (.iload_n 3) 1 := ⟨by decide +kernel, rfl⟩
theorem dX7_heard_28 : Dc MX7_heard 28 31 (.if_icmp .ne 5) 3 := ⟨by decide +kernel, rfl⟩
theorem dX7_heard_31 : Dc MX7_heard 31 32 (.iload_n 2) 1 := ⟨by decide +kernel, rfl⟩
theorem dX7_heard_32 : Dc MX7_heard 32 33 (.ireturn) 1 := ⟨by decide +kernel, rfl⟩
theorem dX7_heard_33 : Dc MX7_heard 33 34 (.iconst 1) 1 := ⟨by decide +kernel, rfl⟩
theorem dX7_heard_34 : Dc MX7_heard 34 35 (.iload_n 1) 1 := ⟨by decide +kernel, rfl⟩
theorem dX7_heard_35 : Dc MX7_heard 35 36 (.ishl) 1 := ⟨by decide +kernel, rfl⟩
theorem dX7_heard_36 : Dc MX7_heard 36 38 (.istore 4) 2 := ⟨by decide +kernel, rfl⟩
theorem dX7_heard_38 : Dc MX7_heard 38 39 (.iload_n 2) 1 := ⟨by decide +kernel, rfl⟩
theorem dX7_heard_39 : Dc MX7_heard 39 41 (.istore 5) 2 := ⟨by decide +kernel, rfl⟩
theorem dX7_heard_41 : Dc MX7_heard 41 43 (.iload 5) 2 := ⟨by decide +kernel, rfl⟩
theorem dX7_heard_43 : Dc MX7_heard 43 44 (.aload_n 0) 1 := ⟨by decide +kernel, rfl⟩
theorem dX7_heard_44 : Dc MX7_heard 44 47 (.getfield 10) 3 := ⟨by decide +kernel, rfl⟩
theorem dX7_heard_47 : Dc MX7_heard 47 50 (.getfield 68) 3 := ⟨by decide +kernel, rfl⟩
theorem dX7_heard_50 : Dc MX7_heard 50 53 (.if_icmp .ge 34) 3 := ⟨by decide +kernel, rfl⟩
theorem dX7_heard_53 : Dc MX7_heard 53 54 (.aload_n 0) 1 := ⟨by decide +kernel, rfl⟩
theorem dX7_heard_54 : Dc MX7_heard 54 57 (.getfield 10) 3 := ⟨by decide +kernel, rfl⟩
theorem dX7_heard_57 : Dc MX7_heard 57 59 (.iload 5) 2 := ⟨by decide +kernel, rfl⟩
theorem dX7_heard_59 : Dc MX7_heard 59 61 (.iload 4) 2 := ⟨by decide +kernel, rfl⟩
theorem dX7_heard_61 : Dc MX7_heard 61 64 (.invokevirtual 181) 3 := ⟨by decide +kernel, rfl⟩
theorem dX7_heard_64 : Dc MX7_heard 64 66 (.istore 4) 2 := ⟨by decide +kernel, rfl⟩
theorem dX7_heard_66 : Dc MX7_heard 66 68 (.iload 4) 2 := ⟨by decide +kernel, rfl⟩
theorem dX7_heard_68 : Dc MX7_heard 68 69 (.iconst 1) 1 := ⟨by decide +kernel, rfl⟩
theorem dX7_heard_69 : Dc MX7_heard 69 70 (.iload_n 3) 1 := ⟨by decide +kernel, rfl⟩
theorem dX7_heard_70 : Dc MX7_heard 70 71 (.ishl) 1 := ⟨by decide +kernel, rfl⟩
theorem dX7_heard_71 : Dc MX7_heard 71 72 (.iand) 1 := ⟨by decide +kernel, rfl⟩
theorem dX7_heard_72 : Dc MX7_heard 72 75 (.ifCond .eq 6) 3 := ⟨by decide +kernel, rfl⟩
theorem dX7_heard_75 : Dc MX7_heard 75 77 (.iload 5) 2 := ⟨by decide +kernel, rfl⟩
theorem dX7_heard_77 : Dc MX7_heard 77 78 (.ireturn) 1 := ⟨by decide +kernel, rfl⟩
theorem dX7_heard_78 : Dc MX7_heard 78 81 (.iinc 5 1) 3 := ⟨by decide +kernel, rfl⟩
theorem dX7_heard_81 : Dc MX7_heard 81 84 (.goto (-40)) 3 := ⟨by decide +kernel, rfl⟩
theorem dX7_heard_84 : Dc MX7_heard 84 86 (.bipush (-6)) 2 := ⟨by decide +kernel, rfl⟩
theorem dX7_heard_86 : Dc MX7_heard 86 87 (.ireturn) 1 := ⟨by decide +kernel, rfl⟩
theorem dX7_richest_0 : Dc MX7_richest 0 1 (.iload_n 1) 1 := ⟨by decide +kernel, rfl⟩
theorem dX7_richest_1 : Dc MX7_richest 1 2 (.iconst 0) 1 := ⟨by decide +kernel, rfl⟩
theorem dX7_richest_2 : Dc MX7_richest 2 3 (.iconst 2) 1 := ⟨by decide +kernel, rfl⟩
theorem dX7_richest_3 : Dc MX7_richest 3 6 (.invokestatic 64) 3 := ⟨by decide +kernel, rfl⟩
theorem dX7_richest_6 : Dc MX7_richest 6 9 (.ifCond .ne 6) 3 := ⟨by decide +kernel, rfl⟩
theorem dX7_richest_9 : Dc MX7_richest 9 11 (.bipush (-2)) 2 := ⟨by decide +kernel, rfl⟩
theorem dX7_richest_11 : Dc MX7_richest 11 12 (.ireturn) 1 := ⟨by decide +kernel, rfl⟩
theorem dX7_richest_12 : Dc MX7_richest 12 13 (.aload_n 0) 1 := ⟨by decide +kernel, rfl⟩
theorem dX7_richest_13 : Dc MX7_richest 13 16 (.invokevirtual 155) 3 := ⟨by decide +kernel, rfl⟩
theorem dX7_richest_16 : Dc MX7_richest 16 17 (.iload_n 1) 1 := ⟨by decide +kernel, rfl⟩
theorem dX7_richest_17 : Dc MX7_richest 17 18 (.iconst 2) 1 := ⟨by decide +kernel, rfl⟩
theorem dX7_richest_18 : Dc MX7_richest 18 21 (.if_icmp .ne 8) 3 := ⟨by decide +kernel, rfl⟩
theorem dX7_richest_21 : Dc MX7_richest 21 22 (.aload_n 0) 1 := ⟨by decide +kernel, rfl⟩
theorem dX7_richest_22 : Dc MX7_richest 22 25 (.invokevirtual 184) 3 := ⟨by decide +kernel, rfl⟩
theorem dX7_richest_25 : Dc MX7_richest 25 26 (.ireturn) 1 := ⟨by decide +kernel, rfl⟩
theorem dX7_richest_26 : Dc MX7_richest 26 27 (.iconst 0) 1 := ⟨by decide +kernel, rfl⟩
theorem dX7_richest_27 : Dc MX7_richest 27 28 (.istore_n 2) 1 := ⟨by decide +kernel, rfl⟩
theorem dX7_richest_28 : Dc MX7_richest 28 29 (.iconst 1) 1 := ⟨by decide +kernel, rfl⟩
theorem dX7_richest_29 : Dc MX7_richest 29 30 (.istore_n 3) 1 := ⟨by decide +kernel, rfl⟩
theorem dX7_richest_30 : Dc MX7_richest 30 31 (.iload_n 3) 1 := ⟨by decide +kernel, rfl⟩
theorem dX7_richest_31 : Dc MX7_richest 31 32 (.iconst 3) 1 := ⟨by decide +kernel, rfl⟩
theorem dX7_richest_32 : Dc MX7_richest 32 35 (.if_icmp .ge 24) 3 := ⟨by decide +kernel, rfl⟩
theorem dX7_richest_35 : Dc MX7_richest 35 36 (.aload_n 0) 1 := ⟨by decide +kernel, rfl⟩
theorem dX7_richest_36 : Dc MX7_richest 36 37 (.iload_n 3) 1 := ⟨by decide +kernel, rfl⟩
theorem dX7_richest_37 : Dc MX7_richest 37 40 (.invokevirtual 187) 3 := ⟨by decide +kernel, rfl⟩
theorem dX7_richest_40 : Dc MX7_richest 40 41 (.aload_n 0) 1 := ⟨by decide +kernel, rfl⟩
theorem dX7_richest_41 : Dc MX7_richest 41 42 (.iload_n 2) 1 := ⟨by decide +kernel, rfl⟩
theorem dX7_richest_42 : Dc MX7_richest 42 45 (.invokevirtual 187) 3 := ⟨by decide +kernel, rfl⟩
theorem dX7_richest_45 : Dc MX7_richest 45 48 (.if_icmp .le 5) 3 := ⟨by decide +kernel, rfl⟩
theorem dX7_richest_48 : Dc MX7_richest 48 49 (.iload_n 3) 1 := ⟨by decide +kernel, rfl⟩
theorem dX7_richest_49 : Dc MX7_richest 49 50 (.istore_n 2) 1 := ⟨by decide +kernel, rfl⟩
theorem dX7_richest_50 : Dc MX7_richest 50 53 (.iinc 3 1) 3 := ⟨by decide +kernel, rfl⟩
theorem dX7_richest_53 : Dc MX7_richest 53 56 (.goto (-23)) 3 := ⟨by decide +kernel, rfl⟩
theorem dX7_richest_56 : Dc MX7_richest 56 57 (.iload_n 1) 1 := ⟨by decide +kernel, rfl⟩
theorem dX7_richest_57 : Dc MX7_richest 57 60 (.ifCond .ne 7) 3 := ⟨by decide +kernel, rfl⟩
theorem dX7_richest_60 : Dc MX7_richest 60 61 (.iload_n 2) 1 := ⟨by decide +kernel, rfl⟩
theorem dX7_richest_61 : Dc MX7_richest 61 64 (.goto 8) 3 := ⟨by decide +kernel, rfl⟩
theorem dX7_richest_64 : Dc MX7_richest 64 65 (.aload_n 0) 1 := ⟨by decide +kernel, rfl⟩
theorem dX7_richest_65 : Dc MX7_richest 65 66 (.iload_n 2) 1 := ⟨by decide +kernel, rfl⟩
theorem dX7_richest_66 : Dc MX7_richest 66 69 (.invokevirtual 187) 3 := ⟨by decide +kernel, rfl⟩
theorem dX7_richest_69 : Dc MX7_richest 69 70 (.ireturn) 1 := ⟨by decide +kernel, rfl⟩
theorem dX7_seen_0 : Dc MX7_seen 0 1 (.iload_n 2) 1 := ⟨by decide +kernel, rfl⟩
theorem dX7_seen_1 : Dc MX7_seen 1 4 (.invokestatic 86) 3 := ⟨by decide +kernel, rfl⟩
theorem dX7_seen_4 : Dc MX7_seen 4 7 (.ifCond .ne 5) 3 := ⟨by decide +kernel, rfl⟩
theorem dX7_seen_7 : Dc MX7_seen 7 8 (.iconst (-1)) 1 := ⟨by decide +kernel, rfl⟩
theorem dX7_seen_8 : Dc MX7_seen 8 9 (.ireturn) 1 := ⟨by decide +kernel, rfl⟩
theorem dX7_seen_9 : Dc MX7_seen 9 10 (.iload_n 1) 1 := ⟨by decide +kernel, rfl⟩
theorem dX7_seen_10 : Dc MX7_seen 10 13 (.invokestatic 75) 3 := ⟨by decide +kernel, rfl⟩
theorem dX7_seen_13 : Dc MX7_seen 13 16 (.ifCond .ne 6) 3 := ⟨by decide +kernel, rfl⟩
theorem dX7_seen_16 : Dc MX7_seen 16 18 (.bipush (-2)) 2 := ⟨by decide +kernel, rfl⟩
theorem dX7_seen_18 : Dc MX7_seen 18 19 (.ireturn) 1 := ⟨by decide +kernel, rfl⟩
theorem dX7_seen_19 : Dc MX7_seen 19 20 (.aload_n 0) 1 := ⟨by decide +kernel, rfl⟩
theorem dX7_seen_20 : Dc MX7_seen 20 23 (.getfield 36) 3 := ⟨by decide +kernel, rfl⟩
theorem dX7_seen_23 : Dc MX7_seen 23 24 (.iload_n 1) 1 := ⟨by decide +kernel, rfl⟩
theorem dX7_seen_24 : Dc MX7_seen 24 25 (.iload_n 2) 1 := ⟨by decide +kernel, rfl⟩
theorem dX7_seen_25 : Dc MX7_seen 25 28 (.invokevirtual 190) 3 := ⟨by decide +kernel, rfl⟩
theorem dX7_seen_28 : Dc MX7_seen 28 31 (.ifCond .eq 13) 3 := ⟨by decide +kernel, rfl⟩
theorem dX7_seen_31 : Dc MX7_seen 31 32 (.aload_n 0) 1 := ⟨by decide +kernel, rfl⟩
theorem dX7_seen_32 : Dc MX7_seen 32 35 (.getfield 36) 3 := ⟨by decide +kernel, rfl⟩
theorem dX7_seen_35 : Dc MX7_seen 35 38 (.getfield 193) 3 := ⟨by decide +kernel, rfl⟩
theorem dX7_seen_38 : Dc MX7_seen 38 41 (.goto 5) 3 := ⟨by decide +kernel, rfl⟩
theorem dX7_seen_41 : Dc MX7_seen 41 43 (.bipush (-4)) 2 := ⟨by decide +kernel, rfl⟩
theorem dX7_seen_43 : Dc MX7_seen 43 44 (.ireturn) 1 := ⟨by decide +kernel, rfl⟩
theorem dX7_forget_0 : Dc MX7_forget 0 1 (.aload_n 0) 1 := ⟨by decide +kernel, rfl⟩
theorem dX7_forget_1 : Dc MX7_forget 1 4 (.getfield 36) 3 := ⟨by decide +kernel, rfl⟩
theorem dX7_forget_4 : Dc MX7_forget 4 7 (.invokevirtual 194) 3 := ⟨by decide +kernel, rfl⟩
theorem dX7_forget_7 : Dc MX7_forget 7 8 (.ireturn) 1 := ⟨by decide +kernel, rfl⟩
theorem dX7_hum_0 : Dc MX7_hum 0 1 (.aload_n 0) 1 := ⟨by decide +kernel, rfl⟩
theorem dX7_hum_1 : Dc MX7_hum 1 4 (.getfield 36) 3 := ⟨by decide +kernel, rfl⟩
theorem dX7_hum_4 : Dc MX7_hum 4 5 (.aload_n 0) 1 := ⟨by decide +kernel, rfl⟩
theorem dX7_hum_5 : Dc MX7_hum 5 8 (.getfield 10) 3 := ⟨by decide +kernel, rfl⟩
theorem dX7_hum_8 : Dc MX7_hum 8 11 (.invokevirtual 195) 3 := ⟨by decide +kernel, rfl⟩
theorem dX7_hum_11 : Dc MX7_hum 11 12 (.ireturn) 1 := ⟨by decide +kernel, rfl⟩
theorem dX7_watch_0 : Dc MX7_watch 0 1 (.iload_n 1) 1 := ⟨by decide +kernel, rfl⟩
theorem dX7_watch_1 : Dc MX7_watch 1 2 (.iconst 0) 1 := ⟨by decide +kernel, rfl⟩
theorem dX7_watch_2 : Dc MX7_watch 2 3 (.iconst 1) 1 := ⟨by decide +kernel, rfl⟩
theorem dX7_watch_3 : Dc MX7_watch 3 6 (.invokestatic 64) 3 := ⟨by decide +kernel, rfl⟩
theorem dX7_watch_6 : Dc MX7_watch 6 9 (.ifCond .ne 6) 3 := ⟨by decide +kernel, rfl⟩
theorem dX7_watch_9 : Dc MX7_watch 9 11 (.bipush (-2)) 2 := ⟨by decide +kernel, rfl⟩
theorem dX7_watch_11 : Dc MX7_watch 11 12 (.ireturn) 1 := ⟨by decide +kernel, rfl⟩
theorem dX7_watch_12 : Dc MX7_watch 12 13 (.aload_n 0) 1 := ⟨by decide +kernel, rfl⟩
theorem dX7_watch_13 : Dc MX7_watch 13 16 (.getfield 36) 3 := ⟨by decide +kernel, rfl⟩
theorem dX7_watch_16 : Dc MX7_watch 16 17 (.aload_n 0) 1 := ⟨by decide +kernel, rfl⟩
theorem dX7_watch_17 : Dc MX7_watch 17 20 (.getfield 10) 3 := ⟨by decide +kernel, rfl⟩
theorem dX7_watch_20 : Dc MX7_watch 20 23 (.invokevirtual 195) 3 := ⟨by decide +kernel, rfl⟩
theorem dX7_watch_23 : Dc MX7_watch 23 24 (.istore_n 2) 1 := ⟨by decide +kernel, rfl⟩
theorem dX7_watch_24 : Dc MX7_watch 24 25 (.iload_n 2) 1 := ⟨by decide +kernel, rfl⟩
theorem dX7_watch_25 : Dc MX7_watch 25 28 (.ifCond .ne 6) 3 := ⟨by decide +kernel, rfl⟩
theorem dX7_watch_28 : Dc MX7_watch 28 30 (.bipush (-6)) 2 := ⟨by decide +kernel, rfl⟩
theorem dX7_watch_30 : Dc MX7_watch 30 31 (.ireturn) 1 := ⟨by decide +kernel, rfl⟩
theorem dX7_watch_31 : Dc MX7_watch 31 32 (.iconst 0) 1 := ⟨by decide +kernel, rfl⟩
theorem dX7_watch_32 : Dc MX7_watch 32 33 (.istore_n 3) 1 := ⟨by decide +kernel, rfl⟩
theorem dX7_watch_33 : Dc MX7_watch 33 35 (.bipush 7) 2 := ⟨by decide +kernel, rfl⟩
theorem dX7_watch_35 : Dc MX7_watch 35 37 (.istore 4) 2 := ⟨by decide +kernel, rfl⟩
theorem dX7_watch_37 : Dc MX7_watch 37 38 (.iconst 0) 1 := ⟨by decide +kernel, rfl⟩
theorem dX7_watch_38 : Dc MX7_watch 38 40 (.istore 5) 2 := ⟨by decide +kernel, rfl⟩
theorem dX7_watch_40 : Dc MX7_watch 40 42 (.iload 5) 2 := ⟨by decide +kernel, rfl⟩
theorem dX7_watch_42 : Dc MX7_watch 42 43 (.aload_n 0) 1 := ⟨by decide +kernel, rfl⟩
theorem dX7_watch_43 : Dc MX7_watch 43 46 (.getfield 10) 3 := ⟨by decide +kernel, rfl⟩
theorem dX7_watch_46 : Dc MX7_watch 46 49 (.getfield 68) 3 := ⟨by decide +kernel, rfl⟩
theorem dX7_watch_49 : Dc MX7_watch 49 52 (.if_icmp .ge 61) 3 := ⟨by decide +kernel, rfl⟩
theorem dX7_watch_52 : Dc MX7_watch 52 53 (.iconst 0) 1 := ⟨by decide +kernel, rfl⟩
theorem dX7_watch_53 : Dc MX7_watch 53 55 (.istore 6) 2 := ⟨by decide +kernel, rfl⟩
theorem dX7_watch_55 : Dc MX7_watch 55 57 (.iload 6) 2 := ⟨by decide +kernel, rfl⟩
theorem dX7_watch_57 : Dc MX7_watch 57 58 (.iconst 3) 1 := ⟨by decide +kernel, rfl⟩
theorem dX7_watch_58 : Dc MX7_watch 58 61 (.if_icmp .ge 46) 3 := ⟨by decide +kernel, rfl⟩
theorem dX7_watch_61 : Dc MX7_watch 61 62 (.iload_n 2) 1 := ⟨by decide +kernel, rfl⟩
theorem dX7_watch_62 : Dc MX7_watch 62 63 (.aload_n 0) 1 := ⟨by decide +kernel, rfl⟩
theorem dX7_watch_63 : Dc MX7_watch 63 66 (.getfield 10) 3 := ⟨by decide +kernel, rfl⟩
theorem dX7_watch_66 : Dc MX7_watch 66 68 (.iload 6) 2 := ⟨by decide +kernel, rfl⟩
theorem dX7_watch_68 : Dc MX7_watch 68 70 (.iload 5) 2 := ⟨by decide +kernel, rfl⟩
theorem dX7_watch_70 : Dc MX7_watch 70 73 (.invokevirtual 199) 3 := ⟨by decide +kernel, rfl⟩
theorem dX7_watch_73 : Dc MX7_watch 73 76 (.invokestatic 202) 3 := ⟨by decide +kernel, rfl⟩
theorem dX7_watch_76 : Dc MX7_watch 76 78 (.istore 7) 2 := ⟨by decide +kernel, rfl⟩
theorem dX7_watch_78 : Dc MX7_watch 78 80 (.iload 7) 2 := ⟨by decide +kernel, rfl⟩
theorem dX7_watch_80 : Dc MX7_watch 80 82 (.iload 4) 2 := ⟨by decide +kernel, rfl⟩
theorem dX7_watch_82 : Dc MX7_watch 82 85 (.if_icmp .ge 16) 3 := ⟨by decide +kernel, rfl⟩
theorem dX7_watch_85 : Dc MX7_watch 85 87 (.iload 7) 2 := ⟨by decide +kernel, rfl⟩
theorem dX7_watch_87 : Dc MX7_watch 87 89 (.istore 4) 2 := ⟨by decide +kernel, rfl⟩
theorem dX7_watch_89 : Dc MX7_watch 89 91 (.bipush 10) 2 := ⟨by decide +kernel, rfl⟩
theorem dX7_watch_91 : Dc MX7_watch 91 93 (.iload 5) 2 := ⟨by decide +kernel, rfl⟩
theorem dX7_watch_93 : Dc MX7_watch 93 94 (.imul) 1 := ⟨by decide +kernel, rfl⟩
theorem dX7_watch_94 : Dc MX7_watch 94 96 (.iload 6) 2 := ⟨by decide +kernel, rfl⟩
theorem dX7_watch_96 : Dc MX7_watch 96 97 (.iadd) 1 := ⟨by decide +kernel, rfl⟩
theorem dX7_watch_97 : Dc MX7_watch 97 98 (.istore_n 3) 1 := ⟨by decide +kernel, rfl⟩
theorem dX7_watch_98 : Dc MX7_watch 98 101 (.iinc 6 1) 3 := ⟨by decide +kernel, rfl⟩
theorem dX7_watch_101 : Dc MX7_watch 101 104 (.goto (-46)) 3 := ⟨by decide +kernel, rfl⟩
theorem dX7_watch_104 : Dc MX7_watch 104 107 (.iinc 5 1) 3 := ⟨by decide +kernel, rfl⟩
theorem dX7_watch_107 : Dc MX7_watch 107 110 (.goto (-67)) 3 := ⟨by decide +kernel, rfl⟩
theorem dX7_watch_110 : Dc MX7_watch 110 111 (.iload_n 1) 1 := ⟨by decide +kernel, rfl⟩
theorem dX7_watch_111 : Dc MX7_watch 111 114 (.ifCond .ne 7) 3 := ⟨by decide +kernel, rfl⟩
theorem dX7_watch_114 : Dc MX7_watch 114 115 (.iload_n 3) 1 := ⟨by decide +kernel, rfl⟩
theorem dX7_watch_115 : Dc MX7_watch 115 118 (.goto 5) 3 := ⟨by decide +kernel, rfl⟩
theorem dX7_watch_118 : Dc MX7_watch 118 120 (.iload 4) 2 := ⟨by decide +kernel, rfl⟩
theorem dX7_watch_120 : Dc MX7_watch 120 121 (.ireturn) 1 := ⟨by decide +kernel, rfl⟩
theorem dX7_auction_0 : Dc MX7_auction 0 1 (.iload_n 1) 1 := ⟨by decide +kernel, rfl⟩
theorem dX7_auction_1 : Dc MX7_auction 1 2 (.iconst 0) 1 := ⟨by decide +kernel, rfl⟩
theorem dX7_auction_2 : Dc MX7_auction 2 4 (.bipush 20) 2 := ⟨by decide +kernel, rfl⟩
theorem dX7_auction_4 : Dc MX7_auction 4 7 (.invokestatic 64) 3 := ⟨by decide +kernel, rfl⟩
theorem dX7_auction_7 : Dc MX7_auction 7 10 (.ifCond .eq 22) 3 := ⟨by decide +kernel, rfl⟩
theorem dX7_auction_10 : Dc MX7_auction 10 11 (.iload_n 2) 1 := ⟨by decide +kernel, rfl⟩
theorem dX7_auction_11 : Dc MX7_auction 11 12 (.iconst 0) 1 := ⟨by decide +kernel, rfl⟩
theorem dX7_auction_12 : Dc MX7_auction 12 14 (.bipush 20) 2 := ⟨by decide +kernel, rfl⟩
theorem dX7_auction_14 : Dc MX7_auction 14 17 (.invokestatic 64) 3 := ⟨by decide +kernel, rfl⟩
theorem dX7_auction_17 : Dc MX7_auction 17 20 (.ifCond .eq 12) 3 := ⟨by decide +kernel, rfl⟩
theorem dX7_auction_20 : Dc MX7_auction 20 21 (.iload_n 3) 1 := ⟨by decide +kernel, rfl⟩
theorem dX7_auction_21 : Dc MX7_auction 21 22 (.iconst 0) 1 := ⟨by decide +kernel, rfl⟩
theorem dX7_auction_22 : Dc MX7_auction 22 23 (.iconst 1) 1 := ⟨by decide +kernel, rfl⟩
theorem dX7_auction_23 : Dc MX7_auction 23 26 (.invokestatic 64) 3 := ⟨by decide +kernel, rfl⟩
theorem dX7_auction_26 : Dc MX7_auction 26 29 (.ifCond .ne 6) 3 := ⟨by decide +kernel, rfl⟩
theorem dX7_auction_29 : Dc MX7_auction 29 31 (.bipush (-2)) 2 := ⟨by decide +kernel, rfl⟩
theorem dX7_auction_31 : Dc MX7_auction 31 32 (.ireturn) 1 := ⟨by decide +kernel, rfl⟩
theorem dX7_auction_32 : Dc MX7_auction 32 33 (.aload_n 0) 1 := ⟨by decide +kernel, rfl⟩
theorem dX7_auction_33 : Dc MX7_auction 33 36 (.getfield 50) 3 := ⟨by decide +kernel, rfl⟩
theorem dX7_auction_36 : Dc MX7_auction 36 37 (.iload_n 1) 1 := ⟨by decide +kernel, rfl⟩
theorem dX7_auction_37 : Dc MX7_auction 37 38 (.iload_n 2) 1 := ⟨by decide +kernel, rfl⟩
theorem dX7_auction_38 : Dc MX7_auction 38 41 (.invokevirtual 205) 3 := ⟨by decide +kernel, rfl⟩
theorem dX7_auction_41 : Dc MX7_auction 41 42 (.iload_n 3) 1 := ⟨by decide +kernel, rfl⟩
theorem dX7_auction_42 : Dc MX7_auction 42 45 (.ifCond .ne 13) 3 := ⟨by decide +kernel, rfl⟩
theorem dX7_auction_45 : Dc MX7_auction 45 46 (.aload_n 0) 1 := ⟨by decide +kernel, rfl⟩
theorem dX7_auction_46 : Dc MX7_auction 46 49 (.getfield 50) 3 := ⟨by decide +kernel, rfl⟩
theorem dX7_auction_49 : Dc MX7_auction 49 52 (.getfield 209) 3 := ⟨by decide +kernel, rfl⟩
theorem dX7_auction_52 : Dc MX7_auction 52 55 (.goto 10) 3 := ⟨by decide +kernel, rfl⟩
theorem dX7_auction_55 : Dc MX7_auction 55 56 (.aload_n 0) 1 := ⟨by decide +kernel, rfl⟩
theorem dX7_auction_56 : Dc MX7_auction 56 59 (.getfield 50) 3 := ⟨by decide +kernel, rfl⟩
theorem dX7_auction_59 : Dc MX7_auction 59 62 (.getfield 212) 3 := ⟨by decide +kernel, rfl⟩
theorem dX7_auction_62 : Dc MX7_auction 62 63 (.ireturn) 1 := ⟨by decide +kernel, rfl⟩
theorem dX7_coughs_0 : Dc MX7_coughs 0 1 (.iload_n 1) 1 := ⟨by decide +kernel, rfl⟩
theorem dX7_coughs_1 : Dc MX7_coughs 1 4 (.invokestatic 97) 3 := ⟨by decide +kernel, rfl⟩
theorem dX7_coughs_4 : Dc MX7_coughs 4 7 (.ifCond .ne 7) 3 := ⟨by decide +kernel, rfl⟩
theorem dX7_coughs_7 : Dc MX7_coughs 7 10 (.ldc2_w 215) 3 := ⟨by decide +kernel, rfl⟩
theorem dX7_coughs_10 : Dc MX7_coughs 10 11 (.lreturn) 1 := ⟨by decide +kernel, rfl⟩
theorem dX7_coughs_11 : Dc MX7_coughs 11 12 (.iload_n 2) 1 := ⟨by decide +kernel, rfl⟩
theorem dX7_coughs_12 : Dc MX7_coughs 12 13 (.iconst 0) 1 := ⟨by decide +kernel, rfl⟩
theorem dX7_coughs_13 : Dc MX7_coughs 13 15 (.bipush 10) 2 := ⟨by decide +kernel, rfl⟩
theorem dX7_coughs_15 : Dc MX7_coughs 15 18 (.invokestatic 64) 3 := ⟨by decide +kernel, rfl⟩
theorem dX7_coughs_18 : Dc MX7_coughs 18 21 (.ifCond .eq 12) 3 := ⟨by decide +kernel, rfl⟩
theorem dX7_coughs_21 : Dc MX7_coughs 21 22 (.iload_n 3) 1 := ⟨by decide +kernel, rfl⟩
theorem dX7_coughs_22 : Dc MX7_coughs 22 23 (.iconst 0) 1 := ⟨by decide +kernel, rfl⟩
theorem dX7_coughs_23 : Dc MX7_coughs 23 24 (.iconst 1) 1 := ⟨by decide +kernel, rfl⟩
theorem dX7_coughs_24 : Dc MX7_coughs 24 27 (.invokestatic 64) 3 := ⟨by decide +kernel, rfl⟩
theorem dX7_coughs_27 : Dc MX7_coughs 27 30 (.ifCond .ne 7) 3 := ⟨by decide +kernel, rfl⟩
theorem dX7_coughs_30 : Dc MX7_coughs 30 33 (.ldc2_w 217) 3 := ⟨by decide +kernel, rfl⟩
theorem dX7_coughs_33 : Dc MX7_coughs 33 34 (.lreturn) 1 := ⟨by decide +kernel, rfl⟩
theorem dX7_coughs_34 : Dc MX7_coughs 34 35 (.aload_n 0) 1 := ⟨by decide +kernel, rfl⟩
theorem dX7_coughs_35 : Dc MX7_coughs 35 38 (.getfield 10) 3 := ⟨by decide +kernel, rfl⟩
theorem dX7_coughs_38 : Dc MX7_coughs 38 41 (.getfield 107) 3 := ⟨by decide +kernel, rfl⟩
theorem dX7_coughs_41 : Dc MX7_coughs 41 42 (.iload_n 2) 1 := ⟨by decide +kernel, rfl⟩
theorem dX7_coughs_42 : Dc MX7_coughs 42 43 (.imul) 1 := ⟨by decide +kernel, rfl⟩
theorem dX7_coughs_43 : Dc MX7_coughs 43 44 (.aload_n 0) 1 := ⟨by decide +kernel, rfl⟩
theorem dX7_coughs_44 : Dc MX7_coughs 44 45 (.iload_n 1) 1 := ⟨by decide +kernel, rfl⟩
theorem dX7_coughs_45 : Dc MX7_coughs 45 48 (.invokevirtual 219) 3 := ⟨by decide +kernel, rfl⟩
theorem dX7_coughs_48 : Dc MX7_coughs 48 49 (.imul) 1 := ⟨by decide +kernel, rfl⟩
theorem dX7_coughs_49 : Dc MX7_coughs 49 50 (.iload_n 3) 1 := ⟨by decide +kernel, rfl⟩
theorem dX7_coughs_50 : Dc MX7_coughs 50 53 (.invokestatic 222) 3 := ⟨by decide +kernel, rfl⟩
theorem dX7_coughs_53 : Dc MX7_coughs 53 54 (.i2l) 1 := ⟨by decide +kernel, rfl⟩
theorem dX7_coughs_54 : Dc MX7_coughs 54 55 (.lreturn) 1 := ⟨by decide +kernel, rfl⟩
theorem dX7_year_0 : Dc MX7_year 0 1 (.iload_n 1) 1 := ⟨by decide +kernel, rfl⟩
theorem dX7_year_1 : Dc MX7_year 1 2 (.iconst 0) 1 := ⟨by decide +kernel, rfl⟩
theorem dX7_year_2 : Dc MX7_year 2 5 (.sipush 9999) 3 := ⟨by decide +kernel, rfl⟩
theorem dX7_year_5 : Dc MX7_year 5 8 (.invokestatic 64) 3 := ⟨by decide +kernel, rfl⟩
theorem dX7_year_8 : Dc MX7_year 8 11 (.ifCond .eq 22) 3 := ⟨by decide +kernel, rfl⟩
theorem dX7_year_11 : Dc MX7_year 11 12 (.iload_n 2) 1 := ⟨by decide +kernel, rfl⟩
theorem dX7_year_12 : Dc MX7_year 12 13 (.iconst 1) 1 := ⟨by decide +kernel, rfl⟩
theorem dX7_year_13 : Dc MX7_year 13 15 (.bipush 99) 2 := ⟨by decide +kernel, rfl⟩
theorem dX7_year_15 : Dc MX7_year 15 18 (.invokestatic 64) 3 := ⟨by decide +kernel, rfl⟩
theorem dX7_year_18 : Dc MX7_year 18 21 (.ifCond .eq 12) 3 := ⟨by decide +kernel, rfl⟩
theorem dX7_year_21 : Dc MX7_year 21 22 (.iload_n 3) 1 := ⟨by decide +kernel, rfl⟩
theorem dX7_year_22 : Dc MX7_year 22 23 (.iconst 0) 1 := ⟨by decide +kernel, rfl⟩
theorem dX7_year_23 : Dc MX7_year 23 24 (.iconst 2) 1 := ⟨by decide +kernel, rfl⟩
theorem dX7_year_24 : Dc MX7_year 24 27 (.invokestatic 64) 3 := ⟨by decide +kernel, rfl⟩
theorem dX7_year_27 : Dc MX7_year 27 30 (.ifCond .ne 6) 3 := ⟨by decide +kernel, rfl⟩
theorem dX7_year_30 : Dc MX7_year 30 32 (.bipush (-2)) 2 := ⟨by decide +kernel, rfl⟩
theorem dX7_year_32 : Dc MX7_year 32 33 (.ireturn) 1 := ⟨by decide +kernel, rfl⟩
theorem dX7_year_33 : Dc MX7_year 33 34 (.aload_n 0) 1 := ⟨by decide +kernel, rfl⟩
theorem dX7_year_34 : Dc MX7_year 34 37 (.getfield 16) 3 := ⟨by decide +kernel, rfl⟩
theorem dX7_year_37 : Dc MX7_year 37 38 (.aload_n 0) 1 := ⟨by decide +kernel, rfl⟩
theorem dX7_year_38 : Dc MX7_year 38 41 (.getfield 10) 3 := ⟨by decide +kernel, rfl⟩
theorem dX7_year_41 : Dc MX7_year 41 44 (.invokevirtual 132) 3 := ⟨by decide +kernel, rfl⟩
theorem dX7_year_44 : Dc MX7_year 44 45 (.iload_n 1) 1 := ⟨by decide +kernel, rfl⟩
theorem dX7_year_45 : Dc MX7_year 45 47 (.istore 4) 2 := ⟨by decide +kernel, rfl⟩
theorem dX7_year_47 : Dc MX7_year 47 48 (.iconst 0) 1 := ⟨by decide +kernel, rfl⟩
theorem dX7_year_48 : Dc MX7_year 48 50 (.istore 5) 2 := ⟨by decide +kernel, rfl⟩
theorem dX7_year_50 : Dc MX7_year 50 52 (.iload 5) 2 := ⟨by decide +kernel, rfl⟩
theorem dX7_year_52 : Dc MX7_year 52 53 (.iload_n 2) 1 := ⟨by decide +kernel, rfl⟩
theorem dX7_year_53 : Dc MX7_year 53 56 (.if_icmp .ge 31) 3 := ⟨by decide +kernel, rfl⟩
theorem dX7_year_56 : Dc MX7_year 56 58 (.bipush 75) 2 := ⟨by decide +kernel, rfl⟩
theorem dX7_year_58 : Dc MX7_year 58 60 (.iload 4) 2 := ⟨by decide +kernel, rfl⟩
theorem dX7_year_60 : Dc MX7_year 60 61 (.imul) 1 := ⟨by decide +kernel, rfl⟩
theorem dX7_year_61 : Dc MX7_year 61 63 (.bipush 74) 2 := ⟨by decide +kernel, rfl⟩
theorem dX7_year_63 : Dc MX7_year 63 64 (.iadd) 1 := ⟨by decide +kernel, rfl⟩
theorem dX7_year_64 : Dc MX7_year 64 66 (.ldc 225) 2 := ⟨by decide +kernel, rfl⟩
theorem dX7_year_66 : Dc MX7_year 66 67 (.irem) 1 := ⟨by decide +kernel, rfl⟩
theorem dX7_year_67 : Dc MX7_year 67 69 (.istore 4) 2 := ⟨by decide +kernel, rfl⟩
theorem dX7_year_69 : Dc MX7_year 69 70 (.aload_n 0) 1 := ⟨by decide +kernel, rfl⟩
theorem dX7_year_70 : Dc MX7_year 70 73 (.getfield 16) 3 := ⟨by decide +kernel, rfl⟩
theorem dX7_year_73 : Dc MX7_year 73 75 (.iload 4) 2 := ⟨by decide +kernel, rfl⟩
theorem dX7_year_75 : Dc MX7_year 75 78 (.invokevirtual 226) 3 := ⟨by decide +kernel, rfl⟩
theorem dX7_year_78 : Dc MX7_year 78 81 (.iinc 5 1) 3 := ⟨by decide +kernel, rfl⟩
theorem dX7_year_81 : Dc MX7_year 81 84 (.goto (-31)) 3 := ⟨by decide +kernel, rfl⟩
theorem dX7_year_84 : Dc MX7_year 84 85 (.iload_n 3) 1 := ⟨by decide +kernel, rfl⟩
theorem dX7_year_85 : Dc MX7_year 85 88 (.ifCond .ne 19) 3 := ⟨by decide +kernel, rfl⟩
theorem dX7_year_88 : Dc MX7_year 88 89 (.aload_n 0) 1 := ⟨by decide +kernel, rfl⟩
theorem dX7_year_89 : Dc MX7_year 89 92 (.getfield 16) 3 := ⟨by decide +kernel, rfl⟩
theorem dX7_year_92 : Dc MX7_year 92 95 (.getfield 136) 3 := ⟨by decide +kernel, rfl⟩
theorem dX7_year_95 : Dc MX7_year 95 96 (.aload_n 0) 1 := ⟨by decide +kernel, rfl⟩
theorem dX7_year_96 : Dc MX7_year 96 99 (.getfield 10) 3 := ⟨by decide +kernel, rfl⟩
theorem dX7_year_99 : Dc MX7_year 99 102 (.getfield 136) 3 := ⟨by decide +kernel, rfl⟩
theorem dX7_year_102 : Dc MX7_year 102 103 (.isub) 1 := ⟨by decide +kernel, rfl⟩
theorem dX7_year_103 : Dc MX7_year 103 104 (.ireturn) 1 := ⟨by decide +kernel, rfl⟩
theorem dX7_year_104 : Dc MX7_year 104 105 (.iload_n 3) 1 := ⟨by decide +kernel, rfl⟩
theorem dX7_year_105 : Dc MX7_year 105 106 (.iconst 1) 1 := ⟨by decide +kernel, rfl⟩
theorem dX7_year_106 : Dc MX7_year 106 109 (.if_icmp .ne 13) 3 := ⟨by decide +kernel, rfl⟩
theorem dX7_year_109 : Dc MX7_year 109 110 (.aload_n 0) 1 := ⟨by decide +kernel, rfl⟩
theorem dX7_year_110 : Dc MX7_year 110 113 (.getfield 16) 3 := ⟨by decide +kernel, rfl⟩
theorem dX7_year_113 : Dc MX7_year 113 116 (.getfield 139) 3 := ⟨by decide +kernel, rfl⟩
theorem dX7_year_116 : Dc MX7_year 116 119 (.goto 10) 3 := ⟨by decide +kernel, rfl⟩
theorem dX7_year_119 : Dc MX7_year 119 120 (.aload_n 0) 1 := ⟨by decide +kernel, rfl⟩
theorem dX7_year_120 : Dc MX7_year 120 123 (.getfield 16) 3 := ⟨by decide +kernel, rfl⟩
theorem dX7_year_123 : Dc MX7_year 123 126 (.getfield 72) 3 := ⟨by decide +kernel, rfl⟩
theorem dX7_year_126 : Dc MX7_year 126 127 (.ireturn) 1 := ⟨by decide +kernel, rfl⟩
theorem dX7_image_0 : Dc MX7_image 0 1 (.iload_n 1) 1 := ⟨by decide +kernel, rfl⟩
theorem dX7_image_1 : Dc MX7_image 1 2 (.iconst 0) 1 := ⟨by decide +kernel, rfl⟩
theorem dX7_image_2 : Dc MX7_image 2 3 (.iconst 1) 1 := ⟨by decide +kernel, rfl⟩
theorem dX7_image_3 : Dc MX7_image 3 6 (.invokestatic 64) 3 := ⟨by decide +kernel, rfl⟩
theorem dX7_image_6 : Dc MX7_image 6 9 (.ifCond .ne 6) 3 := ⟨by decide +kernel, rfl⟩
theorem dX7_image_9 : Dc MX7_image 9 11 (.bipush (-2)) 2 := ⟨by decide +kernel, rfl⟩
theorem dX7_image_11 : Dc MX7_image 11 12 (.ireturn) 1 := ⟨by decide +kernel, rfl⟩
theorem dX7_image_12 : Dc MX7_image 12 13 (.aload_n 0) 1 := ⟨by decide +kernel, rfl⟩
theorem dX7_image_13 : Dc MX7_image 13 14 (.iload_n 1) 1 := ⟨by decide +kernel, rfl⟩
theorem dX7_image_14 : Dc MX7_image 14 17 (.invokevirtual 230) 3 := ⟨by decide +kernel, rfl⟩
theorem dX7_image_17 : Dc MX7_image 17 18 (.aload_n 0) 1 := ⟨by decide +kernel, rfl⟩
theorem dX7_image_18 : Dc MX7_image 18 21 (.getfield 10) 3 := ⟨by decide +kernel, rfl⟩
theorem dX7_image_21 : Dc MX7_image 21 22 (.aload_n 0) 1 := ⟨by decide +kernel, rfl⟩
theorem dX7_image_22 : Dc MX7_image 22 25 (.getfield 36) 3 := ⟨by decide +kernel, rfl⟩
theorem dX7_image_25 : Dc MX7_image 25 28 (.invokevirtual 234) 3 := ⟨by decide +kernel, rfl⟩
theorem dX7_image_28 : Dc MX7_image 28 29 (.iconst 1) 1 := ⟨by decide +kernel, rfl⟩
theorem dX7_image_29 : Dc MX7_image 29 30 (.ireturn) 1 := ⟨by decide +kernel, rfl⟩
theorem dX7_restore_0 : Dc MX7_restore 0 1 (.iload_n 1) 1 := ⟨by decide +kernel, rfl⟩
theorem dX7_restore_1 : Dc MX7_restore 1 2 (.iconst 0) 1 := ⟨by decide +kernel, rfl⟩
theorem dX7_restore_2 : Dc MX7_restore 2 3 (.iconst 1) 1 := ⟨by decide +kernel, rfl⟩
theorem dX7_restore_3 : Dc MX7_restore 3 6 (.invokestatic 64) 3 := ⟨by decide +kernel, rfl⟩
theorem dX7_restore_6 : Dc MX7_restore 6 9 (.ifCond .ne 6) 3 := ⟨by decide +kernel, rfl⟩
theorem dX7_restore_9 : Dc MX7_restore 9 11 (.bipush (-2)) 2 := ⟨by decide +kernel, rfl⟩
theorem dX7_restore_11 : Dc MX7_restore 11 12 (.ireturn) 1 := ⟨by decide +kernel, rfl⟩
theorem dX7_restore_12 : Dc MX7_restore 12 13 (.aload_n 0) 1 := ⟨by decide +kernel, rfl⟩
theorem dX7_restore_13 : Dc MX7_restore 13 14 (.iload_n 1) 1 := ⟨by decide +kernel, rfl⟩
theorem dX7_restore_14 : Dc MX7_restore 14 17 (.invokevirtual 230) 3 := ⟨by decide +kernel, rfl⟩
theorem dX7_restore_17 : Dc MX7_restore 17 18 (.aload_n 0) 1 := ⟨by decide +kernel, rfl⟩
theorem dX7_restore_18 : Dc MX7_restore 18 21 (.getfield 10) 3 := ⟨by decide +kernel, rfl⟩
theorem dX7_restore_21 : Dc MX7_restore 21 22 (.aload_n 0) 1 := ⟨by decide +kernel, rfl⟩
theorem dX7_restore_22 : Dc MX7_restore 22 25 (.getfield 36) 3 := ⟨by decide +kernel, rfl⟩
theorem dX7_restore_25 : Dc MX7_restore 25 28 (.invokevirtual 238) 3 := ⟨by decide +kernel, rfl⟩
theorem dX7_restore_28 : Dc MX7_restore 28 31 (.ifCond .eq 7) 3 := ⟨by decide +kernel, rfl⟩
theorem dX7_restore_31 : Dc MX7_restore 31 32 (.iconst 1) 1 := ⟨by decide +kernel, rfl⟩
theorem dX7_restore_32 : Dc MX7_restore 32 35 (.goto 5) 3 := ⟨by decide +kernel, rfl⟩
theorem dX7_restore_35 : Dc MX7_restore 35 37 (.bipush (-3)) 2 := ⟨by decide +kernel, rfl⟩
theorem dX7_restore_37 : Dc MX7_restore 37 38 (.ireturn) 1 := ⟨by decide +kernel, rfl⟩
theorem dX7_told_0 : Dc MX7_told 0 1 (.iload_n 1) 1 := ⟨by decide +kernel, rfl⟩
theorem dX7_told_1 : Dc MX7_told 1 44 (.tableswitch 99 0 6 #[43, 51, 59, 67, 75, 83, 91]) 43 := ⟨by decide +kernel, rfl⟩
theorem dX7_told_44 : Dc MX7_told 44 45 (.aload_n 0) 1 := ⟨by decide +kernel, rfl⟩
theorem dX7_told_45 : Dc MX7_told 45 48 (.getfield 22) 3 := ⟨by decide +kernel, rfl⟩
theorem dX7_told_48 : Dc MX7_told 48 51 (.getfield 113) 3 := ⟨by decide +kernel, rfl⟩
theorem dX7_told_51 : Dc MX7_told 51 52 (.ireturn) 1 := ⟨by decide +kernel, rfl⟩
theorem dX7_told_52 : Dc MX7_told 52 53 (.aload_n 0) 1 := ⟨by decide +kernel, rfl⟩
theorem dX7_told_53 : Dc MX7_told 53 56 (.getfield 10) 3 := ⟨by decide +kernel, rfl⟩
theorem dX7_told_56 : Dc MX7_told 56 59 (.getfield 68) 3 := ⟨by decide +kernel, rfl⟩
theorem dX7_told_59 : Dc MX7_told 59 60 (.ireturn) 1 := ⟨by decide +kernel, rfl⟩
theorem dX7_told_60 : Dc MX7_told 60 61 (.aload_n 0) 1 := ⟨by decide +kernel, rfl⟩
theorem dX7_told_61 : Dc MX7_told 61 64 (.getfield 10) 3 := ⟨by decide +kernel, rfl⟩
theorem dX7_told_64 : Dc MX7_told 64 67 (.getfield 72) 3 := ⟨by decide +kernel, rfl⟩
theorem dX7_told_67 : Dc MX7_told 67 68 (.ireturn) 1 := ⟨by decide +kernel, rfl⟩
theorem dX7_told_68 : Dc MX7_told 68 69 (.aload_n 0) 1 := ⟨by decide +kernel, rfl⟩
theorem dX7_told_69 : Dc MX7_told 69 72 (.getfield 10) 3 := ⟨by decide +kernel, rfl⟩
theorem dX7_told_72 : Dc MX7_told 72 75 (.getfield 136) 3 := ⟨by decide +kernel, rfl⟩
theorem dX7_told_75 : Dc MX7_told 75 76 (.ireturn) 1 := ⟨by decide +kernel, rfl⟩
theorem dX7_told_76 : Dc MX7_told 76 77 (.aload_n 0) 1 := ⟨by decide +kernel, rfl⟩
theorem dX7_told_77 : Dc MX7_told 77 80 (.getfield 10) 3 := ⟨by decide +kernel, rfl⟩
theorem dX7_told_80 : Dc MX7_told 80 83 (.getfield 107) 3 := ⟨by decide +kernel, rfl⟩
theorem dX7_told_83 : Dc MX7_told 83 84 (.ireturn) 1 := ⟨by decide +kernel, rfl⟩
theorem dX7_told_84 : Dc MX7_told 84 85 (.aload_n 0) 1 := ⟨by decide +kernel, rfl⟩
theorem dX7_told_85 : Dc MX7_told 85 88 (.getfield 36) 3 := ⟨by decide +kernel, rfl⟩
theorem dX7_told_88 : Dc MX7_told 88 91 (.getfield 193) 3 := ⟨by decide +kernel, rfl⟩
theorem dX7_told_91 : Dc MX7_told 91 92 (.ireturn) 1 := ⟨by decide +kernel, rfl⟩
theorem dX7_told_92 : Dc MX7_told 92 93 (.aload_n 0) 1 := ⟨by decide +kernel, rfl⟩
theorem dX7_told_93 : Dc MX7_told 93 96 (.getfield 10) 3 := ⟨by decide +kernel, rfl⟩
theorem dX7_told_96 : Dc MX7_told 96 99 (.getfield 79) 3 := ⟨by decide +kernel, rfl⟩
theorem dX7_told_99 : Dc MX7_told 99 100 (.ireturn) 1 := ⟨by decide +kernel, rfl⟩
theorem dX7_told_100 : Dc MX7_told 100 101 (.aload_n 0) 1 := ⟨by decide +kernel, rfl⟩
theorem dX7_told_101 : Dc MX7_told 101 102 (.iload_n 1) 1 := ⟨by decide +kernel, rfl⟩
theorem dX7_told_102 : Dc MX7_told 102 104 (.bipush 10) 2 := ⟨by decide +kernel, rfl⟩
theorem dX7_told_104 : Dc MX7_told 104 105 (.idiv) 1 := ⟨by decide +kernel, rfl⟩
theorem dX7_told_105 : Dc MX7_told 105 106 (.iconst 1) 1 := ⟨by decide +kernel, rfl⟩
theorem dX7_told_106 : Dc MX7_told 106 107 (.isub) 1 := ⟨by decide +kernel, rfl⟩
theorem dX7_told_107 : Dc MX7_told 107 108 (.iload_n 1) 1 := ⟨by decide +kernel, rfl⟩
theorem dX7_told_108 : Dc MX7_told 108 110 (.bipush 10) 2 := ⟨by decide +kernel, rfl⟩
theorem dX7_told_110 : Dc MX7_told 110 111 (.irem) 1 := ⟨by decide +kernel, rfl⟩
theorem dX7_told_111 : Dc MX7_told 111 114 (.invokevirtual 242) 3 := ⟨by decide +kernel, rfl⟩
theorem dX7_told_114 : Dc MX7_told 114 115 (.ireturn) 1 := ⟨by decide +kernel, rfl⟩
theorem dX7_isWithin_0 : Dc MX7_isWithin 0 1 (.iload_n 0) 1 := ⟨by decide +kernel, rfl⟩
theorem dX7_isWithin_1 : Dc MX7_isWithin 1 2 (.iload_n 1) 1 := ⟨by decide +kernel, rfl⟩
theorem dX7_isWithin_2 : Dc MX7_isWithin 2 5 (.if_icmp .lt 12) 3 := ⟨by decide +kernel, rfl⟩
theorem dX7_isWithin_5 : Dc MX7_isWithin 5 6 (.iload_n 0) 1 := ⟨by decide +kernel, rfl⟩
theorem dX7_isWithin_6 : Dc MX7_isWithin 6 7 (.iload_n 2) 1 := ⟨by decide +kernel, rfl⟩
theorem dX7_isWithin_7 : Dc MX7_isWithin 7 10 (.if_icmp .gt 7) 3 := ⟨by decide +kernel, rfl⟩
theorem dX7_isWithin_10 : Dc MX7_isWithin 10 11 (.iconst 1) 1 := ⟨by decide +kernel, rfl⟩
theorem dX7_isWithin_11 : Dc MX7_isWithin 11 14 (.goto 4) 3 := ⟨by decide +kernel, rfl⟩
theorem dX7_isWithin_14 : Dc MX7_isWithin 14 15 (.iconst 0) 1 := ⟨by decide +kernel, rfl⟩
theorem dX7_isWithin_15 : Dc MX7_isWithin 15 16 (.ireturn) 1 := ⟨by decide +kernel, rfl⟩
theorem dX7_isTraveller_0 : Dc MX7_isTraveller 0 1 (.iload_n 0) 1 := ⟨by decide +kernel, rfl⟩
theorem dX7_isTraveller_1 : Dc MX7_isTraveller 1 4 (.ifCond .lt 13) 3 := ⟨by decide +kernel, rfl⟩
theorem dX7_isTraveller_4 : Dc MX7_isTraveller 4 5 (.iload_n 0) 1 := ⟨by decide +kernel, rfl⟩
theorem dX7_isTraveller_5 : Dc MX7_isTraveller 5 7 (.bipush 6) 2 := ⟨by decide +kernel, rfl⟩
theorem dX7_isTraveller_7 : Dc MX7_isTraveller 7 10 (.if_icmp .ge 7) 3 := ⟨by decide +kernel, rfl⟩
theorem dX7_isTraveller_10 : Dc MX7_isTraveller 10 11 (.iconst 1) 1 := ⟨by decide +kernel, rfl⟩
theorem dX7_isTraveller_11 : Dc MX7_isTraveller 11 14 (.goto 4) 3 := ⟨by decide +kernel, rfl⟩
theorem dX7_isTraveller_14 : Dc MX7_isTraveller 14 15 (.iconst 0) 1 := ⟨by decide +kernel, rfl⟩
theorem dX7_isTraveller_15 : Dc MX7_isTraveller 15 16 (.ireturn) 1 := ⟨by decide +kernel, rfl⟩
theorem dX7_isCompartment_0 : Dc MX7_isCompartment 0 1 (.iload_n 0) 1 := ⟨by decide +kernel, rfl⟩
theorem dX7_isCompartment_1 : Dc MX7_isCompartment 1 4 (.ifCond .lt 12) 3 := ⟨by decide +kernel, rfl⟩
theorem dX7_isCompartment_4 : Dc MX7_isCompartment 4 5 (.iload_n 0) 1 := ⟨by decide +kernel, rfl⟩
theorem dX7_isCompartment_5 : Dc MX7_isCompartment 5 6 (.iconst 3) 1 := ⟨by decide +kernel, rfl⟩
theorem dX7_isCompartment_6 : Dc MX7_isCompartment 6 9 (.if_icmp .ge 7) 3 := ⟨by decide +kernel, rfl⟩
theorem dX7_isCompartment_9 : Dc MX7_isCompartment 9 10 (.iconst 1) 1 := ⟨by decide +kernel, rfl⟩
theorem dX7_isCompartment_10 : Dc MX7_isCompartment 10 13 (.goto 4) 3 := ⟨by decide +kernel, rfl⟩
theorem dX7_isCompartment_13 : Dc MX7_isCompartment 13 14 (.iconst 0) 1 := ⟨by decide +kernel, rfl⟩
theorem dX7_isCompartment_14 : Dc MX7_isCompartment 14 15 (.ireturn) 1 := ⟨by decide +kernel, rfl⟩
theorem dX7_isMinute_0 : Dc MX7_isMinute 0 1 (.iload_n 0) 1 := ⟨by decide +kernel, rfl⟩
theorem dX7_isMinute_1 : Dc MX7_isMinute 1 4 (.ifCond .lt 13) 3 := ⟨by decide +kernel, rfl⟩
theorem dX7_isMinute_4 : Dc MX7_isMinute 4 5 (.iload_n 0) 1 := ⟨by decide +kernel, rfl⟩
theorem dX7_isMinute_5 : Dc MX7_isMinute 5 7 (.bipush 30) 2 := ⟨by decide +kernel, rfl⟩
theorem dX7_isMinute_7 : Dc MX7_isMinute 7 10 (.if_icmp .ge 7) 3 := ⟨by decide +kernel, rfl⟩
theorem dX7_isMinute_10 : Dc MX7_isMinute 10 11 (.iconst 1) 1 := ⟨by decide +kernel, rfl⟩
theorem dX7_isMinute_11 : Dc MX7_isMinute 11 14 (.goto 4) 3 := ⟨by decide +kernel, rfl⟩
theorem dX7_isMinute_14 : Dc MX7_isMinute 14 15 (.iconst 0) 1 := ⟨by decide +kernel, rfl⟩
theorem dX7_isMinute_15 : Dc MX7_isMinute 15 16 (.ireturn) 1 := ⟨by decide +kernel, rfl⟩
theorem dX7_padCanBe_0 : Dc MX7_padCanBe 0 1 (.aload_n 0) 1 := ⟨by decide +kernel, rfl⟩
theorem dX7_padCanBe_1 : Dc MX7_padCanBe 1 4 (.getfield 22) 3 := ⟨by decide +kernel, rfl⟩
theorem dX7_padCanBe_4 : Dc MX7_padCanBe 4 7 (.invokevirtual 119) 3 := ⟨by decide +kernel, rfl⟩
theorem dX7_padCanBe_7 : Dc MX7_padCanBe 7 9 (.bipush (-6)) 2 := ⟨by decide +kernel, rfl⟩
theorem dX7_padCanBe_9 : Dc MX7_padCanBe 9 12 (.if_icmp .eq 5) 3 := ⟨by decide +kernel, rfl⟩
theorem dX7_padCanBe_12 : Dc MX7_padCanBe 12 13 (.iconst 0) 1 := ⟨by decide +kernel, rfl⟩
theorem dX7_padCanBe_13 : Dc MX7_padCanBe 13 14 (.ireturn) 1 := ⟨by decide +kernel, rfl⟩
theorem dX7_padCanBe_14 : Dc MX7_padCanBe 14 15 (.aload_n 0) 1 := ⟨by decide +kernel, rfl⟩
theorem dX7_padCanBe_15 : Dc MX7_padCanBe 15 18 (.getfield 16) 3 := ⟨by decide +kernel, rfl⟩
theorem dX7_padCanBe_18 : Dc MX7_padCanBe 18 19 (.aload_n 0) 1 := ⟨by decide +kernel, rfl⟩
theorem dX7_padCanBe_19 : Dc MX7_padCanBe 19 22 (.getfield 10) 3 := ⟨by decide +kernel, rfl⟩
theorem dX7_padCanBe_22 : Dc MX7_padCanBe 22 25 (.invokevirtual 132) 3 := ⟨by decide +kernel, rfl⟩
theorem dX7_padCanBe_25 : Dc MX7_padCanBe 25 26 (.aload_n 0) 1 := ⟨by decide +kernel, rfl⟩
theorem dX7_padCanBe_26 : Dc MX7_padCanBe 26 29 (.getfield 29) 3 := ⟨by decide +kernel, rfl⟩
theorem dX7_padCanBe_29 : Dc MX7_padCanBe 29 30 (.aload_n 0) 1 := ⟨by decide +kernel, rfl⟩
theorem dX7_padCanBe_30 : Dc MX7_padCanBe 30 33 (.getfield 22) 3 := ⟨by decide +kernel, rfl⟩
theorem dX7_padCanBe_33 : Dc MX7_padCanBe 33 34 (.aload_n 0) 1 := ⟨by decide +kernel, rfl⟩
theorem dX7_padCanBe_34 : Dc MX7_padCanBe 34 37 (.getfield 16) 3 := ⟨by decide +kernel, rfl⟩
theorem dX7_padCanBe_37 : Dc MX7_padCanBe 37 40 (.invokevirtual 245) 3 := ⟨by decide +kernel, rfl⟩
theorem dX7_padCanBe_40 : Dc MX7_padCanBe 40 41 (.aload_n 0) 1 := ⟨by decide +kernel, rfl⟩
theorem dX7_padCanBe_41 : Dc MX7_padCanBe 41 44 (.getfield 29) 3 := ⟨by decide +kernel, rfl⟩
theorem dX7_padCanBe_44 : Dc MX7_padCanBe 44 47 (.getfield 129) 3 := ⟨by decide +kernel, rfl⟩
theorem dX7_padCanBe_47 : Dc MX7_padCanBe 47 49 (.bipush (-6)) 2 := ⟨by decide +kernel, rfl⟩
theorem dX7_padCanBe_49 : Dc MX7_padCanBe 49 52 (.if_icmp .ne 7) 3 := ⟨by decide +kernel, rfl⟩
theorem dX7_padCanBe_52 : Dc MX7_padCanBe 52 53 (.iconst 1) 1 := ⟨by decide +kernel, rfl⟩
theorem dX7_padCanBe_53 : Dc MX7_padCanBe 53 56 (.goto 4) 3 := ⟨by decide +kernel, rfl⟩
theorem dX7_padCanBe_56 : Dc MX7_padCanBe 56 57 (.iconst 0) 1 := ⟨by decide +kernel, rfl⟩
theorem dX7_padCanBe_57 : Dc MX7_padCanBe 57 58 (.ireturn) 1 := ⟨by decide +kernel, rfl⟩
theorem dX7_letAllMinutesPass_0 : Dc MX7_letAllMinutesPass 0 1 (.aload_n 0) 1 := ⟨by decide +kernel, rfl⟩
theorem dX7_letAllMinutesPass_1 : Dc MX7_letAllMinutesPass 1 4 (.getfield 16) 3 := ⟨by decide +kernel, rfl⟩
theorem dX7_letAllMinutesPass_4 : Dc MX7_letAllMinutesPass 4 5 (.aload_n 0) 1 := ⟨by decide +kernel, rfl⟩
theorem dX7_letAllMinutesPass_5 : Dc MX7_letAllMinutesPass 5 8 (.getfield 10) 3 := ⟨by decide +kernel, rfl⟩
theorem dX7_letAllMinutesPass_8 : Dc MX7_letAllMinutesPass 8 11 (.invokevirtual 132) 3 := ⟨by decide +kernel, rfl⟩
theorem dX7_letAllMinutesPass_11 : Dc MX7_letAllMinutesPass 11 12 (.aload_n 0) 1 := ⟨by decide +kernel, rfl⟩
theorem dX7_letAllMinutesPass_12 : Dc MX7_letAllMinutesPass 12 15 (.getfield 10) 3 := ⟨by decide +kernel, rfl⟩
theorem dX7_letAllMinutesPass_15 : Dc MX7_letAllMinutesPass 15 18 (.getfield 72) 3 := ⟨by decide +kernel, rfl⟩
theorem dX7_letAllMinutesPass_18 : Dc MX7_letAllMinutesPass 18 19 (.istore_n 1) 1 := ⟨by decide +kernel, rfl⟩
theorem dX7_letAllMinutesPass_19 : Dc MX7_letAllMinutesPass 19 20 (.iload_n 1) 1 := ⟨by decide +kernel, rfl⟩
theorem dX7_letAllMinutesPass_20 : Dc MX7_letAllMinutesPass 20 21 (.aload_n 0) 1 := ⟨by decide +kernel, rfl⟩
theorem dX7_letAllMinutesPass_21 : Dc MX7_letAllMinutesPass 21 24 (.getfield 10) 3 := ⟨by decide +kernel, rfl⟩
theorem dX7_letAllMinutesPass_24 : Dc MX7_letAllMinutesPass 24 27 (.getfield 68) 3 := ⟨by decide +kernel, rfl⟩
theorem dX7_letAllMinutesPass_27 : Dc MX7_letAllMinutesPass 27 30 (.if_icmp .ge 17) 3 := ⟨by decide +kernel, rfl⟩
theorem dX7_letAllMinutesPass_30 : Dc MX7_letAllMinutesPass 30 31 (.aload_n 0) 1 := ⟨by decide +kernel, rfl⟩
theorem dX7_letAllMinutesPass_31 : Dc MX7_letAllMinutesPass 31 34 (.getfield 16) 3 := ⟨by decide +kernel, rfl⟩
theorem dX7_letAllMinutesPass_34 : Dc MX7_letAllMinutesPass 34 37 (.invokevirtual 152) 3 := ⟨by decide +kernel, rfl⟩
theorem dX7_letAllMinutesPass_37 : Dc MX7_letAllMinutesPass 37 38 (.pop) 1 := ⟨by decide +kernel, rfl⟩
theorem dX7_letAllMinutesPass_38 : Dc MX7_letAllMinutesPass 38 41 (.iinc 1 1) 3 := ⟨by decide +kernel, rfl⟩
theorem dX7_letAllMinutesPass_41 : Dc MX7_letAllMinutesPass 41 44 (.goto (-22)) 3 := ⟨by decide +kernel, rfl⟩
theorem dX7_letAllMinutesPass_44 : Dc MX7_letAllMinutesPass 44 45 (.return_) 1 := ⟨by decide +kernel, rfl⟩
theorem dX7_keepsSilence_0 : Dc MX7_keepsSilence 0 1 (.aload_n 0) 1 := ⟨by decide +kernel, rfl⟩
theorem dX7_keepsSilence_1 : Dc MX7_keepsSilence 1 4 (.getfield 16) 3 := ⟨by decide +kernel, rfl⟩
theorem dX7_keepsSilence_4 : Dc MX7_keepsSilence 4 5 (.aload_n 0) 1 := ⟨by decide +kernel, rfl⟩
theorem dX7_keepsSilence_5 : Dc MX7_keepsSilence 5 8 (.getfield 10) 3 := ⟨by decide +kernel, rfl⟩
theorem dX7_keepsSilence_8 : Dc MX7_keepsSilence 8 11 (.invokevirtual 132) 3 := ⟨by decide +kernel, rfl⟩
theorem dX7_keepsSilence_11 : Dc MX7_keepsSilence 11 12 (.aload_n 0) 1 := ⟨by decide +kernel, rfl⟩
theorem dX7_keepsSilence_12 : Dc MX7_keepsSilence 12 15 (.getfield 16) 3 := ⟨by decide +kernel, rfl⟩
theorem dX7_keepsSilence_15 : Dc MX7_keepsSilence 15 16 (.iload_n 1) 1 := ⟨by decide +kernel, rfl⟩
theorem dX7_keepsSilence_16 : Dc MX7_keepsSilence 16 17 (.iload_n 2) 1 := ⟨by decide +kernel, rfl⟩
theorem dX7_keepsSilence_17 : Dc MX7_keepsSilence 17 20 (.invokevirtual 249) 3 := ⟨by decide +kernel, rfl⟩
theorem dX7_keepsSilence_20 : Dc MX7_keepsSilence 20 21 (.aload_n 0) 1 := ⟨by decide +kernel, rfl⟩
theorem dX7_keepsSilence_21 : Dc MX7_keepsSilence 21 24 (.getfield 10) 3 := ⟨by decide +kernel, rfl⟩
theorem dX7_keepsSilence_24 : Dc MX7_keepsSilence 24 27 (.getfield 72) 3 := ⟨by decide +kernel, rfl⟩
theorem dX7_keepsSilence_27 : Dc MX7_keepsSilence 27 28 (.istore_n 3) 1 := ⟨by decide +kernel, rfl⟩
theorem dX7_keepsSilence_28 : Dc MX7_keepsSilence 28 29 (.iload_n 3) 1 := ⟨by decide +kernel, rfl⟩
theorem dX7_keepsSilence_29 : Dc MX7_keepsSilence 29 30 (.aload_n 0) 1 := ⟨by decide +kernel, rfl⟩
theorem dX7_keepsSilence_30 : Dc MX7_keepsSilence 30 33 (.getfield 10) 3 := ⟨by decide +kernel, rfl⟩
theorem dX7_keepsSilence_33 : Dc MX7_keepsSilence 33 36 (.getfield 68) 3 := ⟨by decide +kernel, rfl⟩
theorem dX7_keepsSilence_36 : Dc MX7_keepsSilence 36 39 (.if_icmp .ge 65) 3 := ⟨by decide +kernel, rfl⟩
theorem dX7_keepsSilence_39 : Dc MX7_keepsSilence 39 40 (.aload_n 0) 1 := ⟨by decide +kernel, rfl⟩
theorem dX7_keepsSilence_40 : Dc MX7_keepsSilence 40 43 (.getfield 16) 3 := ⟨by decide +kernel, rfl⟩
theorem dX7_keepsSilence_43 : Dc MX7_keepsSilence 43 44 (.iload_n 1) 1 := ⟨by decide +kernel, rfl⟩
theorem dX7_keepsSilence_44 : Dc MX7_keepsSilence 44 45 (.iload_n 3) 1 := ⟨by decide +kernel, rfl⟩
theorem dX7_keepsSilence_45 : Dc MX7_keepsSilence 45 48 (.invokevirtual 252) 3 := ⟨by decide +kernel, rfl⟩
theorem dX7_keepsSilence_48 : Dc MX7_keepsSilence 48 51 (.ifCond .eq 18) 3 := ⟨by decide +kernel, rfl⟩
theorem dX7_keepsSilence_51 : Dc MX7_keepsSilence 51 52 (.aload_n 0) 1 := ⟨by decide +kernel, rfl⟩
theorem dX7_keepsSilence_52 : Dc MX7_keepsSilence 52 55 (.getfield 16) 3 := ⟨by decide +kernel, rfl⟩
theorem dX7_keepsSilence_55 : Dc MX7_keepsSilence 55 56 (.iload_n 3) 1 := ⟨by decide +kernel, rfl⟩
theorem dX7_keepsSilence_56 : Dc MX7_keepsSilence 56 59 (.invokevirtual 255) 3 := ⟨by decide +kernel, rfl⟩
theorem dX7_keepsSilence_59 : Dc MX7_keepsSilence 59 62 (.ifCond .ne 7) 3 := ⟨by decide +kernel, rfl⟩
theorem dX7_keepsSilence_62 : Dc MX7_keepsSilence 62 63 (.iconst 1) 1 := ⟨by decide +kernel, rfl⟩
theorem dX7_keepsSilence_63 : Dc MX7_keepsSilence 63 66 (.goto 4) 3 := ⟨by decide +kernel, rfl⟩
theorem dX7_keepsSilence_66 : Dc MX7_keepsSilence 66 67 (.iconst 0) 1 := ⟨by decide +kernel, rfl⟩
theorem dX7_keepsSilence_67 : Dc MX7_keepsSilence 67 69 (.istore 4) 2 := ⟨by decide +kernel, rfl⟩
theorem dX7_keepsSilence_69 : Dc MX7_keepsSilence 69 71 (.iload 4) 2 := ⟨by decide +kernel, rfl⟩
theorem dX7_keepsSilence_71 : Dc MX7_keepsSilence 71 74 (.ifCond .eq 16) 3 := ⟨by decide +kernel, rfl⟩
theorem dX7_keepsSilence_74 : Dc MX7_keepsSilence 74 75 (.aload_n 0) 1 := ⟨by decide +kernel, rfl⟩
theorem dX7_keepsSilence_75 : Dc MX7_keepsSilence 75 78 (.getfield 16) 3 := ⟨by decide +kernel, rfl⟩
theorem dX7_keepsSilence_78 : Dc MX7_keepsSilence 78 79 (.iload_n 1) 1 := ⟨by decide +kernel, rfl⟩
theorem dX7_keepsSilence_79 : Dc MX7_keepsSilence 79 82 (.invokevirtual 258) 3 := ⟨by decide +kernel, rfl⟩
theorem dX7_keepsSilence_82 : Dc MX7_keepsSilence 82 85 (.ifCond .ne 5) 3 := ⟨by decide +kernel, rfl⟩
theorem dX7_keepsSilence_85 : Dc MX7_keepsSilence 85 86 (.iconst 0) 1 := ⟨by decide +kernel, rfl⟩
theorem dX7_keepsSilence_86 : Dc MX7_keepsSilence 86 87 (.ireturn) 1 := ⟨by decide +kernel, rfl⟩
theorem dX7_keepsSilence_87 : Dc MX7_keepsSilence 87 88 (.aload_n 0) 1 := ⟨by decide +kernel, rfl⟩
theorem dX7_keepsSilence_88 : Dc MX7_keepsSilence 88 91 (.getfield 16) 3 := ⟨by decide +kernel, rfl⟩
theorem dX7_keepsSilence_91 : Dc MX7_keepsSilence 91 94 (.invokevirtual 152) 3 := ⟨by decide +kernel, rfl⟩
theorem dX7_keepsSilence_94 : Dc MX7_keepsSilence 94 95 (.pop) 1 := ⟨by decide +kernel, rfl⟩
theorem dX7_keepsSilence_95 : Dc MX7_keepsSilence 95 98 (.iinc 3 1) 3 := ⟨by decide +kernel, rfl⟩
theorem dX7_keepsSilence_98 : Dc MX7_keepsSilence 98 101 (.goto (-70)) 3 := ⟨by decide +kernel, rfl⟩
theorem dX7_keepsSilence_101 : Dc MX7_keepsSilence 101 102 (.iconst 1) 1 := ⟨by decide +kernel, rfl⟩
theorem dX7_keepsSilence_102 : Dc MX7_keepsSilence 102 103 (.ireturn) 1 := ⟨by decide +kernel, rfl⟩
theorem dX7_paidInTrial_0 : Dc MX7_paidInTrial 0 1 (.iload_n 1) 1 := ⟨by decide +kernel, rfl⟩
theorem dX7_paidInTrial_1 : Dc MX7_paidInTrial 1 4 (.invokestatic 86) 3 := ⟨by decide +kernel, rfl⟩
theorem dX7_paidInTrial_4 : Dc MX7_paidInTrial 4 7 (.ifCond .eq 25) 3 := ⟨by decide +kernel, rfl⟩
theorem dX7_paidInTrial_7 : Dc MX7_paidInTrial 7 8 (.aload_n 0) 1 := ⟨by decide +kernel, rfl⟩
theorem dX7_paidInTrial_8 : Dc MX7_paidInTrial 8 11 (.getfield 10) 3 := ⟨by decide +kernel, rfl⟩
theorem dX7_paidInTrial_11 : Dc MX7_paidInTrial 11 14 (.getfield 104) 3 := ⟨by decide +kernel, rfl⟩
theorem dX7_paidInTrial_14 : Dc MX7_paidInTrial 14 15 (.iload_n 1) 1 := ⟨by decide +kernel, rfl⟩
theorem dX7_paidInTrial_15 : Dc MX7_paidInTrial 15 16 (.iaload) 1 := ⟨by decide +kernel, rfl⟩
theorem dX7_paidInTrial_16 : Dc MX7_paidInTrial 16 17 (.aload_n 0) 1 := ⟨by decide +kernel, rfl⟩
theorem dX7_paidInTrial_17 : Dc MX7_paidInTrial 17 20 (.getfield 16) 3 := ⟨by decide +kernel, rfl⟩
theorem dX7_paidInTrial_20 : Dc MX7_paidInTrial 20 23 (.getfield 104) 3 := ⟨by decide +kernel, rfl⟩
theorem dX7_paidInTrial_23 : Dc MX7_paidInTrial 23 24 (.iload_n 1) 1 := ⟨by decide +kernel, rfl⟩
theorem dX7_paidInTrial_24 : Dc MX7_paidInTrial 24 25 (.iaload) 1 := ⟨by decide +kernel, rfl⟩
theorem dX7_paidInTrial_25 : Dc MX7_paidInTrial 25 26 (.isub) 1 := ⟨by decide +kernel, rfl⟩
theorem dX7_paidInTrial_26 : Dc MX7_paidInTrial 26 29 (.goto 4) 3 := ⟨by decide +kernel, rfl⟩
theorem dX7_paidInTrial_29 : Dc MX7_paidInTrial 29 30 (.iconst 0) 1 := ⟨by decide +kernel, rfl⟩
theorem dX7_paidInTrial_30 : Dc MX7_paidInTrial 30 31 (.ireturn) 1 := ⟨by decide +kernel, rfl⟩
theorem dX7_paidByCompartment_0 : Dc MX7_paidByCompartment 0 1 (.iconst 0) 1 := ⟨by decide +kernel, rfl⟩
theorem dX7_paidByCompartment_1 : Dc MX7_paidByCompartment 1 2 (.istore_n 2) 1 := ⟨by decide +kernel, rfl⟩
theorem dX7_paidByCompartment_2 : Dc MX7_paidByCompartment 2 3 (.iconst 0) 1 := ⟨by decide +kernel, rfl⟩
theorem dX7_paidByCompartment_3 : Dc MX7_paidByCompartment 3 4 (.istore_n 3) 1 := ⟨by decide +kernel, rfl⟩
theorem dX7_paidByCompartment_4 : Dc MX7_paidByCompartment 4 5 (.iload_n 3) 1 := ⟨by decide +kernel, rfl⟩
theorem dX7_paidByCompartment_5 : Dc MX7_paidByCompartment 5 7 (.bipush 6) 2 := ⟨by decide +kernel, rfl⟩
theorem dX7_paidByCompartment_7 : Dc MX7_paidByCompartment 7 10 (.if_icmp .ge 30) 3 := ⟨by decide +kernel, rfl⟩
theorem dX7_paidByCompartment_10 : Dc MX7_paidByCompartment 10 11 (.aload_n 0) 1 := ⟨by decide +kernel, rfl⟩
theorem dX7_paidByCompartment_11 : Dc MX7_paidByCompartment 11 14 (.getfield 10) 3 := ⟨by decide +kernel, rfl⟩
theorem dX7_paidByCompartment_14 : Dc MX7_paidByCompartment 14 17 (.getfield 100) 3 := ⟨by decide +kernel, rfl⟩
theorem dX7_paidByCompartment_17 : Dc MX7_paidByCompartment 17 18 (.iload_n 3) 1 := ⟨by decide +kernel, rfl⟩
theorem dX7_paidByCompartment_18 : Dc MX7_paidByCompartment 18 19 (.iaload) 1 := ⟨by decide +kernel, rfl⟩
theorem dX7_paidByCompartment_19 : Dc MX7_paidByCompartment 19 20 (.iload_n 1) 1 := ⟨by decide +kernel, rfl⟩
theorem dX7_paidByCompartment_20 : Dc MX7_paidByCompartment 20 23 (.if_icmp .ne 11) 3 := ⟨by decide +kernel, rfl⟩
theorem dX7_paidByCompartment_23 : Dc MX7_paidByCompartment 23 24 (.iload_n 2) 1 := ⟨by decide +kernel, rfl⟩
theorem dX7_paidByCompartment_24 : Dc MX7_paidByCompartment 24 25 (.aload_n 0) 1 := ⟨by decide +kernel, rfl⟩
theorem dX7_paidByCompartment_25 : Dc MX7_paidByCompartment 25 26 (.iload_n 3) 1 := ⟨by decide +kernel, rfl⟩
theorem dX7_paidByCompartment_26 : Dc MX7_paidByCompartment 26 29 (.invokevirtual 168) 3 := ⟨by decide +kernel, rfl⟩
theorem dX7_paidByCompartment_29 : Dc MX7_paidByCompartment 29 30 (.iadd) 1 := ⟨by decide +kernel, rfl⟩
theorem dX7_paidByCompartment_30 : Dc MX7_paidByCompartment 30 31 (.istore_n 2) 1 := ⟨by decide +kernel, rfl⟩
theorem dX7_paidByCompartment_31 : Dc MX7_paidByCompartment 31 34 (.iinc 3 1) 3 := ⟨by decide +kernel, rfl⟩
theorem dX7_paidByCompartment_34 : Dc MX7_paidByCompartment 34 37 (.goto (-30)) 3 := ⟨by decide +kernel, rfl⟩
theorem dX7_paidByCompartment_37 : Dc MX7_paidByCompartment 37 38 (.iload_n 2) 1 := ⟨by decide +kernel, rfl⟩
theorem dX7_paidByCompartment_38 : Dc MX7_paidByCompartment 38 39 (.ireturn) 1 := ⟨by decide +kernel, rfl⟩
theorem dX7_topPayer_0 : Dc MX7_topPayer 0 2 (.bipush (-6)) 2 := ⟨by decide +kernel, rfl⟩
theorem dX7_topPayer_2 : Dc MX7_topPayer 2 3 (.istore_n 1) 1 := ⟨by decide +kernel, rfl⟩
theorem dX7_topPayer_3 : Dc MX7_topPayer 3 4 (.iconst 0) 1 := ⟨by decide +kernel, rfl⟩
theorem dX7_topPayer_4 : Dc MX7_topPayer 4 5 (.istore_n 2) 1 := ⟨by decide +kernel, rfl⟩
theorem dX7_topPayer_5 : Dc MX7_topPayer 5 6 (.iconst 0) 1 := ⟨by decide +kernel, rfl⟩
theorem dX7_topPayer_6 : Dc MX7_topPayer 6 7 (.istore_n 3) 1 := ⟨by decide +kernel, rfl⟩
theorem dX7_topPayer_7 : Dc MX7_topPayer 7 8 (.iload_n 3) 1 := ⟨by decide +kernel, rfl⟩
theorem dX7_topPayer_8 : Dc MX7_topPayer 8 10 (.bipush 6) 2 := ⟨by decide +kernel, rfl⟩
theorem dX7_topPayer_10 : Dc MX7_topPayer 10 13 (.if_icmp .ge 26) 3 := ⟨by decide +kernel, rfl⟩
theorem dX7_topPayer_13 : Dc MX7_topPayer 13 14 (.aload_n 0) 1 := ⟨by decide +kernel, rfl⟩
theorem dX7_topPayer_14 : Dc MX7_topPayer 14 15 (.iload_n 3) 1 := ⟨by decide +kernel, rfl⟩
theorem dX7_topPayer_15 : Dc MX7_topPayer 15 18 (.invokevirtual 168) 3 := ⟨by decide +kernel, rfl⟩
theorem dX7_topPayer_18 : Dc MX7_topPayer 18 19 (.iload_n 2) 1 := ⟨by decide +kernel, rfl⟩
theorem dX7_topPayer_19 : Dc MX7_topPayer 19 22 (.if_icmp .le 11) 3 := ⟨by decide +kernel, rfl⟩
theorem dX7_topPayer_22 : Dc MX7_topPayer 22 23 (.aload_n 0) 1 := ⟨by decide +kernel, rfl⟩
theorem dX7_topPayer_23 : Dc MX7_topPayer 23 24 (.iload_n 3) 1 := ⟨by decide +kernel, rfl⟩
theorem dX7_topPayer_24 : Dc MX7_topPayer 24 27 (.invokevirtual 168) 3 := ⟨by decide +kernel, rfl⟩
theorem dX7_topPayer_27 : Dc MX7_topPayer 27 28 (.istore_n 2) 1 := ⟨by decide +kernel, rfl⟩
theorem dX7_topPayer_28 : Dc MX7_topPayer 28 29 (.iload_n 3) 1 := ⟨by decide +kernel, rfl⟩
theorem dX7_topPayer_29 : Dc MX7_topPayer 29 30 (.istore_n 1) 1 := ⟨by decide +kernel, rfl⟩
theorem dX7_topPayer_30 : Dc MX7_topPayer 30 33 (.iinc 3 1) 3 := ⟨by decide +kernel, rfl⟩
theorem dX7_topPayer_33 : Dc MX7_topPayer 33 36 (.goto (-26)) 3 := ⟨by decide +kernel, rfl⟩
theorem dX7_topPayer_36 : Dc MX7_topPayer 36 37 (.iload_n 1) 1 := ⟨by decide +kernel, rfl⟩
theorem dX7_topPayer_37 : Dc MX7_topPayer 37 38 (.ireturn) 1 := ⟨by decide +kernel, rfl⟩
theorem dX7_leftAtMost_0 : Dc MX7_leftAtMost 0 1 (.iload_n 0) 1 := ⟨by decide +kernel, rfl⟩
theorem dX7_leftAtMost_1 : Dc MX7_leftAtMost 1 2 (.iload_n 1) 1 := ⟨by decide +kernel, rfl⟩
theorem dX7_leftAtMost_2 : Dc MX7_leftAtMost 2 3 (.iand) 1 := ⟨by decide +kernel, rfl⟩
theorem dX7_leftAtMost_3 : Dc MX7_leftAtMost 3 6 (.invokestatic 261) 3 := ⟨by decide +kernel, rfl⟩
theorem dX7_leftAtMost_6 : Dc MX7_leftAtMost 6 7 (.istore_n 2) 1 := ⟨by decide +kernel, rfl⟩
theorem dX7_leftAtMost_7 : Dc MX7_leftAtMost 7 8 (.iload_n 0) 1 := ⟨by decide +kernel, rfl⟩
theorem dX7_leftAtMost_8 : Dc MX7_leftAtMost 8 9 (.iload_n 1) 1 := ⟨by decide +kernel, rfl⟩
theorem dX7_leftAtMost_9 : Dc MX7_leftAtMost 9 10 (.iconst (-1)) 1 := ⟨by decide +kernel, rfl⟩
theorem dX7_leftAtMost_10 : Dc MX7_leftAtMost 10 11 (.ixor) 1 := ⟨by decide +kernel, rfl⟩
theorem dX7_leftAtMost_11 : Dc MX7_leftAtMost 11 12 (.iand) 1 := ⟨by decide +kernel, rfl⟩
theorem dX7_leftAtMost_12 : Dc MX7_leftAtMost 12 15 (.invokestatic 261) 3 := ⟨by decide +kernel, rfl⟩
theorem dX7_leftAtMost_15 : Dc MX7_leftAtMost 15 16 (.istore_n 3) 1 := ⟨by decide +kernel, rfl⟩
theorem dX7_leftAtMost_16 : Dc MX7_leftAtMost 16 17 (.iload_n 2) 1 := ⟨by decide +kernel, rfl⟩
theorem dX7_leftAtMost_17 : Dc MX7_leftAtMost 17 18 (.iload_n 3) 1 := ⟨by decide +kernel, rfl⟩
theorem dX7_leftAtMost_18 : Dc MX7_leftAtMost 18 21 (.invokestatic 266) 3 := ⟨by decide +kernel, rfl⟩
theorem dX7_leftAtMost_21 : Dc MX7_leftAtMost 21 22 (.ireturn) 1 := ⟨by decide +kernel, rfl⟩
theorem dX7_chancesToCough_0 : Dc MX7_chancesToCough 0 1 (.iconst 0) 1 := ⟨by decide +kernel, rfl⟩
theorem dX7_chancesToCough_1 : Dc MX7_chancesToCough 1 2 (.istore_n 2) 1 := ⟨by decide +kernel, rfl⟩
theorem dX7_chancesToCough_2 : Dc MX7_chancesToCough 2 3 (.aload_n 0) 1 := ⟨by decide +kernel, rfl⟩
theorem dX7_chancesToCough_3 : Dc MX7_chancesToCough 3 6 (.getfield 16) 3 := ⟨by decide +kernel, rfl⟩
theorem dX7_chancesToCough_6 : Dc MX7_chancesToCough 6 7 (.aload_n 0) 1 := ⟨by decide +kernel, rfl⟩
theorem dX7_chancesToCough_7 : Dc MX7_chancesToCough 7 10 (.getfield 10) 3 := ⟨by decide +kernel, rfl⟩
theorem dX7_chancesToCough_10 : Dc MX7_chancesToCough 10 13 (.invokevirtual 132) 3 := ⟨by decide +kernel, rfl⟩
theorem dX7_chancesToCough_13 : Dc MX7_chancesToCough 13 14 (.aload_n 0) 1 := ⟨by decide +kernel, rfl⟩
theorem dX7_chancesToCough_14 : Dc MX7_chancesToCough 14 17 (.getfield 10) 3 := ⟨by decide +kernel, rfl⟩
theorem dX7_chancesToCough_17 : Dc MX7_chancesToCough 17 20 (.getfield 72) 3 := ⟨by decide +kernel, rfl⟩
theorem dX7_chancesToCough_20 : Dc MX7_chancesToCough 20 21 (.istore_n 3) 1 := ⟨by decide +kernel, rfl⟩
theorem dX7_chancesToCough_21 : Dc MX7_chancesToCough 21 22 (.iload_n 3) 1 := ⟨by decide +kernel, rfl⟩
theorem dX7_chancesToCough_22 : Dc MX7_chancesToCough 22 23 (.aload_n 0) 1 := ⟨by decide +kernel, rfl⟩
theorem dX7_chancesToCough_23 : Dc MX7_chancesToCough 23 26 (.getfield 10) 3 := ⟨by decide +kernel, rfl⟩
theorem dX7_chancesToCough_26 : Dc MX7_chancesToCough 26 29 (.getfield 68) 3 := ⟨by decide +kernel, rfl⟩
theorem dX7_chancesToCough_29 : Dc MX7_chancesToCough 29 32 (.if_icmp .ge 47) 3 := ⟨by decide +kernel, rfl⟩
theorem dX7_chancesToCough_32 : Dc MX7_chancesToCough 32 33 (.aload_n 0) 1 := ⟨by decide +kernel, rfl⟩
theorem dX7_chancesToCough_33 : Dc MX7_chancesToCough 33 36 (.getfield 16) 3 := ⟨by decide +kernel, rfl⟩
theorem dX7_chancesToCough_36 : Dc MX7_chancesToCough 36 37 (.iload_n 1) 1 := ⟨by decide +kernel, rfl⟩
theorem dX7_chancesToCough_37 : Dc MX7_chancesToCough 37 40 (.invokevirtual 142) 3 := ⟨by decide +kernel, rfl⟩
theorem dX7_chancesToCough_40 : Dc MX7_chancesToCough 40 42 (.bipush (-6)) 2 := ⟨by decide +kernel, rfl⟩
theorem dX7_chancesToCough_42 : Dc MX7_chancesToCough 42 45 (.if_icmp .eq 20) 3 := ⟨by decide +kernel, rfl⟩
theorem dX7_chancesToCough_45 : Dc MX7_chancesToCough 45 46 (.iload_n 2) 1 := ⟨by decide +kernel, rfl⟩
theorem dX7_chancesToCough_46 : Dc MX7_chancesToCough 46 47 (.aload_n 0) 1 := ⟨by decide +kernel, rfl⟩
theorem dX7_chancesToCough_47 : Dc MX7_chancesToCough 47 50 (.getfield 16) 3 := ⟨by decide +kernel, rfl⟩
theorem dX7_chancesToCough_50 : Dc MX7_chancesToCough 50 51 (.iload_n 1) 1 := ⟨by decide +kernel, rfl⟩
theorem dX7_chancesToCough_51 : Dc MX7_chancesToCough 51 52 (.iload_n 3) 1 := ⟨by decide +kernel, rfl⟩
theorem dX7_chancesToCough_52 : Dc MX7_chancesToCough 52 55 (.invokevirtual 199) 3 := ⟨by decide +kernel, rfl⟩
theorem dX7_chancesToCough_55 : Dc MX7_chancesToCough 55 58 (.invokestatic 261) 3 := ⟨by decide +kernel, rfl⟩
theorem dX7_chancesToCough_58 : Dc MX7_chancesToCough 58 59 (.iconst 1) 1 := ⟨by decide +kernel, rfl⟩
theorem dX7_chancesToCough_59 : Dc MX7_chancesToCough 59 60 (.isub) 1 := ⟨by decide +kernel, rfl⟩
theorem dX7_chancesToCough_60 : Dc MX7_chancesToCough 60 61 (.iadd) 1 := ⟨by decide +kernel, rfl⟩
theorem dX7_chancesToCough_61 : Dc MX7_chancesToCough 61 62 (.istore_n 2) 1 := ⟨by decide +kernel, rfl⟩
theorem dX7_chancesToCough_62 : Dc MX7_chancesToCough 62 63 (.aload_n 0) 1 := ⟨by decide +kernel, rfl⟩
theorem dX7_chancesToCough_63 : Dc MX7_chancesToCough 63 66 (.getfield 16) 3 := ⟨by decide +kernel, rfl⟩
theorem dX7_chancesToCough_66 : Dc MX7_chancesToCough 66 69 (.invokevirtual 152) 3 := ⟨by decide +kernel, rfl⟩
theorem dX7_chancesToCough_69 : Dc MX7_chancesToCough 69 70 (.pop) 1 := ⟨by decide +kernel, rfl⟩
theorem dX7_chancesToCough_70 : Dc MX7_chancesToCough 70 73 (.iinc 3 1) 3 := ⟨by decide +kernel, rfl⟩
theorem dX7_chancesToCough_73 : Dc MX7_chancesToCough 73 76 (.goto (-52)) 3 := ⟨by decide +kernel, rfl⟩
theorem dX7_chancesToCough_76 : Dc MX7_chancesToCough 76 77 (.iload_n 2) 1 := ⟨by decide +kernel, rfl⟩
theorem dX7_chancesToCough_77 : Dc MX7_chancesToCough 77 78 (.ireturn) 1 := ⟨by decide +kernel, rfl⟩
theorem dX7_tenthsInLowestTerms_0 : Dc MX7_tenthsInLowestTerms 0 1 (.iload_n 0) 1 := ⟨by decide +kernel, rfl⟩
theorem dX7_tenthsInLowestTerms_1 : Dc MX7_tenthsInLowestTerms 1 2 (.istore_n 2) 1 := ⟨by decide +kernel, rfl⟩
theorem dX7_tenthsInLowestTerms_2 : Dc MX7_tenthsInLowestTerms 2 4 (.bipush 10) 2 := ⟨by decide +kernel, rfl⟩
theorem dX7_tenthsInLowestTerms_4 : Dc MX7_tenthsInLowestTerms 4 5 (.istore_n 3) 1 := ⟨by decide +kernel, rfl⟩
theorem dX7_tenthsInLowestTerms_5 : Dc MX7_tenthsInLowestTerms 5 6 (.iload_n 2) 1 := ⟨by decide +kernel, rfl⟩
theorem dX7_tenthsInLowestTerms_6 : Dc MX7_tenthsInLowestTerms 6 7 (.iconst 2) 1 := ⟨by decide +kernel, rfl⟩
theorem dX7_tenthsInLowestTerms_7 : Dc MX7_tenthsInLowestTerms 7 8 (.irem) 1 := ⟨by decide +kernel, rfl⟩
theorem dX7_tenthsInLowestTerms_8 : Dc MX7_tenthsInLowestTerms 8 11 (.ifCond .ne 11) 3 := ⟨by decide +kernel, rfl⟩
theorem dX7_tenthsInLowestTerms_11 : Dc MX7_tenthsInLowestTerms 11 12 (.iload_n 2) 1 := ⟨by decide +kernel, rfl⟩
theorem dX7_tenthsInLowestTerms_12 : Dc MX7_tenthsInLowestTerms 12 13 (.iconst 2) 1 := ⟨by decide +kernel, rfl⟩
theorem dX7_tenthsInLowestTerms_13 : Dc MX7_tenthsInLowestTerms 13 14 (.idiv) 1 := ⟨by decide +kernel, rfl⟩
theorem dX7_tenthsInLowestTerms_14 : Dc MX7_tenthsInLowestTerms 14 15 (.istore_n 2) 1 := ⟨by decide +kernel, rfl⟩
theorem dX7_tenthsInLowestTerms_15 : Dc MX7_tenthsInLowestTerms 15 16 (.iload_n 3) 1 := ⟨by decide +kernel, rfl⟩
theorem dX7_tenthsInLowestTerms_16 : Dc MX7_tenthsInLowestTerms 16 17 (.iconst 2) 1 := ⟨by decide +kernel, rfl⟩
theorem dX7_tenthsInLowestTerms_17 : Dc MX7_tenthsInLowestTerms 17 18 (.idiv) 1 := ⟨by decide +kernel, rfl⟩
theorem dX7_tenthsInLowestTerms_18 : Dc MX7_tenthsInLowestTerms 18 19 (.istore_n 3) 1 := ⟨by decide +kernel, rfl⟩
theorem dX7_tenthsInLowestTerms_19 : Dc MX7_tenthsInLowestTerms 19 20 (.iload_n 2) 1 := ⟨by decide +kernel, rfl⟩
theorem dX7_tenthsInLowestTerms_20 : Dc MX7_tenthsInLowestTerms 20 21 (.iconst 5) 1 := ⟨by decide +kernel, rfl⟩
theorem dX7_tenthsInLowestTerms_21 : Dc MX7_tenthsInLowestTerms 21 22 (.irem) 1 := ⟨by decide +kernel, rfl⟩
theorem dX7_tenthsInLowestTerms_22 : Dc MX7_tenthsInLowestTerms 22 25 (.ifCond .ne 11) 3 := ⟨by decide +kernel, rfl⟩
theorem dX7_tenthsInLowestTerms_25 : Dc MX7_tenthsInLowestTerms 25 26 (.iload_n 2) 1 := ⟨by decide +kernel, rfl⟩
theorem dX7_tenthsInLowestTerms_26 : Dc MX7_tenthsInLowestTerms 26 27 (.iconst 5) 1 := ⟨by decide +kernel, rfl⟩
theorem dX7_tenthsInLowestTerms_27 : Dc MX7_tenthsInLowestTerms 27 28 (.idiv) 1 := ⟨by decide +kernel, rfl⟩
theorem dX7_tenthsInLowestTerms_28 : Dc MX7_tenthsInLowestTerms 28 29 (.istore_n 2) 1 := ⟨by decide +kernel, rfl⟩
theorem dX7_tenthsInLowestTerms_29 : Dc MX7_tenthsInLowestTerms 29 30 (.iload_n 3) 1 := ⟨by decide +kernel, rfl⟩
theorem dX7_tenthsInLowestTerms_30 : Dc MX7_tenthsInLowestTerms 30 31 (.iconst 5) 1 := ⟨by decide +kernel, rfl⟩
theorem dX7_tenthsInLowestTerms_31 : Dc MX7_tenthsInLowestTerms 31 32 (.idiv) 1 := ⟨by decide +kernel, rfl⟩
theorem dX7_tenthsInLowestTerms_32 : Dc MX7_tenthsInLowestTerms 32 33 (.istore_n 3) 1 := ⟨by decide +kernel, rfl⟩
theorem dX7_tenthsInLowestTerms_33 : Dc MX7_tenthsInLowestTerms 33 34 (.iload_n 1) 1 := ⟨by decide +kernel, rfl⟩
theorem dX7_tenthsInLowestTerms_34 : Dc MX7_tenthsInLowestTerms 34 37 (.ifCond .ne 7) 3 := ⟨by decide +kernel, rfl⟩
theorem dX7_tenthsInLowestTerms_37 : Dc MX7_tenthsInLowestTerms 37 38 (.iload_n 2) 1 := ⟨by decide +kernel, rfl⟩
theorem dX7_tenthsInLowestTerms_38 : Dc MX7_tenthsInLowestTerms 38 41 (.goto 4) 3 := ⟨by decide +kernel, rfl⟩
theorem dX7_tenthsInLowestTerms_41 : Dc MX7_tenthsInLowestTerms 41 42 (.iload_n 3) 1 := ⟨by decide +kernel, rfl⟩
theorem dX7_tenthsInLowestTerms_42 : Dc MX7_tenthsInLowestTerms 42 43 (.ireturn) 1 := ⟨by decide +kernel, rfl⟩
theorem dX7_imageAt_0 : Dc MX7_imageAt 0 1 (.iload_n 1) 1 := ⟨by decide +kernel, rfl⟩
theorem dX7_imageAt_1 : Dc MX7_imageAt 1 4 (.ifCond .ne 10) 3 := ⟨by decide +kernel, rfl⟩
theorem dX7_imageAt_4 : Dc MX7_imageAt 4 5 (.aload_n 0) 1 := ⟨by decide +kernel, rfl⟩
theorem dX7_imageAt_5 : Dc MX7_imageAt 5 8 (.getfield 57) 3 := ⟨by decide +kernel, rfl⟩
theorem dX7_imageAt_8 : Dc MX7_imageAt 8 11 (.goto 7) 3 := ⟨by decide +kernel, rfl⟩
theorem dX7_imageAt_11 : Dc MX7_imageAt 11 12 (.aload_n 0) 1 := ⟨by decide +kernel, rfl⟩
theorem dX7_imageAt_12 : Dc MX7_imageAt 12 15 (.getfield 61) 3 := ⟨by decide +kernel, rfl⟩
theorem dX7_imageAt_15 : Dc MX7_imageAt 15 16 (.areturn) 1 := ⟨by decide +kernel, rfl⟩
theorem dX7_toldOf_0 : Dc MX7_toldOf 0 1 (.iload_n 1) 1 := ⟨by decide +kernel, rfl⟩
theorem dX7_toldOf_1 : Dc MX7_toldOf 1 4 (.invokestatic 86) 3 := ⟨by decide +kernel, rfl⟩
theorem dX7_toldOf_4 : Dc MX7_toldOf 4 7 (.ifCond .ne 6) 3 := ⟨by decide +kernel, rfl⟩
theorem dX7_toldOf_7 : Dc MX7_toldOf 7 9 (.bipush (-2)) 2 := ⟨by decide +kernel, rfl⟩
theorem dX7_toldOf_9 : Dc MX7_toldOf 9 10 (.ireturn) 1 := ⟨by decide +kernel, rfl⟩
theorem dX7_toldOf_10 : Dc MX7_toldOf 10 11 (.iload_n 2) 1 := ⟨by decide +kernel, rfl⟩
theorem dX7_toldOf_11 : Dc MX7_toldOf 11 44 (.tableswitch 83 0 4 #[33, 43, 53, 63, 73]) 33 := ⟨by decide +kernel, rfl⟩
theorem dX7_toldOf_44 : Dc MX7_toldOf 44 45 (.aload_n 0) 1 := ⟨by decide +kernel, rfl⟩
theorem dX7_toldOf_45 : Dc MX7_toldOf 45 48 (.getfield 10) 3 := ⟨by decide +kernel, rfl⟩
theorem dX7_toldOf_48 : Dc MX7_toldOf 48 51 (.getfield 271) 3 := ⟨by decide +kernel, rfl⟩
theorem dX7_toldOf_51 : Dc MX7_toldOf 51 52 (.iload_n 1) 1 := ⟨by decide +kernel, rfl⟩
theorem dX7_toldOf_52 : Dc MX7_toldOf 52 53 (.iaload) 1 := ⟨by decide +kernel, rfl⟩
theorem dX7_toldOf_53 : Dc MX7_toldOf 53 54 (.ireturn) 1 := ⟨by decide +kernel, rfl⟩
theorem dX7_toldOf_54 : Dc MX7_toldOf 54 55 (.aload_n 0) 1 := ⟨by decide +kernel, rfl⟩
theorem dX7_toldOf_55 : Dc MX7_toldOf 55 58 (.getfield 10) 3 := ⟨by decide +kernel, rfl⟩
theorem dX7_toldOf_58 : Dc MX7_toldOf 58 61 (.getfield 274) 3 := ⟨by decide +kernel, rfl⟩
theorem dX7_toldOf_61 : Dc MX7_toldOf 61 62 (.iload_n 1) 1 := ⟨by decide +kernel, rfl⟩
theorem dX7_toldOf_62 : Dc MX7_toldOf 62 63 (.iaload) 1 := ⟨by decide +kernel, rfl⟩
theorem dX7_toldOf_63 : Dc MX7_toldOf 63 64 (.ireturn) 1 := ⟨by decide +kernel, rfl⟩
theorem dX7_toldOf_64 : Dc MX7_toldOf 64 65 (.aload_n 0) 1 := ⟨by decide +kernel, rfl⟩
theorem dX7_toldOf_65 : Dc MX7_toldOf 65 68 (.getfield 10) 3 := ⟨by decide +kernel, rfl⟩
theorem dX7_toldOf_68 : Dc MX7_toldOf 68 71 (.getfield 100) 3 := ⟨by decide +kernel, rfl⟩
theorem dX7_toldOf_71 : Dc MX7_toldOf 71 72 (.iload_n 1) 1 := ⟨by decide +kernel, rfl⟩
theorem dX7_toldOf_72 : Dc MX7_toldOf 72 73 (.iaload) 1 := ⟨by decide +kernel, rfl⟩
theorem dX7_toldOf_73 : Dc MX7_toldOf 73 74 (.ireturn) 1 := ⟨by decide +kernel, rfl⟩
theorem dX7_toldOf_74 : Dc MX7_toldOf 74 75 (.aload_n 0) 1 := ⟨by decide +kernel, rfl⟩
theorem dX7_toldOf_75 : Dc MX7_toldOf 75 78 (.getfield 10) 3 := ⟨by decide +kernel, rfl⟩
theorem dX7_toldOf_78 : Dc MX7_toldOf 78 81 (.getfield 104) 3 := ⟨by decide +kernel, rfl⟩
theorem dX7_toldOf_81 : Dc MX7_toldOf 81 82 (.iload_n 1) 1 := ⟨by decide +kernel, rfl⟩
theorem dX7_toldOf_82 : Dc MX7_toldOf 82 83 (.iaload) 1 := ⟨by decide +kernel, rfl⟩
theorem dX7_toldOf_83 : Dc MX7_toldOf 83 84 (.ireturn) 1 := ⟨by decide +kernel, rfl⟩
theorem dX7_toldOf_84 : Dc MX7_toldOf 84 85 (.aload_n 0) 1 := ⟨by decide +kernel, rfl⟩
theorem dX7_toldOf_85 : Dc MX7_toldOf 85 88 (.getfield 10) 3 := ⟨by decide +kernel, rfl⟩
theorem dX7_toldOf_88 : Dc MX7_toldOf 88 91 (.getfield 277) 3 := ⟨by decide +kernel, rfl⟩
theorem dX7_toldOf_91 : Dc MX7_toldOf 91 92 (.iload_n 1) 1 := ⟨by decide +kernel, rfl⟩
theorem dX7_toldOf_92 : Dc MX7_toldOf 92 93 (.iaload) 1 := ⟨by decide +kernel, rfl⟩
theorem dX7_toldOf_93 : Dc MX7_toldOf 93 94 (.ireturn) 1 := ⟨by decide +kernel, rfl⟩
theorem dX7_toldOf_94 : Dc MX7_toldOf 94 96 (.bipush (-2)) 2 := ⟨by decide +kernel, rfl⟩
theorem dX7_toldOf_96 : Dc MX7_toldOf 96 97 (.ireturn) 1 := ⟨by decide +kernel, rfl⟩
end
section
theorem dX8_in_0 : Dc MX8_in 0 1 (.iload_n 0) 1 := ⟨by decide +kernel, rfl⟩
theorem dX8_in_1 : Dc MX8_in 1 2 (.iload_n 1) 1 := ⟨by decide +kernel, rfl⟩
theorem dX8_in_2 : Dc MX8_in 2 5 (.if_icmp .lt 12) 3 := ⟨by decide +kernel, rfl⟩
theorem dX8_in_5 : Dc MX8_in 5 6 (.iload_n 0) 1 := ⟨by decide +kernel, rfl⟩
theorem dX8_in_6 : Dc MX8_in 6 7 (.iload_n 2) 1 := ⟨by decide +kernel, rfl⟩
theorem dX8_in_7 : Dc MX8_in 7 10 (.if_icmp .gt 7) 3 := ⟨by decide +kernel, rfl⟩
theorem dX8_in_10 : Dc MX8_in 10 11 (.iconst 1) 1 := ⟨by decide +kernel, rfl⟩
theorem dX8_in_11 : Dc MX8_in 11 14 (.goto 4) 3 := ⟨by decide +kernel, rfl⟩
theorem dX8_in_14 : Dc MX8_in 14 15 (.iconst 0) 1 := ⟨by decide +kernel, rfl⟩
theorem dX8_in_15 : Dc MX8_in 15 16 (.ireturn) 1 := ⟨by decide +kernel, rfl⟩
theorem dX8_has_0 : Dc MX8_has 0 1 (.iload_n 0) 1 := ⟨by decide +kernel, rfl⟩
theorem dX8_has_1 : Dc MX8_has 1 2 (.iload_n 1) 1 := ⟨by decide +kernel, rfl⟩
theorem dX8_has_2 : Dc MX8_has 2 3 (.ishr) 1 := ⟨by decide +kernel, rfl⟩
theorem dX8_has_3 : Dc MX8_has 3 4 (.iconst 1) 1 := ⟨by decide +kernel, rfl⟩
theorem dX8_has_4 : Dc MX8_has 4 5 (.iand) 1 := ⟨by decide +kernel, rfl⟩
theorem dX8_has_5 : Dc MX8_has 5 6 (.iconst 1) 1 := ⟨by decide +kernel, rfl⟩
theorem dX8_has_6 : Dc MX8_has 6 9 (.if_icmp .ne 7) 3 := ⟨by decide +kernel, rfl⟩
theorem dX8_has_9 : Dc MX8_has 9 10 (.iconst 1) 1 := ⟨by decide +kernel, rfl⟩
theorem dX8_has_10 : Dc MX8_has 10 13 (.goto 4) 3 := ⟨by decide +kernel, rfl⟩
theorem dX8_has_13 : Dc MX8_has 13 14 (.iconst 0) 1 := ⟨by decide +kernel, rfl⟩
theorem dX8_has_14 : Dc MX8_has 14 15 (.ireturn) 1 := ⟨by decide +kernel, rfl⟩
theorem dX8_bits_0 : Dc MX8_bits 0 1 (.iconst 0) 1 := ⟨by decide +kernel, rfl⟩
theorem dX8_bits_1 : Dc MX8_bits 1 2 (.istore_n 1) 1 := ⟨by decide +kernel, rfl⟩
theorem dX8_bits_2 : Dc MX8_bits 2 3 (.iconst 0) 1 := ⟨by decide +kernel, rfl⟩
theorem dX8_bits_3 : Dc MX8_bits 3 4 (.istore_n 2) 1 := ⟨by decide +kernel, rfl⟩
theorem dX8_bits_4 : Dc MX8_bits 4 5 (.iload_n 2) 1 := ⟨by decide +kernel, rfl⟩
theorem dX8_bits_5 : Dc MX8_bits 5 7 (.bipush 30) 2 := ⟨by decide +kernel, rfl⟩
theorem dX8_bits_7 : Dc MX8_bits 7 10 (.if_icmp .ge 17) 3 := ⟨by decide +kernel, rfl⟩
theorem dX8_bits_10 : Dc MX8_bits 10 11 (.iload_n 1) 1 := ⟨by decide +kernel, rfl⟩
theorem dX8_bits_11 : Dc MX8_bits 11 12 (.iload_n 0) 1 := ⟨by decide +kernel, rfl⟩
theorem dX8_bits_12 : Dc MX8_bits 12 13 (.iload_n 2) 1 := ⟨by decide +kernel, rfl⟩
theorem dX8_bits_13 : Dc MX8_bits 13 14 (.ishr) 1 := ⟨by decide +kernel, rfl⟩
theorem dX8_bits_14 : Dc MX8_bits 14 15 (.iconst 1) 1 := ⟨by decide +kernel, rfl⟩
theorem dX8_bits_15 : Dc MX8_bits 15 16 (.iand) 1 := ⟨by decide +kernel, rfl⟩
theorem dX8_bits_16 : Dc MX8_bits 16 17 (.iadd) 1 := ⟨by decide +kernel, rfl⟩
theorem dX8_bits_17 : Dc MX8_bits 17 18 (.istore_n 1) 1 := ⟨by decide +kernel, rfl⟩
theorem dX8_bits_18 : Dc MX8_bits 18 21 (.iinc 2 1) 3 := ⟨by decide +kernel, rfl⟩
theorem dX8_bits_21 : Dc MX8_bits 21 24 (.goto (-17)) 3 := ⟨by decide +kernel, rfl⟩
theorem dX8_bits_24 : Dc MX8_bits 24 25 (.iload_n 1) 1 := ⟨by decide +kernel, rfl⟩
theorem dX8_bits_25 : Dc MX8_bits 25 26 (.ireturn) 1 := ⟨by decide +kernel, rfl⟩
theorem dX8_isOne_0 : Dc MX8_isOne 0 1 (.iload_n 0) 1 := ⟨by decide +kernel, rfl⟩
theorem dX8_isOne_1 : Dc MX8_isOne 1 2 (.iconst 0) 1 := ⟨by decide +kernel, rfl⟩
theorem dX8_isOne_2 : Dc MX8_isOne 2 3 (.iconst 5) 1 := ⟨by decide +kernel, rfl⟩
theorem dX8_isOne_3 : Dc MX8_isOne 3 6 (.invokestatic 60) 3 := ⟨by decide +kernel, rfl⟩
theorem dX8_isOne_6 : Dc MX8_isOne 6 7 (.ireturn) 1 := ⟨by decide +kernel, rfl⟩
theorem dX8_isRoom_0 : Dc MX8_isRoom 0 1 (.iload_n 0) 1 := ⟨by decide +kernel, rfl⟩
theorem dX8_isRoom_1 : Dc MX8_isRoom 1 2 (.iconst 0) 1 := ⟨by decide +kernel, rfl⟩
theorem dX8_isRoom_2 : Dc MX8_isRoom 2 3 (.iconst 2) 1 := ⟨by decide +kernel, rfl⟩
theorem dX8_isRoom_3 : Dc MX8_isRoom 3 6 (.invokestatic 60) 3 := ⟨by decide +kernel, rfl⟩
theorem dX8_isRoom_6 : Dc MX8_isRoom 6 7 (.ireturn) 1 := ⟨by decide +kernel, rfl⟩
theorem dX8_line_0 : Dc MX8_line 0 1 (.iload_n 1) 1 := ⟨by decide +kernel, rfl⟩
theorem dX8_line_1 : Dc MX8_line 1 2 (.iconst 1) 1 := ⟨by decide +kernel, rfl⟩
theorem dX8_line_2 : Dc MX8_line 2 4 (.bipush 30) 2 := ⟨by decide +kernel, rfl⟩
theorem dX8_line_4 : Dc MX8_line 4 7 (.invokestatic 60) 3 := ⟨by decide +kernel, rfl⟩
theorem dX8_line_7 : Dc MX8_line 7 10 (.ifCond .ne 6) 3 := ⟨by decide +kernel, rfl⟩
theorem dX8_line_10 : Dc MX8_line 10 12 (.bipush (-2)) 2 := ⟨by decide +kernel, rfl⟩
theorem dX8_line_12 : Dc MX8_line 12 13 (.ireturn) 1 := ⟨by decide +kernel, rfl⟩
theorem dX8_line_13 : Dc MX8_line 13 14 (.aload_n 0) 1 := ⟨by decide +kernel, rfl⟩
theorem dX8_line_14 : Dc MX8_line 14 17 (.getfield 7) 3 := ⟨by decide +kernel, rfl⟩
theorem dX8_line_17 : Dc MX8_line 17 18 (.istore_n 2) 1 := ⟨by decide +kernel, rfl⟩
theorem dX8_line_18 : Dc MX8_line 18 19 (.aload_n 0) 1 := ⟨by decide +kernel, rfl⟩
theorem dX8_line_19 : Dc MX8_line 19 20 (.iload_n 1) 1 := ⟨by decide +kernel, rfl⟩
theorem dX8_line_20 : Dc MX8_line 20 23 (.putfield 7) 3 := ⟨by decide +kernel, rfl⟩
theorem dX8_line_23 : Dc MX8_line 23 24 (.aload_n 0) 1 := ⟨by decide +kernel, rfl⟩
theorem dX8_line_24 : Dc MX8_line 24 25 (.iconst 0) 1 := ⟨by decide +kernel, rfl⟩
theorem dX8_line_25 : Dc MX8_line 25 28 (.putfield 64) 3 := ⟨by decide +kernel, rfl⟩
theorem dX8_line_28 : Dc MX8_line 28 29 (.iload_n 2) 1 := ⟨by decide +kernel, rfl⟩
theorem dX8_line_29 : Dc MX8_line 29 30 (.ireturn) 1 := ⟨by decide +kernel, rfl⟩
theorem dX8_tunnel_0 : Dc MX8_tunnel 0 1 (.iload_n 1) 1 := ⟨by decide +kernel, rfl⟩
theorem dX8_tunnel_1 : Dc MX8_tunnel 1 2 (.iconst 0) 1 := ⟨by decide +kernel, rfl⟩
theorem dX8_tunnel_2 : Dc MX8_tunnel 2 4 (.bipush 29) 2 := ⟨by decide +kernel, rfl⟩
theorem dX8_tunnel_4 : Dc MX8_tunnel 4 7 (.invokestatic 60) 3 := ⟨by decide +kernel, rfl⟩
theorem dX8_tunnel_7 : Dc MX8_tunnel 7 10 (.ifCond .ne 6) 3 := ⟨by decide +kernel, rfl⟩
theorem dX8_tunnel_10 : Dc MX8_tunnel 10 12 (.bipush (-2)) 2 := ⟨by decide +kernel, rfl⟩
theorem dX8_tunnel_12 : Dc MX8_tunnel 12 13 (.ireturn) 1 := ⟨by decide +kernel, rfl⟩
theorem dX8_tunnel_13 : Dc MX8_tunnel 13 14 (.aload_n 0) 1 := ⟨by decide +kernel, rfl⟩
theorem dX8_tunnel_14 : Dc MX8_tunnel 14 15 (.dup) 1 := ⟨by decide +kernel, rfl⟩
theorem dX8_tunnel_15 : Dc MX8_tunnel 15 18 (.getfield 67) 3 := ⟨by decide +kernel, rfl⟩
theorem dX8_tunnel_18 : Dc MX8_tunnel 18 19 (.iconst 1) 1 := ⟨by decide +kernel, rfl⟩
theorem dX8_tunnel_19 : Dc MX8_tunnel 19 20 (.iload_n 1) 1 := ⟨by decide +kernel, rfl⟩
theorem dX8_tunnel_20 : Dc MX8_tunnel 20 21 (.ishl) 1 := ⟨by decide +kernel, rfl⟩
theorem dX8_tunnel_21 : Dc MX8_tunnel 21 22 (.iconst (-1)) 1 := ⟨by decide +kernel, rfl⟩
theorem dX8_tunnel_22 : Dc MX8_tunnel 22 23 (.ixor) 1 := ⟨by decide +kernel, rfl⟩
theorem dX8_tunnel_23 : Dc MX8_tunnel 23 24 (.iand) 1 := ⟨by decide +kernel, rfl⟩
theorem dX8_tunnel_24 : Dc MX8_tunnel 24 27 (.putfield 67) 3 := ⟨by decide +kernel, rfl⟩
theorem dX8_tunnel_27 : Dc MX8_tunnel 27 28 (.aload_n 0) 1 := ⟨by decide +kernel, rfl⟩
theorem dX8_tunnel_28 : Dc MX8_tunnel 28 29 (.dup) 1 := ⟨by decide +kernel, rfl⟩
theorem dX8_tunnel_29 : Dc MX8_tunnel 29 32 (.getfield 67) 3 := ⟨by decide +kernel, rfl⟩
theorem dX8_tunnel_32 : Dc MX8_tunnel 32 33 (.iload_n 2) 1 := ⟨by decide +kernel, rfl⟩
theorem dX8_tunnel_33 : Dc MX8_tunnel 33 36 (.ifCond .eq 9) 3 := ⟨by decide +kernel, rfl⟩
theorem dX8_tunnel_36 : Dc MX8_tunnel 36 37 (.iconst 1) 1 := ⟨by decide +kernel, rfl⟩
theorem dX8_tunnel_37 : Dc MX8_tunnel 37 38 (.iload_n 1) 1 := ⟨by decide +kernel, rfl⟩
theorem dX8_tunnel_38 : Dc MX8_tunnel 38 39 (.ishl) 1 := ⟨by decide +kernel, rfl⟩
theorem dX8_tunnel_39 : Dc MX8_tunnel 39 42 (.goto 4) 3 := ⟨by decide +kernel, rfl⟩
theorem dX8_tunnel_42 : Dc MX8_tunnel 42 43 (.iconst 0) 1 := ⟨by decide +kernel, rfl⟩
theorem dX8_tunnel_43 : Dc MX8_tunnel 43 44 (.ior) 1 := ⟨by decide +kernel, rfl⟩
theorem dX8_tunnel_44 : Dc MX8_tunnel 44 47 (.putfield 67) 3 := ⟨by decide +kernel, rfl⟩
theorem dX8_tunnel_47 : Dc MX8_tunnel 47 48 (.aload_n 0) 1 := ⟨by decide +kernel, rfl⟩
theorem dX8_tunnel_48 : Dc MX8_tunnel 48 51 (.getfield 67) 3 := ⟨by decide +kernel, rfl⟩
theorem dX8_tunnel_51 : Dc MX8_tunnel 51 52 (.iconst 1) 1 := ⟨by decide +kernel, rfl⟩
theorem dX8_tunnel_52 : Dc MX8_tunnel 52 53 (.aload_n 0) 1 := ⟨by decide +kernel, rfl⟩
theorem dX8_tunnel_53 : Dc MX8_tunnel 53 56 (.getfield 7) 3 := ⟨by decide +kernel, rfl⟩
theorem dX8_tunnel_56 : Dc MX8_tunnel 56 57 (.ishl) 1 := ⟨by decide +kernel, rfl⟩
theorem dX8_tunnel_57 : Dc MX8_tunnel 57 58 (.iconst 1) 1 := ⟨by decide +kernel, rfl⟩
theorem dX8_tunnel_58 : Dc MX8_tunnel 58 59 (.isub) 1 := ⟨by decide +kernel, rfl⟩
theorem dX8_tunnel_59 : Dc MX8_tunnel 59 60 (.iand) 1 := ⟨by decide +kernel, rfl⟩
theorem dX8_tunnel_60 : Dc MX8_tunnel 60 63 (.invokestatic 70) 3 := ⟨by decide +kernel, rfl⟩
theorem dX8_tunnel_63 : Dc MX8_tunnel 63 64 (.ireturn) 1 := ⟨by decide +kernel, rfl⟩
theorem dX8_rides_0 : Dc MX8_rides 0 1 (.aload_n 0) 1 := ⟨by decide +kernel, rfl⟩
theorem dX8_rides_1 : Dc MX8_rides 1 4 (.getfield 13) 3 := ⟨by decide +kernel, rfl⟩
theorem dX8_rides_4 : Dc MX8_rides 4 5 (.iload_n 1) 1 := ⟨by decide +kernel, rfl⟩
theorem dX8_rides_5 : Dc MX8_rides 5 6 (.iaload) 1 := ⟨by decide +kernel, rfl⟩
theorem dX8_rides_6 : Dc MX8_rides 6 9 (.ifCond .lt 34) 3 := ⟨by decide +kernel, rfl⟩
theorem dX8_rides_9 : Dc MX8_rides 9 10 (.iload_n 2) 1 := ⟨by decide +kernel, rfl⟩
theorem dX8_rides_10 : Dc MX8_rides 10 11 (.aload_n 0) 1 := ⟨by decide +kernel, rfl⟩
theorem dX8_rides_11 : Dc MX8_rides 11 14 (.getfield 7) 3 := ⟨by decide +kernel, rfl⟩
theorem dX8_rides_14 : Dc MX8_rides 14 17 (.if_icmp .ge 26) 3 := ⟨by decide +kernel, rfl⟩
theorem dX8_rides_17 : Dc MX8_rides 17 18 (.iload_n 2) 1 := ⟨by decide +kernel, rfl⟩
theorem dX8_rides_18 : Dc MX8_rides 18 19 (.aload_n 0) 1 := ⟨by decide +kernel, rfl⟩
theorem dX8_rides_19 : Dc MX8_rides 19 22 (.getfield 13) 3 := ⟨by decide +kernel, rfl⟩
theorem dX8_rides_22 : Dc MX8_rides 22 23 (.iload_n 1) 1 := ⟨by decide +kernel, rfl⟩
theorem dX8_rides_23 : Dc MX8_rides 23 24 (.iaload) 1 := ⟨by decide +kernel, rfl⟩
theorem dX8_rides_24 : Dc MX8_rides 24 25 (.aload_n 0) 1 := ⟨by decide +kernel, rfl⟩
theorem dX8_rides_25 : Dc MX8_rides 25 28 (.getfield 17) 3 := ⟨by decide +kernel, rfl⟩
theorem dX8_rides_28 : Dc MX8_rides 28 29 (.iload_n 1) 1 := ⟨by decide +kernel, rfl⟩
theorem dX8_rides_29 : Dc MX8_rides 29 30 (.iaload) 1 := ⟨by decide +kernel, rfl⟩
theorem dX8_rides_30 : Dc MX8_rides 30 33 (.invokestatic 60) 3 := ⟨by decide +kernel, rfl⟩
theorem dX8_rides_33 : Dc MX8_rides 33 36 (.ifCond .eq 7) 3 := ⟨by decide +kernel, rfl⟩
theorem dX8_rides_36 : Dc MX8_rides 36 37 (.iconst 1) 1 := ⟨by decide +kernel, rfl⟩
theorem dX8_rides_37 : Dc MX8_rides 37 40 (.goto 4) 3 := ⟨by decide +kernel, rfl⟩
theorem dX8_rides_40 : Dc MX8_rides 40 41 (.iconst 0) 1 := ⟨by decide +kernel, rfl⟩
theorem dX8_rides_41 : Dc MX8_rides 41 42 (.ireturn) 1 := ⟨by decide +kernel, rfl⟩
theorem dX8_ride_0 : Dc MX8_ride 0 1 (.iload_n 1) 1 := ⟨by decide +kernel, rfl⟩
theorem dX8_ride_1 : Dc MX8_ride 1 4 (.invokestatic 74) 3 := ⟨by decide +kernel, rfl⟩
theorem dX8_ride_4 : Dc MX8_ride 4 7 (.ifCond .ne 5) 3 := ⟨by decide +kernel, rfl⟩
theorem dX8_ride_7 : Dc MX8_ride 7 8 (.iconst (-1)) 1 := ⟨by decide +kernel, rfl⟩
theorem dX8_ride_8 : Dc MX8_ride 8 9 (.ireturn) 1 := ⟨by decide +kernel, rfl⟩
theorem dX8_ride_9 : Dc MX8_ride 9 10 (.iload_n 2) 1 := ⟨by decide +kernel, rfl⟩
theorem dX8_ride_10 : Dc MX8_ride 10 11 (.iconst (-1)) 1 := ⟨by decide +kernel, rfl⟩
theorem dX8_ride_11 : Dc MX8_ride 11 14 (.if_icmp .eq 23) 3 := ⟨by decide +kernel, rfl⟩
theorem dX8_ride_14 : Dc MX8_ride 14 15 (.iload_n 2) 1 := ⟨by decide +kernel, rfl⟩
theorem dX8_ride_15 : Dc MX8_ride 15 16 (.iconst 0) 1 := ⟨by decide +kernel, rfl⟩
theorem dX8_ride_16 : Dc MX8_ride 16 18 (.bipush 29) 2 := ⟨by decide +kernel, rfl⟩
theorem dX8_ride_18 : Dc MX8_ride 18 21 (.invokestatic 60) 3 := ⟨by decide +kernel, rfl⟩
theorem dX8_ride_21 : Dc MX8_ride 21 24 (.ifCond .eq 17) 3 := ⟨by decide +kernel, rfl⟩
theorem dX8_ride_24 : Dc MX8_ride 24 25 (.iload_n 3) 1 := ⟨by decide +kernel, rfl⟩
theorem dX8_ride_25 : Dc MX8_ride 25 26 (.iload_n 2) 1 := ⟨by decide +kernel, rfl⟩
theorem dX8_ride_26 : Dc MX8_ride 26 28 (.bipush 29) 2 := ⟨by decide +kernel, rfl⟩
theorem dX8_ride_28 : Dc MX8_ride 28 31 (.invokestatic 60) 3 := ⟨by decide +kernel, rfl⟩
theorem dX8_ride_31 : Dc MX8_ride 31 34 (.ifCond .eq 7) 3 := ⟨by decide +kernel, rfl⟩
theorem dX8_ride_34 : Dc MX8_ride 34 35 (.iconst 1) 1 := ⟨by decide +kernel, rfl⟩
theorem dX8_ride_35 : Dc MX8_ride 35 38 (.goto 4) 3 := ⟨by decide +kernel, rfl⟩
theorem dX8_ride_38 : Dc MX8_ride 38 39 (.iconst 0) 1 := ⟨by decide +kernel, rfl⟩
theorem dX8_ride_39 : Dc MX8_ride 39 41 (.istore 4) 2 := ⟨by decide +kernel, rfl⟩
theorem dX8_ride_41 : Dc MX8_ride 41 43 (.iload 4) 2 := ⟨by decide +kernel, rfl⟩
theorem dX8_ride_43 : Dc MX8_ride 43 46 (.ifCond .ne 6) 3 := ⟨by decide +kernel, rfl⟩
theorem dX8_ride_46 : Dc MX8_ride 46 48 (.bipush (-2)) 2 := ⟨by decide +kernel, rfl⟩
theorem dX8_ride_48 : Dc MX8_ride 48 49 (.ireturn) 1 := ⟨by decide +kernel, rfl⟩
theorem dX8_ride_49 : Dc MX8_ride 49 50 (.aload_n 0) 1 := ⟨by decide +kernel, rfl⟩
theorem dX8_ride_50 : Dc MX8_ride 50 53 (.getfield 13) 3 := ⟨by decide +kernel, rfl⟩
theorem dX8_ride_53 : Dc MX8_ride 53 54 (.iload_n 1) 1 := ⟨by decide +kernel, rfl⟩
theorem dX8_ride_54 : Dc MX8_ride 54 55 (.iload_n 2) 1 := ⟨by decide +kernel, rfl⟩
theorem dX8_ride_55 : Dc MX8_ride 55 58 (.ifCond .ge 8) 3 := ⟨by decide +kernel, rfl⟩
theorem dX8_ride_58 : Dc MX8_ride 58 60 (.bipush (-6)) 2 := ⟨by decide +kernel, rfl⟩
theorem dX8_ride_60 : Dc MX8_ride 60 63 (.goto 4) 3 := ⟨by decide +kernel, rfl⟩
theorem dX8_ride_63 : Dc MX8_ride 63 64 (.iload_n 2) 1 := ⟨by decide +kernel, rfl⟩
theorem dX8_ride_64 : Dc MX8_ride 64 65 (.iastore) 1 := ⟨by decide +kernel, rfl⟩
theorem dX8_ride_65 : Dc MX8_ride 65 66 (.aload_n 0) 1 := ⟨by decide +kernel, rfl⟩
theorem dX8_ride_66 : Dc MX8_ride 66 69 (.getfield 17) 3 := ⟨by decide +kernel, rfl⟩
theorem dX8_ride_69 : Dc MX8_ride 69 70 (.iload_n 1) 1 := ⟨by decide +kernel, rfl⟩
theorem dX8_ride_70 : Dc MX8_ride 70 71 (.iload_n 2) 1 := ⟨by decide +kernel, rfl⟩
theorem dX8_ride_71 : Dc MX8_ride 71 74 (.ifCond .ge 8) 3 := ⟨by decide +kernel, rfl⟩
theorem dX8_ride_74 : Dc MX8_ride 74 76 (.bipush (-6)) 2 := ⟨by decide +kernel, rfl⟩
theorem dX8_ride_76 : Dc MX8_ride 76 79 (.goto 4) 3 := ⟨by decide +kernel, rfl⟩
theorem dX8_ride_79 : Dc MX8_ride 79 80 (.iload_n 3) 1 := ⟨by decide +kernel, rfl⟩
theorem dX8_ride_80 : Dc MX8_ride 80 81 (.iastore) 1 := ⟨by decide +kernel, rfl⟩
theorem dX8_ride_81 : Dc MX8_ride 81 82 (.iconst 0) 1 := ⟨by decide +kernel, rfl⟩
theorem dX8_ride_82 : Dc MX8_ride 82 84 (.istore 5) 2 := ⟨by decide +kernel, rfl⟩
theorem dX8_ride_84 : Dc MX8_ride 84 85 (.iconst 0) 1 := ⟨by decide +kernel, rfl⟩
theorem dX8_ride_85 : Dc MX8_ride 85 87 (.istore 6) 2 := ⟨by decide +kernel, rfl⟩
theorem dX8_ride_87 : Dc MX8_ride 87 89 (.iload 6) 2 := ⟨by decide +kernel, rfl⟩
theorem dX8_ride_89 : Dc MX8_ride 89 90 (.aload_n 0) 1 := ⟨by decide +kernel, rfl⟩
theorem dX8_ride_90 : Dc MX8_ride 90 93 (.getfield 7) 3 := ⟨by decide +kernel, rfl⟩
theorem dX8_ride_93 : Dc MX8_ride 93 96 (.if_icmp .ge 29) 3 := ⟨by decide +kernel, rfl⟩
theorem dX8_ride_96 : Dc MX8_ride 96 98 (.iload 5) 2 := ⟨by decide +kernel, rfl⟩
theorem dX8_ride_98 : Dc MX8_ride 98 99 (.aload_n 0) 1 := ⟨by decide +kernel, rfl⟩
theorem dX8_ride_99 : Dc MX8_ride 99 100 (.iload_n 1) 1 := ⟨by decide +kernel, rfl⟩
theorem dX8_ride_100 : Dc MX8_ride 100 102 (.iload 6) 2 := ⟨by decide +kernel, rfl⟩
theorem dX8_ride_102 : Dc MX8_ride 102 105 (.invokevirtual 78) 3 := ⟨by decide +kernel, rfl⟩
theorem dX8_ride_105 : Dc MX8_ride 105 108 (.ifCond .eq 7) 3 := ⟨by decide +kernel, rfl⟩
theorem dX8_ride_108 : Dc MX8_ride 108 109 (.iconst 1) 1 := ⟨by decide +kernel, rfl⟩
theorem dX8_ride_109 : Dc MX8_ride 109 112 (.goto 4) 3 := ⟨by decide +kernel, rfl⟩
theorem dX8_ride_112 : Dc MX8_ride 112 113 (.iconst 0) 1 := ⟨by decide +kernel, rfl⟩
theorem dX8_ride_113 : Dc MX8_ride 113 114 (.iadd) 1 := ⟨by decide +kernel, rfl⟩
theorem dX8_ride_114 : Dc MX8_ride 114 116 (.istore 5) 2 := ⟨by decide +kernel, rfl⟩
theorem dX8_ride_116 : Dc MX8_ride 116 119 (.iinc 6 1) 3 := ⟨by decide +kernel, rfl⟩
theorem dX8_ride_119 : Dc MX8_ride 119 122 (.goto (-32)) 3 := ⟨by decide +kernel, rfl⟩
theorem dX8_ride_122 : Dc MX8_ride 122 124 (.iload 5) 2 := ⟨by decide +kernel, rfl⟩
theorem dX8_ride_124 : Dc MX8_ride 124 125 (.ireturn) 1 := ⟨by decide +kernel, rfl⟩
theorem dX8_seat_0 : Dc MX8_seat 0 1 (.iload_n 1) 1 := ⟨by decide +kernel, rfl⟩
theorem dX8_seat_1 : Dc MX8_seat 1 4 (.invokestatic 74) 3 := ⟨by decide +kernel, rfl⟩
theorem dX8_seat_4 : Dc MX8_seat 4 7 (.ifCond .eq 10) 3 := ⟨by decide +kernel, rfl⟩
theorem dX8_seat_7 : Dc MX8_seat 7 8 (.iload_n 2) 1 := ⟨by decide +kernel, rfl⟩
theorem dX8_seat_8 : Dc MX8_seat 8 11 (.invokestatic 82) 3 := ⟨by decide +kernel, rfl⟩
theorem dX8_seat_11 : Dc MX8_seat 11 14 (.ifCond .ne 5) 3 := ⟨by decide +kernel, rfl⟩
theorem dX8_seat_14 : Dc MX8_seat 14 15 (.iconst (-1)) 1 := ⟨by decide +kernel, rfl⟩
theorem dX8_seat_15 : Dc MX8_seat 15 16 (.ireturn) 1 := ⟨by decide +kernel, rfl⟩
theorem dX8_seat_16 : Dc MX8_seat 16 17 (.aload_n 0) 1 := ⟨by decide +kernel, rfl⟩
theorem dX8_seat_17 : Dc MX8_seat 17 20 (.getfield 20) 3 := ⟨by decide +kernel, rfl⟩
theorem dX8_seat_20 : Dc MX8_seat 20 21 (.iload_n 1) 1 := ⟨by decide +kernel, rfl⟩
theorem dX8_seat_21 : Dc MX8_seat 21 22 (.iaload) 1 := ⟨by decide +kernel, rfl⟩
theorem dX8_seat_22 : Dc MX8_seat 22 23 (.istore_n 3) 1 := ⟨by decide +kernel, rfl⟩
theorem dX8_seat_23 : Dc MX8_seat 23 24 (.aload_n 0) 1 := ⟨by decide +kernel, rfl⟩
theorem dX8_seat_24 : Dc MX8_seat 24 27 (.getfield 20) 3 := ⟨by decide +kernel, rfl⟩
theorem dX8_seat_27 : Dc MX8_seat 27 28 (.iload_n 1) 1 := ⟨by decide +kernel, rfl⟩
theorem dX8_seat_28 : Dc MX8_seat 28 29 (.iload_n 2) 1 := ⟨by decide +kernel, rfl⟩
theorem dX8_seat_29 : Dc MX8_seat 29 30 (.iastore) 1 := ⟨by decide +kernel, rfl⟩
theorem dX8_seat_30 : Dc MX8_seat 30 31 (.iload_n 3) 1 := ⟨by decide +kernel, rfl⟩
theorem dX8_seat_31 : Dc MX8_seat 31 32 (.ireturn) 1 := ⟨by decide +kernel, rfl⟩
theorem dX8_purse_0 : Dc MX8_purse 0 1 (.iload_n 1) 1 := ⟨by decide +kernel, rfl⟩
theorem dX8_purse_1 : Dc MX8_purse 1 4 (.invokestatic 74) 3 := ⟨by decide +kernel, rfl⟩
theorem dX8_purse_4 : Dc MX8_purse 4 7 (.ifCond .ne 5) 3 := ⟨by decide +kernel, rfl⟩
theorem dX8_purse_7 : Dc MX8_purse 7 8 (.iconst (-1)) 1 := ⟨by decide +kernel, rfl⟩
theorem dX8_purse_8 : Dc MX8_purse 8 9 (.ireturn) 1 := ⟨by decide +kernel, rfl⟩
theorem dX8_purse_9 : Dc MX8_purse 9 10 (.iload_n 2) 1 := ⟨by decide +kernel, rfl⟩
theorem dX8_purse_10 : Dc MX8_purse 10 11 (.iconst 0) 1 := ⟨by decide +kernel, rfl⟩
theorem dX8_purse_11 : Dc MX8_purse 11 14 (.sipush 999) 3 := ⟨by decide +kernel, rfl⟩
theorem dX8_purse_14 : Dc MX8_purse 14 17 (.invokestatic 60) 3 := ⟨by decide +kernel, rfl⟩
theorem dX8_purse_17 : Dc MX8_purse 17 20 (.ifCond .ne 6) 3 := ⟨by decide +kernel, rfl⟩
theorem dX8_purse_20 : Dc MX8_purse 20 22 (.bipush (-2)) 2 := ⟨by decide +kernel, rfl⟩
theorem dX8_purse_22 : Dc MX8_purse 22 23 (.ireturn) 1 := ⟨by decide +kernel, rfl⟩
theorem dX8_purse_23 : Dc MX8_purse 23 24 (.aload_n 0) 1 := ⟨by decide +kernel, rfl⟩
theorem dX8_purse_24 : Dc MX8_purse 24 27 (.getfield 23) 3 := ⟨by decide +kernel, rfl⟩
theorem dX8_purse_27 : Dc MX8_purse 27 28 (.iload_n 1) 1 := ⟨by decide +kernel, rfl⟩
theorem dX8_purse_28 : Dc MX8_purse 28 29 (.iaload) 1 := ⟨by decide +kernel, rfl⟩
theorem dX8_purse_29 : Dc MX8_purse 29 30 (.istore_n 3) 1 := ⟨by decide +kernel, rfl⟩
theorem dX8_purse_30 : Dc MX8_purse 30 31 (.aload_n 0) 1 := ⟨by decide +kernel, rfl⟩
theorem dX8_purse_31 : Dc MX8_purse 31 34 (.getfield 23) 3 := ⟨by decide +kernel, rfl⟩
theorem dX8_purse_34 : Dc MX8_purse 34 35 (.iload_n 1) 1 := ⟨by decide +kernel, rfl⟩
theorem dX8_purse_35 : Dc MX8_purse 35 36 (.iload_n 2) 1 := ⟨by decide +kernel, rfl⟩
theorem dX8_purse_36 : Dc MX8_purse 36 37 (.iastore) 1 := ⟨by decide +kernel, rfl⟩
theorem dX8_purse_37 : Dc MX8_purse 37 38 (.iload_n 3) 1 := ⟨by decide +kernel, rfl⟩
theorem dX8_purse_38 : Dc MX8_purse 38 39 (.ireturn) 1 := ⟨by decide +kernel, rfl⟩
theorem dX8_fine_0 : Dc MX8_fine 0 1 (.iload_n 1) 1 := ⟨by decide +kernel, rfl⟩
theorem dX8_fine_1 : Dc MX8_fine 1 2 (.iconst 0) 1 := ⟨by decide +kernel, rfl⟩
theorem dX8_fine_2 : Dc MX8_fine 2 4 (.bipush 99) 2 := ⟨by decide +kernel, rfl⟩
theorem dX8_fine_4 : Dc MX8_fine 4 7 (.invokestatic 60) 3 := ⟨by decide +kernel, rfl⟩
theorem dX8_fine_7 : Dc MX8_fine 7 10 (.ifCond .ne 6) 3 := ⟨by decide +kernel, rfl⟩
theorem dX8_fine_10 : Dc MX8_fine 10 12 (.bipush (-2)) 2 := ⟨by decide +kernel, rfl⟩
theorem dX8_fine_12 : Dc MX8_fine 12 13 (.ireturn) 1 := ⟨by decide +kernel, rfl⟩
theorem dX8_fine_13 : Dc MX8_fine 13 14 (.aload_n 0) 1 := ⟨by decide +kernel, rfl⟩
theorem dX8_fine_14 : Dc MX8_fine 14 17 (.getfield 29) 3 := ⟨by decide +kernel, rfl⟩
theorem dX8_fine_17 : Dc MX8_fine 17 18 (.istore_n 2) 1 := ⟨by decide +kernel, rfl⟩
theorem dX8_fine_18 : Dc MX8_fine 18 19 (.aload_n 0) 1 := ⟨by decide +kernel, rfl⟩
theorem dX8_fine_19 : Dc MX8_fine 19 20 (.iload_n 1) 1 := ⟨by decide +kernel, rfl⟩
theorem dX8_fine_20 : Dc MX8_fine 20 23 (.putfield 29) 3 := ⟨by decide +kernel, rfl⟩
theorem dX8_fine_23 : Dc MX8_fine 23 24 (.iload_n 2) 1 := ⟨by decide +kernel, rfl⟩
theorem dX8_fine_24 : Dc MX8_fine 24 25 (.ireturn) 1 := ⟨by decide +kernel, rfl⟩
theorem dX8_say_0 : Dc MX8_say 0 1 (.iload_n 1) 1 := ⟨by decide +kernel, rfl⟩
theorem dX8_say_1 : Dc MX8_say 1 3 (.bipush 33) 2 := ⟨by decide +kernel, rfl⟩
theorem dX8_say_3 : Dc MX8_say 3 5 (.bipush 126) 2 := ⟨by decide +kernel, rfl⟩
theorem dX8_say_5 : Dc MX8_say 5 8 (.invokestatic 60) 3 := ⟨by decide +kernel, rfl⟩
theorem dX8_say_8 : Dc MX8_say 8 11 (.ifCond .ne 6) 3 := ⟨by decide +kernel, rfl⟩
theorem dX8_say_11 : Dc MX8_say 11 13 (.bipush (-2)) 2 := ⟨by decide +kernel, rfl⟩
theorem dX8_say_13 : Dc MX8_say 13 14 (.ireturn) 1 := ⟨by decide +kernel, rfl⟩
theorem dX8_say_14 : Dc MX8_say 14 15 (.aload_n 0) 1 := ⟨by decide +kernel, rfl⟩
theorem dX8_say_15 : Dc MX8_say 15 18 (.getfield 85) 3 := ⟨by decide +kernel, rfl⟩
theorem dX8_say_18 : Dc MX8_say 18 20 (.bipush 60) 2 := ⟨by decide +kernel, rfl⟩
theorem dX8_say_20 : Dc MX8_say 20 23 (.if_icmp .ne 6) 3 := ⟨by decide +kernel, rfl⟩
theorem dX8_say_23 : Dc MX8_say 23 25 (.bipush (-4)) 2 := ⟨by decide +kernel, rfl⟩
theorem dX8_say_25 : Dc MX8_say 25 26 (.ireturn) 1 := ⟨by decide +kernel, rfl⟩
theorem dX8_say_26 : Dc MX8_say 26 27 (.aload_n 0) 1 := ⟨by decide +kernel, rfl⟩
theorem dX8_say_27 : Dc MX8_say 27 30 (.getfield 35) 3 := ⟨by decide +kernel, rfl⟩
theorem dX8_say_30 : Dc MX8_say 30 31 (.aload_n 0) 1 := ⟨by decide +kernel, rfl⟩
theorem dX8_say_31 : Dc MX8_say 31 34 (.getfield 85) 3 := ⟨by decide +kernel, rfl⟩
theorem dX8_say_34 : Dc MX8_say 34 35 (.iload_n 1) 1 := ⟨by decide +kernel, rfl⟩
theorem dX8_say_35 : Dc MX8_say 35 36 (.iastore) 1 := ⟨by decide +kernel, rfl⟩
theorem dX8_say_36 : Dc MX8_say 36 37 (.aload_n 0) 1 := ⟨by decide +kernel, rfl⟩
theorem dX8_say_37 : Dc MX8_say 37 38 (.dup) 1 := ⟨by decide +kernel, rfl⟩
theorem dX8_say_38 : Dc MX8_say 38 41 (.getfield 85) 3 := ⟨by decide +kernel, rfl⟩
theorem dX8_say_41 : Dc MX8_say 41 42 (.iconst 1) 1 := ⟨by decide +kernel, rfl⟩
theorem dX8_say_42 : Dc MX8_say 42 43 (.iadd) 1 := ⟨by decide +kernel, rfl⟩
theorem dX8_say_43 : Dc MX8_say 43 46 (.putfield 85) 3 := ⟨by decide +kernel, rfl⟩
theorem dX8_say_46 : Dc MX8_say 46 47 (.aload_n 0) 1 := ⟨by decide +kernel, rfl⟩
theorem dX8_say_47 : Dc MX8_say 47 50 (.getfield 85) 3 := ⟨by decide +kernel, rfl⟩
theorem dX8_say_50 : Dc MX8_say 50 51 (.ireturn) 1 := ⟨by decide +kernel, rfl⟩
theorem dX8_wipe_0 : Dc MX8_wipe 0 1 (.aload_n 0) 1 := ⟨by decide +kernel, rfl⟩
theorem dX8_wipe_1 : Dc MX8_wipe 1 4 (.getfield 85) 3 := ⟨by decide +kernel, rfl⟩
theorem dX8_wipe_4 : Dc MX8_wipe 4 5 (.istore_n 1) 1 := ⟨by decide +kernel, rfl⟩
theorem dX8_wipe_5 : Dc MX8_wipe 5 6 (.aload_n 0) 1 := ⟨by decide +kernel, rfl⟩
theorem dX8_wipe_6 : Dc MX8_wipe 6 7 (.iconst 0) 1 := ⟨by decide +kernel, rfl⟩
theorem dX8_wipe_7 : Dc MX8_wipe 7 10 (.putfield 85) 3 := ⟨by decide +kernel, rfl⟩
theorem dX8_wipe_10 : Dc MX8_wipe 10 11 (.iload_n 1) 1 := ⟨by decide +kernel, rfl⟩
theorem dX8_wipe_11 : Dc MX8_wipe 11 12 (.ireturn) 1 := ⟨by decide +kernel, rfl⟩
theorem dX8_isLetter_0 : Dc MX8_isLetter 0 1 (.iload_n 0) 1 := ⟨by decide +kernel, rfl⟩
theorem dX8_isLetter_1 : Dc MX8_isLetter 1 3 (.bipush 65) 2 := ⟨by decide +kernel, rfl⟩
theorem dX8_isLetter_3 : Dc MX8_isLetter 3 5 (.bipush 70) 2 := ⟨by decide +kernel, rfl⟩
theorem dX8_isLetter_5 : Dc MX8_isLetter 5 8 (.invokestatic 60) 3 := ⟨by decide +kernel, rfl⟩
theorem dX8_isLetter_8 : Dc MX8_isLetter 8 9 (.ireturn) 1 := ⟨by decide +kernel, rfl⟩
theorem dX8_isDigit_0 : Dc MX8_isDigit 0 1 (.iload_n 0) 1 := ⟨by decide +kernel, rfl⟩
theorem dX8_isDigit_1 : Dc MX8_isDigit 1 3 (.bipush 48) 2 := ⟨by decide +kernel, rfl⟩
theorem dX8_isDigit_3 : Dc MX8_isDigit 3 5 (.bipush 57) 2 := ⟨by decide +kernel, rfl⟩
theorem dX8_isDigit_5 : Dc MX8_isDigit 5 8 (.invokestatic 60) 3 := ⟨by decide +kernel, rfl⟩
theorem dX8_isDigit_8 : Dc MX8_isDigit 8 9 (.ireturn) 1 := ⟨by decide +kernel, rfl⟩
theorem dX8_faultOf_0 : Dc MX8_faultOf 0 1 (.iconst 0) 1 := ⟨by decide +kernel, rfl⟩
theorem dX8_faultOf_1 : Dc MX8_faultOf 1 2 (.istore_n 1) 1 := ⟨by decide +kernel, rfl⟩
theorem dX8_faultOf_2 : Dc MX8_faultOf 2 3 (.iconst 0) 1 := ⟨by decide +kernel, rfl⟩
theorem dX8_faultOf_3 : Dc MX8_faultOf 3 4 (.istore_n 2) 1 := ⟨by decide +kernel, rfl⟩
theorem dX8_faultOf_4 : Dc MX8_faultOf 4 5 (.iload_n 2) 1 := ⟨by decide +kernel, rfl⟩
theorem dX8_faultOf_5 : Dc MX8_faultOf 5 6 (.aload_n 0) 1 := ⟨by decide +kernel, rfl⟩
theorem dX8_faultOf_6 : Dc MX8_faultOf 6 9 (.getfield 85) 3 := ⟨by decide +kernel, rfl⟩
theorem dX8_faultOf_9 : Dc MX8_faultOf 9 12 (.if_icmp .ge 137) 3 := ⟨by decide +kernel, rfl⟩
theorem dX8_faultOf_12 : Dc MX8_faultOf 12 13 (.aload_n 0) 1 := ⟨by decide +kernel, rfl⟩
theorem dX8_faultOf_13 : Dc MX8_faultOf 13 16 (.getfield 35) 3 := ⟨by decide +kernel, rfl⟩
theorem dX8_faultOf_16 : Dc MX8_faultOf 16 17 (.iload_n 2) 1 := ⟨by decide +kernel, rfl⟩
theorem dX8_faultOf_17 : Dc MX8_faultOf 17 18 (.iaload) 1 := ⟨by decide +kernel, rfl⟩
theorem dX8_faultOf_18 : Dc MX8_faultOf 18 19 (.istore_n 3) 1 := ⟨by decide +kernel, rfl⟩
theorem dX8_faultOf_19 : Dc MX8_faultOf 19 20 (.iload_n 3) 1 := ⟨by decide +kernel, rfl⟩
theorem dX8_faultOf_20 : Dc MX8_faultOf 20 22 (.bipush 99) 2 := ⟨by decide +kernel, rfl⟩
theorem dX8_faultOf_22 : Dc MX8_faultOf 22 25 (.if_icmp .eq 15) 3 := ⟨by decide +kernel, rfl⟩
theorem dX8_faultOf_25 : Dc MX8_faultOf 25 26 (.iload_n 3) 1 := ⟨by decide +kernel, rfl⟩
theorem dX8_faultOf_26 : Dc MX8_faultOf 26 28 (.bipush 115) 2 := ⟨by decide +kernel, rfl⟩
theorem dX8_faultOf_28 : Dc MX8_faultOf 28 31 (.if_icmp .eq 9) 3 := ⟨by decide +kernel, rfl⟩
theorem dX8_faultOf_31 : Dc MX8_faultOf 31 32 (.iload_n 3) 1 := ⟨by decide +kernel, rfl⟩
theorem dX8_faultOf_32 : Dc MX8_faultOf 32 34 (.bipush 104) 2 := ⟨by decide +kernel, rfl⟩
theorem dX8_faultOf_34 : Dc MX8_faultOf 34 37 (.if_icmp .ne 7) 3 := ⟨by decide +kernel, rfl⟩
theorem dX8_faultOf_37 : Dc MX8_faultOf 37 38 (.iconst 1) 1 := ⟨by decide +kernel, rfl⟩
theorem dX8_faultOf_38 : Dc MX8_faultOf 38 41 (.goto 4) 3 := ⟨by decide +kernel, rfl⟩
theorem dX8_faultOf_41 : Dc MX8_faultOf 41 42 (.iconst 0) 1 := ⟨by decide +kernel, rfl⟩
theorem dX8_faultOf_42 : Dc MX8_faultOf 42 44 (.istore 4) 2 := ⟨by decide +kernel, rfl⟩
theorem dX8_faultOf_44 : Dc MX8_faultOf 44 45 (.iload_n 1) 1 := ⟨by decide +kernel, rfl⟩
theorem dX8_faultOf_45 : Dc MX8_faultOf 45 48 (.ifCond .ne 24) 3 := ⟨by decide +kernel, rfl⟩
theorem dX8_faultOf_48 : Dc MX8_faultOf 48 49 (.iload_n 3) 1 := ⟨by decide +kernel, rfl⟩
theorem dX8_faultOf_49 : Dc MX8_faultOf 49 52 (.invokestatic 88) 3 := ⟨by decide +kernel, rfl⟩
theorem dX8_faultOf_52 : Dc MX8_faultOf 52 55 (.ifCond .ne 9) 3 := ⟨by decide +kernel, rfl⟩
theorem dX8_faultOf_55 : Dc MX8_faultOf 55 56 (.iload_n 3) 1 := ⟨by decide +kernel, rfl⟩
theorem dX8_faultOf_56 : Dc MX8_faultOf 56 58 (.bipush 46) 2 := ⟨by decide +kernel, rfl⟩
theorem dX8_faultOf_58 : Dc MX8_faultOf 58 61 (.if_icmp .ne 7) 3 := ⟨by decide +kernel, rfl⟩
theorem dX8_faultOf_61 : Dc MX8_faultOf 61 62 (.iconst 1) 1 := ⟨by decide +kernel, rfl⟩
theorem dX8_faultOf_62 : Dc MX8_faultOf 62 65 (.goto 36) 3 := ⟨by decide +kernel, rfl⟩
theorem dX8_faultOf_65 : Dc MX8_faultOf 65 66 (.iconst 0) 1 := ⟨by decide +kernel, rfl⟩
theorem dX8_faultOf_66 : Dc MX8_faultOf 66 69 (.goto 32) 3 := ⟨by decide +kernel, rfl⟩
theorem dX8_faultOf_69 : Dc MX8_faultOf 69 70 (.iload_n 1) 1 := ⟨by decide +kernel, rfl⟩
theorem dX8_faultOf_70 : Dc MX8_faultOf 70 71 (.iconst 1) 1 := ⟨by decide +kernel, rfl⟩
theorem dX8_faultOf_71 : Dc MX8_faultOf 71 74 (.if_icmp .ne 23) 3 := ⟨by decide +kernel, rfl⟩
theorem dX8_faultOf_74 : Dc MX8_faultOf 74 76 (.iload 4) 2 := ⟨by decide +kernel, rfl⟩
theorem dX8_faultOf_76 : Dc MX8_faultOf 76 79 (.ifCond .ne 10) 3 := ⟨by decide +kernel, rfl⟩
theorem dX8_faultOf_79 : Dc MX8_faultOf 79 80 (.iload_n 3) 1 := ⟨by decide +kernel, rfl⟩
theorem dX8_faultOf_80 : Dc MX8_faultOf 80 83 (.invokestatic 91) 3 := ⟨by decide +kernel, rfl⟩
theorem dX8_faultOf_83 : Dc MX8_faultOf 83 86 (.ifCond .eq 7) 3 := ⟨by decide +kernel, rfl⟩
theorem dX8_faultOf_86 : Dc MX8_faultOf 86 87 (.iconst 1) 1 := ⟨by decide +kernel, rfl⟩
theorem dX8_faultOf_87 : Dc MX8_faultOf 87 90 (.goto 11) 3 := ⟨by decide +kernel, rfl⟩
theorem dX8_faultOf_90 : Dc MX8_faultOf 90 91 (.iconst 0) 1 := ⟨by decide +kernel, rfl⟩
theorem dX8_faultOf_91 : Dc MX8_faultOf 91 94 (.goto 7) 3 := ⟨by decide +kernel, rfl⟩
theorem dX8_faultOf_94 : Dc MX8_faultOf 94 95 (.iload_n 3) 1 := ⟨by decide +kernel, rfl⟩
theorem dX8_faultOf_95 : Dc MX8_faultOf 95 98 (.invokestatic 91) 3 := ⟨by decide +kernel, rfl⟩
theorem dX8_faultOf_98 : Dc MX8_faultOf 98 100 (.istore 5) 2 := ⟨by decide +kernel, rfl⟩
theorem dX8_faultOf_100 : Dc MX8_faultOf 100 102 (.iload 5) 2 := ⟨by decide +kernel, rfl⟩
theorem dX8_faultOf_102 : Dc MX8_faultOf 102 105 (.ifCond .ne 5) 3 := ⟨by decide +kernel, rfl⟩
theorem dX8_faultOf_105 : Dc MX8_faultOf 105 106 (.iload_n 2) 1 := ⟨by decide +kernel, rfl⟩
theorem dX8_faultOf_106 : Dc MX8_faultOf 106 107 (.ireturn) 1 := ⟨by decide +kernel, rfl⟩
theorem dX8_faultOf_107 : Dc MX8_faultOf 107 108 (.iload_n 1) 1 := ⟨by decide +kernel, rfl⟩
theorem dX8_faultOf_108 : Dc MX8_faultOf 108 111 (.ifCond .ne 14) 3 := ⟨by decide +kernel, rfl⟩
theorem dX8_faultOf_111 : Dc MX8_faultOf 111 112 (.iload_n 3) 1 := ⟨by decide +kernel, rfl⟩
theorem dX8_faultOf_112 : Dc MX8_faultOf 112 115 (.invokestatic 88) 3 := ⟨by decide +kernel, rfl⟩
theorem dX8_faultOf_115 : Dc MX8_faultOf 115 118 (.ifCond .eq 7) 3 := ⟨by decide +kernel, rfl⟩
theorem dX8_faultOf_118 : Dc MX8_faultOf 118 119 (.iconst 1) 1 := ⟨by decide +kernel, rfl⟩
theorem dX8_faultOf_119 : Dc MX8_faultOf 119 122 (.goto 20) 3 := ⟨by decide +kernel, rfl⟩
theorem dX8_faultOf_122 : Dc MX8_faultOf 122 123 (.iload_n 1) 1 := ⟨by decide +kernel, rfl⟩
theorem dX8_faultOf_123 : Dc MX8_faultOf 123 124 (.iconst 1) 1 := ⟨by decide +kernel, rfl⟩
theorem dX8_faultOf_124 : Dc MX8_faultOf 124 127 (.if_icmp .ne 14) 3 := ⟨by decide +kernel, rfl⟩
theorem dX8_faultOf_127 : Dc MX8_faultOf 127 128 (.iload_n 3) 1 := ⟨by decide +kernel, rfl⟩
theorem dX8_faultOf_128 : Dc MX8_faultOf 128 131 (.invokestatic 91) 3 := ⟨by decide +kernel, rfl⟩
theorem dX8_faultOf_131 : Dc MX8_faultOf 131 134 (.ifCond .eq 7) 3 := ⟨by decide +kernel, rfl⟩
theorem dX8_faultOf_134 : Dc MX8_faultOf 134 135 (.iconst 2) 1 := ⟨by decide +kernel, rfl⟩
theorem dX8_faultOf_135 : Dc MX8_faultOf 135 138 (.goto 4) 3 := ⟨by decide +kernel, rfl⟩
theorem dX8_faultOf_138 : Dc MX8_faultOf 138 139 (.iconst 0) 1 := ⟨by decide +kernel, rfl⟩
theorem dX8_faultOf_139 : Dc MX8_faultOf 139 140 (.istore_n 1) 1 := ⟨by decide +kernel, rfl⟩
theorem dX8_faultOf_140 : Dc MX8_faultOf 140 143 (.iinc 2 1) 3 := ⟨by decide +kernel, rfl⟩
theorem dX8_faultOf_143 : Dc MX8_faultOf 143 146 (.goto (-139)) 3 := ⟨by decide +kernel, rfl⟩
theorem dX8_faultOf_146 : Dc MX8_faultOf 146 147 (.iload_n 1) 1 := ⟨by decide +kernel, rfl⟩
theorem dX8_faultOf_147 : Dc MX8_faultOf 147 150 (.ifCond .ne 8) 3 := ⟨by decide +kernel, rfl⟩
theorem dX8_faultOf_150 : Dc MX8_faultOf 150 152 (.bipush (-6)) 2 := ⟨by decide +kernel, rfl⟩
theorem dX8_faultOf_152 : Dc MX8_faultOf 152 155 (.goto 7) 3 := ⟨by decide +kernel, rfl⟩
theorem dX8_faultOf_155 : Dc MX8_faultOf 155 156 (.aload_n 0) 1 := ⟨by decide +kernel, rfl⟩
theorem dX8_faultOf_156 : Dc MX8_faultOf 156 159 (.getfield 85) 3 := ⟨by decide +kernel, rfl⟩
theorem dX8_faultOf_159 : Dc MX8_faultOf 159 160 (.ireturn) 1 := ⟨by decide +kernel, rfl⟩
theorem dX8_fault_0 : Dc MX8_fault 0 1 (.aload_n 0) 1 := ⟨by decide +kernel, rfl⟩
theorem dX8_fault_1 : Dc MX8_fault 1 4 (.invokevirtual 94) 3 := ⟨by decide +kernel, rfl⟩
theorem dX8_fault_4 : Dc MX8_fault 4 5 (.ireturn) 1 := ⟨by decide +kernel, rfl⟩
theorem dX8_asNow_0 : Dc MX8_asNow 0 1 (.iconst 0) 1 := ⟨by decide +kernel, rfl⟩
theorem dX8_asNow_1 : Dc MX8_asNow 1 2 (.istore_n 1) 1 := ⟨by decide +kernel, rfl⟩
theorem dX8_asNow_2 : Dc MX8_asNow 2 3 (.iload_n 1) 1 := ⟨by decide +kernel, rfl⟩
theorem dX8_asNow_3 : Dc MX8_asNow 3 5 (.bipush 6) 2 := ⟨by decide +kernel, rfl⟩
theorem dX8_asNow_5 : Dc MX8_asNow 5 8 (.if_icmp .ge 40) 3 := ⟨by decide +kernel, rfl⟩
theorem dX8_asNow_8 : Dc MX8_asNow 8 9 (.aload_n 0) 1 := ⟨by decide +kernel, rfl⟩
theorem dX8_asNow_9 : Dc MX8_asNow 9 12 (.getfield 38) 3 := ⟨by decide +kernel, rfl⟩
theorem dX8_asNow_12 : Dc MX8_asNow 12 13 (.iload_n 1) 1 := ⟨by decide +kernel, rfl⟩
theorem dX8_asNow_13 : Dc MX8_asNow 13 14 (.aload_n 0) 1 := ⟨by decide +kernel, rfl⟩
theorem dX8_asNow_14 : Dc MX8_asNow 14 17 (.getfield 23) 3 := ⟨by decide +kernel, rfl⟩
theorem dX8_asNow_17 : Dc MX8_asNow 17 18 (.iload_n 1) 1 := ⟨by decide +kernel, rfl⟩
theorem dX8_asNow_18 : Dc MX8_asNow 18 19 (.iaload) 1 := ⟨by decide +kernel, rfl⟩
theorem dX8_asNow_19 : Dc MX8_asNow 19 20 (.iastore) 1 := ⟨by decide +kernel, rfl⟩
theorem dX8_asNow_20 : Dc MX8_asNow 20 21 (.aload_n 0) 1 := ⟨by decide +kernel, rfl⟩
theorem dX8_asNow_21 : Dc MX8_asNow 21 24 (.getfield 41) 3 := ⟨by decide +kernel, rfl⟩
theorem dX8_asNow_24 : Dc MX8_asNow 24 25 (.iload_n 1) 1 := ⟨by decide +kernel, rfl⟩
theorem dX8_asNow_25 : Dc MX8_asNow 25 26 (.aload_n 0) 1 := ⟨by decide +kernel, rfl⟩
theorem dX8_asNow_26 : Dc MX8_asNow 26 29 (.getfield 26) 3 := ⟨by decide +kernel, rfl⟩
theorem dX8_asNow_29 : Dc MX8_asNow 29 30 (.iload_n 1) 1 := ⟨by decide +kernel, rfl⟩
theorem dX8_asNow_30 : Dc MX8_asNow 30 31 (.iaload) 1 := ⟨by decide +kernel, rfl⟩
theorem dX8_asNow_31 : Dc MX8_asNow 31 32 (.iastore) 1 := ⟨by decide +kernel, rfl⟩
theorem dX8_asNow_32 : Dc MX8_asNow 32 33 (.aload_n 0) 1 := ⟨by decide +kernel, rfl⟩
theorem dX8_asNow_33 : Dc MX8_asNow 33 36 (.getfield 44) 3 := ⟨by decide +kernel, rfl⟩
theorem dX8_asNow_36 : Dc MX8_asNow 36 37 (.iload_n 1) 1 := ⟨by decide +kernel, rfl⟩
theorem dX8_asNow_37 : Dc MX8_asNow 37 38 (.iconst 0) 1 := ⟨by decide +kernel, rfl⟩
theorem dX8_asNow_38 : Dc MX8_asNow 38 39 (.iastore) 1 := ⟨by decide +kernel, rfl⟩
theorem dX8_asNow_39 : Dc MX8_asNow 39 42 (.iinc 1 1) 3 := ⟨by decide +kernel, rfl⟩
theorem dX8_asNow_42 : Dc MX8_asNow 42 45 (.goto (-40)) 3 := ⟨by decide +kernel, rfl⟩
theorem dX8_asNow_45 : Dc MX8_asNow 45 46 (.iconst 0) 1 := ⟨by decide +kernel, rfl⟩
theorem dX8_asNow_46 : Dc MX8_asNow 46 47 (.istore_n 1) 1 := ⟨by decide +kernel, rfl⟩
theorem dX8_asNow_47 : Dc MX8_asNow 47 48 (.iload_n 1) 1 := ⟨by decide +kernel, rfl⟩
theorem dX8_asNow_48 : Dc MX8_asNow 48 49 (.iconst 3) 1 := ⟨by decide +kernel, rfl⟩
theorem dX8_asNow_49 : Dc MX8_asNow 49 52 (.if_icmp .ge 16) 3 := ⟨by decide +kernel, rfl⟩
theorem dX8_asNow_52 : Dc MX8_asNow 52 53 (.aload_n 0) 1 := ⟨by decide +kernel, rfl⟩
theorem dX8_asNow_53 : Dc MX8_asNow 53 56 (.getfield 47) 3 := ⟨by decide +kernel, rfl⟩
theorem dX8_asNow_56 : Dc MX8_asNow 56 57 (.iload_n 1) 1 := ⟨by decide +kernel, rfl⟩
theorem dX8_asNow_57 : Dc MX8_asNow 57 58 (.iconst 0) 1 := ⟨by decide +kernel, rfl⟩
theorem dX8_asNow_58 : Dc MX8_asNow 58 59 (.iastore) 1 := ⟨by decide +kernel, rfl⟩
theorem dX8_asNow_59 : Dc MX8_asNow 59 62 (.iinc 1 1) 3 := ⟨by decide +kernel, rfl⟩
theorem dX8_asNow_62 : Dc MX8_asNow 62 65 (.goto (-15)) 3 := ⟨by decide +kernel, rfl⟩
theorem dX8_asNow_65 : Dc MX8_asNow 65 66 (.aload_n 0) 1 := ⟨by decide +kernel, rfl⟩
theorem dX8_asNow_66 : Dc MX8_asNow 66 67 (.aload_n 0) 1 := ⟨by decide +kernel, rfl⟩
theorem dX8_asNow_67 : Dc MX8_asNow 67 70 (.getfield 64) 3 := ⟨by decide +kernel, rfl⟩
theorem dX8_asNow_70 : Dc MX8_asNow 70 73 (.putfield 98) 3 := ⟨by decide +kernel, rfl⟩
theorem dX8_asNow_73 : Dc MX8_asNow 73 74 (.aload_n 0) 1 := ⟨by decide +kernel, rfl⟩
theorem dX8_asNow_74 : Dc MX8_asNow 74 75 (.aload_n 0) 1 := ⟨by decide +kernel, rfl⟩
theorem dX8_asNow_75 : Dc MX8_asNow 75 78 (.getfield 101) 3 := ⟨by decide +kernel, rfl⟩
theorem dX8_asNow_78 : Dc MX8_asNow 78 81 (.putfield 104) 3 := ⟨by decide +kernel, rfl⟩
theorem dX8_asNow_81 : Dc MX8_asNow 81 82 (.aload_n 0) 1 := ⟨by decide +kernel, rfl⟩
theorem dX8_asNow_82 : Dc MX8_asNow 82 83 (.iconst 0) 1 := ⟨by decide +kernel, rfl⟩
theorem dX8_asNow_83 : Dc MX8_asNow 83 86 (.putfield 107) 3 := ⟨by decide +kernel, rfl⟩
theorem dX8_asNow_86 : Dc MX8_asNow 86 87 (.return_) 1 := ⟨by decide +kernel, rfl⟩
theorem dX8_isTunnel_0 : Dc MX8_isTunnel 0 1 (.aload_n 0) 1 := ⟨by decide +kernel, rfl⟩
theorem dX8_isTunnel_1 : Dc MX8_isTunnel 1 4 (.getfield 67) 3 := ⟨by decide +kernel, rfl⟩
theorem dX8_isTunnel_4 : Dc MX8_isTunnel 4 5 (.iload_n 1) 1 := ⟨by decide +kernel, rfl⟩
theorem dX8_isTunnel_5 : Dc MX8_isTunnel 5 8 (.invokestatic 110) 3 := ⟨by decide +kernel, rfl⟩
theorem dX8_isTunnel_8 : Dc MX8_isTunnel 8 9 (.ireturn) 1 := ⟨by decide +kernel, rfl⟩
theorem dX8_holder_0 : Dc MX8_holder 0 2 (.bipush (-6)) 2 := ⟨by decide +kernel, rfl⟩
theorem dX8_holder_2 : Dc MX8_holder 2 3 (.istore_n 2) 1 := ⟨by decide +kernel, rfl⟩
theorem dX8_holder_3 : Dc MX8_holder 3 4 (.iconst 0) 1 := ⟨by decide +kernel, rfl⟩
theorem dX8_holder_4 : Dc MX8_holder 4 5 (.istore_n 3) 1 := ⟨by decide +kernel, rfl⟩
theorem dX8_holder_5 : Dc MX8_holder 5 6 (.iload_n 3) 1 := ⟨by decide +kernel, rfl⟩
theorem dX8_holder_6 : Dc MX8_holder 6 8 (.bipush 6) 2 := ⟨by decide +kernel, rfl⟩
theorem dX8_holder_8 : Dc MX8_holder 8 11 (.if_icmp .ge 114) 3 := ⟨by decide +kernel, rfl⟩
theorem dX8_holder_11 : Dc MX8_holder 11 12 (.aload_n 0) 1 := ⟨by decide +kernel, rfl⟩
theorem dX8_holder_12 : Dc MX8_holder 12 15 (.getfield 98) 3 := ⟨by decide +kernel, rfl⟩
theorem dX8_holder_15 : Dc MX8_holder 15 16 (.aload_n 0) 1 := ⟨by decide +kernel, rfl⟩
theorem dX8_holder_16 : Dc MX8_holder 16 19 (.getfield 7) 3 := ⟨by decide +kernel, rfl⟩
theorem dX8_holder_19 : Dc MX8_holder 19 22 (.if_icmp .ge 64) 3 := ⟨by decide +kernel, rfl⟩
theorem dX8_holder_22 : Dc MX8_holder 22 23 (.aload_n 0) 1 := ⟨by decide +kernel, rfl⟩
theorem dX8_holder_23 : Dc MX8_holder 23 24 (.aload_n 0) 1 := ⟨by decide +kernel, rfl⟩
theorem dX8_holder_24 : Dc MX8_holder 24 27 (.getfield 98) 3 := ⟨by decide +kernel, rfl⟩
theorem dX8_holder_27 : Dc MX8_holder 27 30 (.invokevirtual 113) 3 := ⟨by decide +kernel, rfl⟩
theorem dX8_holder_30 : Dc MX8_holder 30 33 (.ifCond .ne 53) 3 := ⟨by decide +kernel, rfl⟩
theorem dX8_holder_33 : Dc MX8_holder 33 34 (.aload_n 0) 1 := ⟨by decide +kernel, rfl⟩
theorem dX8_holder_34 : Dc MX8_holder 34 35 (.iload_n 3) 1 := ⟨by decide +kernel, rfl⟩
theorem dX8_holder_35 : Dc MX8_holder 35 36 (.aload_n 0) 1 := ⟨by decide +kernel, rfl⟩
theorem dX8_holder_36 : Dc MX8_holder 36 39 (.getfield 98) 3 := ⟨by decide +kernel, rfl⟩
theorem dX8_holder_39 : Dc MX8_holder 39 42 (.invokevirtual 78) 3 := ⟨by decide +kernel, rfl⟩
theorem dX8_holder_42 : Dc MX8_holder 42 45 (.ifCond .eq 41) 3 := ⟨by decide +kernel, rfl⟩
theorem dX8_holder_45 : Dc MX8_holder 45 46 (.aload_n 0) 1 := ⟨by decide +kernel, rfl⟩
theorem dX8_holder_46 : Dc MX8_holder 46 49 (.getfield 20) 3 := ⟨by decide +kernel, rfl⟩
theorem dX8_holder_49 : Dc MX8_holder 49 50 (.iload_n 3) 1 := ⟨by decide +kernel, rfl⟩
theorem dX8_holder_50 : Dc MX8_holder 50 51 (.iaload) 1 := ⟨by decide +kernel, rfl⟩
theorem dX8_holder_51 : Dc MX8_holder 51 52 (.iload_n 1) 1 := ⟨by decide +kernel, rfl⟩
theorem dX8_holder_52 : Dc MX8_holder 52 55 (.if_icmp .ne 31) 3 := ⟨by decide +kernel, rfl⟩
theorem dX8_holder_55 : Dc MX8_holder 55 56 (.aload_n 0) 1 := ⟨by decide +kernel, rfl⟩
theorem dX8_holder_56 : Dc MX8_holder 56 59 (.getfield 41) 3 := ⟨by decide +kernel, rfl⟩
theorem dX8_holder_59 : Dc MX8_holder 59 60 (.iload_n 3) 1 := ⟨by decide +kernel, rfl⟩
theorem dX8_holder_60 : Dc MX8_holder 60 61 (.iaload) 1 := ⟨by decide +kernel, rfl⟩
theorem dX8_holder_61 : Dc MX8_holder 61 64 (.ifCond .le 22) 3 := ⟨by decide +kernel, rfl⟩
theorem dX8_holder_64 : Dc MX8_holder 64 65 (.aload_n 0) 1 := ⟨by decide +kernel, rfl⟩
theorem dX8_holder_65 : Dc MX8_holder 65 68 (.getfield 41) 3 := ⟨by decide +kernel, rfl⟩
theorem dX8_holder_68 : Dc MX8_holder 68 69 (.iload_n 3) 1 := ⟨by decide +kernel, rfl⟩
theorem dX8_holder_69 : Dc MX8_holder 69 70 (.iaload) 1 := ⟨by decide +kernel, rfl⟩
theorem dX8_holder_70 : Dc MX8_holder 70 71 (.aload_n 0) 1 := ⟨by decide +kernel, rfl⟩
theorem dX8_holder_71 : Dc MX8_holder 71 74 (.getfield 38) 3 := ⟨by decide +kernel, rfl⟩
theorem dX8_holder_74 : Dc MX8_holder 74 75 (.iload_n 3) 1 := ⟨by decide +kernel, rfl⟩
theorem dX8_holder_75 : Dc MX8_holder 75 76 (.iaload) 1 := ⟨by decide +kernel, rfl⟩
theorem dX8_holder_76 : Dc MX8_holder 76 79 (.if_icmp .gt 7) 3 := ⟨by decide +kernel, rfl⟩
theorem dX8_holder_79 : Dc MX8_holder 79 80 (.iconst 1) 1 := ⟨by decide +kernel, rfl⟩
theorem dX8_holder_80 : Dc MX8_holder 80 83 (.goto 4) 3 := ⟨by decide +kernel, rfl⟩
theorem dX8_holder_83 : Dc MX8_holder 83 84 (.iconst 0) 1 := ⟨by decide +kernel, rfl⟩
theorem dX8_holder_84 : Dc MX8_holder 84 86 (.istore 4) 2 := ⟨by decide +kernel, rfl⟩
theorem dX8_holder_86 : Dc MX8_holder 86 88 (.iload 4) 2 := ⟨by decide +kernel, rfl⟩
theorem dX8_holder_88 : Dc MX8_holder 88 91 (.ifCond .eq 26) 3 := ⟨by decide +kernel, rfl⟩
theorem dX8_holder_91 : Dc MX8_holder 91 92 (.iload_n 2) 1 := ⟨by decide +kernel, rfl⟩
theorem dX8_holder_92 : Dc MX8_holder 92 95 (.ifCond .lt 18) 3 := ⟨by decide +kernel, rfl⟩
theorem dX8_holder_95 : Dc MX8_holder 95 96 (.aload_n 0) 1 := ⟨by decide +kernel, rfl⟩
theorem dX8_holder_96 : Dc MX8_holder 96 99 (.getfield 41) 3 := ⟨by decide +kernel, rfl⟩
theorem dX8_holder_99 : Dc MX8_holder 99 100 (.iload_n 3) 1 := ⟨by decide +kernel, rfl⟩
theorem dX8_holder_100 : Dc MX8_holder 100 101 (.iaload) 1 := ⟨by decide +kernel, rfl⟩
theorem dX8_holder_101 : Dc MX8_holder 101 102 (.aload_n 0) 1 := ⟨by decide +kernel, rfl⟩
theorem dX8_holder_102 : Dc MX8_holder 102 105 (.getfield 41) 3 := ⟨by decide +kernel, rfl⟩
theorem dX8_holder_105 : Dc MX8_holder 105 106 (.iload_n 2) 1 := ⟨by decide +kernel, rfl⟩
theorem dX8_holder_106 : Dc MX8_holder 106 107 (.iaload) 1 := ⟨by decide +kernel, rfl⟩
theorem dX8_holder_107 : Dc MX8_holder 107 110 (.if_icmp .le 7) 3 := ⟨by decide +kernel, rfl⟩
theorem dX8_holder_110 : Dc MX8_holder 110 111 (.iload_n 3) 1 := ⟨by decide +kernel, rfl⟩
theorem dX8_holder_111 : Dc MX8_holder 111 114 (.goto 4) 3 := ⟨by decide +kernel, rfl⟩
theorem dX8_holder_114 : Dc MX8_holder 114 115 (.iload_n 2) 1 := ⟨by decide +kernel, rfl⟩
theorem dX8_holder_115 : Dc MX8_holder 115 116 (.istore_n 2) 1 := ⟨by decide +kernel, rfl⟩
theorem dX8_holder_116 : Dc MX8_holder 116 119 (.iinc 3 1) 3 := ⟨by decide +kernel, rfl⟩
theorem dX8_holder_119 : Dc MX8_holder 119 122 (.goto (-114)) 3 := ⟨by decide +kernel, rfl⟩
theorem dX8_holder_122 : Dc MX8_holder 122 123 (.iload_n 2) 1 := ⟨by decide +kernel, rfl⟩
theorem dX8_holder_123 : Dc MX8_holder 123 124 (.ireturn) 1 := ⟨by decide +kernel, rfl⟩
theorem dX8_pass_0 : Dc MX8_pass 0 1 (.iconst 0) 1 := ⟨by decide +kernel, rfl⟩
theorem dX8_pass_1 : Dc MX8_pass 1 2 (.istore_n 1) 1 := ⟨by decide +kernel, rfl⟩
theorem dX8_pass_2 : Dc MX8_pass 2 3 (.iload_n 1) 1 := ⟨by decide +kernel, rfl⟩
theorem dX8_pass_3 : Dc MX8_pass 3 4 (.iconst 3) 1 := ⟨by decide +kernel, rfl⟩
theorem dX8_pass_4 : Dc MX8_pass 4 7 (.if_icmp .ge 79) 3 := ⟨by decide +kernel, rfl⟩
theorem dX8_pass_7 : Dc MX8_pass 7 8 (.aload_n 0) 1 := ⟨by decide +kernel, rfl⟩
theorem dX8_pass_8 : Dc MX8_pass 8 9 (.iload_n 1) 1 := ⟨by decide +kernel, rfl⟩
theorem dX8_pass_9 : Dc MX8_pass 9 12 (.invokevirtual 116) 3 := ⟨by decide +kernel, rfl⟩
theorem dX8_pass_12 : Dc MX8_pass 12 13 (.istore_n 2) 1 := ⟨by decide +kernel, rfl⟩
theorem dX8_pass_13 : Dc MX8_pass 13 14 (.iload_n 2) 1 := ⟨by decide +kernel, rfl⟩
theorem dX8_pass_14 : Dc MX8_pass 14 17 (.ifCond .lt 63) 3 := ⟨by decide +kernel, rfl⟩
theorem dX8_pass_17 : Dc MX8_pass 17 18 (.aload_n 0) 1 := ⟨by decide +kernel, rfl⟩
theorem dX8_pass_18 : Dc MX8_pass 18 21 (.getfield 38) 3 := ⟨by decide +kernel, rfl⟩
theorem dX8_pass_21 : Dc MX8_pass 21 22 (.iload_n 2) 1 := ⟨by decide +kernel, rfl⟩
theorem dX8_pass_22 : Dc MX8_pass 22 23 (.dup2) 1 := ⟨by decide +kernel, rfl⟩
theorem dX8_pass_23 : Dc MX8_pass 23 24 (.iaload) 1 := ⟨by decide +kernel, rfl⟩
theorem dX8_pass_24 : Dc MX8_pass 24 25 (.aload_n 0) 1 := ⟨by decide +kernel, rfl⟩
theorem dX8_pass_25 : Dc MX8_pass 25 28 (.getfield 41) 3 := ⟨by decide +kernel, rfl⟩
theorem dX8_pass_28 : Dc MX8_pass 28 29 (.iload_n 2) 1 := ⟨by decide +kernel, rfl⟩
theorem dX8_pass_29 : Dc MX8_pass 29 30 (.iaload) 1 := ⟨by decide +kernel, rfl⟩
theorem dX8_pass_30 : Dc MX8_pass 30 31 (.isub) 1 := ⟨by decide +kernel, rfl⟩
theorem dX8_pass_31 : Dc MX8_pass 31 32 (.iastore) 1 := ⟨by decide +kernel, rfl⟩
theorem dX8_pass_32 : Dc MX8_pass 32 33 (.aload_n 0) 1 := ⟨by decide +kernel, rfl⟩
theorem dX8_pass_33 : Dc MX8_pass 33 34 (.dup) 1 := ⟨by decide +kernel, rfl⟩
theorem dX8_pass_34 : Dc MX8_pass 34 37 (.getfield 104) 3 := ⟨by decide +kernel, rfl⟩
theorem dX8_pass_37 : Dc MX8_pass 37 38 (.aload_n 0) 1 := ⟨by decide +kernel, rfl⟩
theorem dX8_pass_38 : Dc MX8_pass 38 41 (.getfield 41) 3 := ⟨by decide +kernel, rfl⟩
theorem dX8_pass_41 : Dc MX8_pass 41 42 (.iload_n 2) 1 := ⟨by decide +kernel, rfl⟩
theorem dX8_pass_42 : Dc MX8_pass 42 43 (.iaload) 1 := ⟨by decide +kernel, rfl⟩
theorem dX8_pass_43 : Dc MX8_pass 43 44 (.iadd) 1 := ⟨by decide +kernel, rfl⟩
theorem dX8_pass_44 : Dc MX8_pass 44 47 (.putfield 104) 3 := ⟨by decide +kernel, rfl⟩
theorem dX8_pass_47 : Dc MX8_pass 47 48 (.aload_n 0) 1 := ⟨by decide +kernel, rfl⟩
theorem dX8_pass_48 : Dc MX8_pass 48 51 (.getfield 44) 3 := ⟨by decide +kernel, rfl⟩
theorem dX8_pass_51 : Dc MX8_pass 51 52 (.iload_n 2) 1 := ⟨by decide +kernel, rfl⟩
theorem dX8_pass_52 : Dc MX8_pass 52 53 (.dup2) 1 := ⟨by decide +kernel, rfl⟩
theorem dX8_pass_53 : Dc MX8_pass 53 54 (.iaload) 1 := ⟨by decide +kernel, rfl⟩
theorem dX8_pass_54 : Dc MX8_pass 54 55 (.aload_n 0) 1 := ⟨by decide +kernel, rfl⟩
theorem dX8_pass_55 : Dc MX8_pass 55 58 (.getfield 41) 3 := ⟨by decide +kernel, rfl⟩
theorem dX8_pass_58 : Dc MX8_pass 58 59 (.iload_n 2) 1 := ⟨by decide +kernel, rfl⟩
theorem dX8_pass_59 : Dc MX8_pass 59 60 (.iaload) 1 := ⟨by decide +kernel, rfl⟩
theorem dX8_pass_60 : Dc MX8_pass 60 61 (.iadd) 1 := ⟨by decide +kernel, rfl⟩
theorem dX8_pass_61 : Dc MX8_pass 61 62 (.iastore) 1 := ⟨by decide +kernel, rfl⟩
theorem dX8_pass_62 : Dc MX8_pass 62 63 (.aload_n 0) 1 := ⟨by decide +kernel, rfl⟩
theorem dX8_pass_63 : Dc MX8_pass 63 66 (.getfield 47) 3 := ⟨by decide +kernel, rfl⟩
theorem dX8_pass_66 : Dc MX8_pass 66 67 (.iload_n 1) 1 := ⟨by decide +kernel, rfl⟩
theorem dX8_pass_67 : Dc MX8_pass 67 68 (.dup2) 1 := ⟨by decide +kernel, rfl⟩
theorem dX8_pass_68 : Dc MX8_pass 68 69 (.iaload) 1 := ⟨by decide +kernel, rfl⟩
theorem dX8_pass_69 : Dc MX8_pass 69 70 (.aload_n 0) 1 := ⟨by decide +kernel, rfl⟩
theorem dX8_pass_70 : Dc MX8_pass 70 73 (.getfield 41) 3 := ⟨by decide +kernel, rfl⟩
theorem dX8_pass_73 : Dc MX8_pass 73 74 (.iload_n 2) 1 := ⟨by decide +kernel, rfl⟩
theorem dX8_pass_74 : Dc MX8_pass 74 75 (.iaload) 1 := ⟨by decide +kernel, rfl⟩
theorem dX8_pass_75 : Dc MX8_pass 75 76 (.iadd) 1 := ⟨by decide +kernel, rfl⟩
theorem dX8_pass_76 : Dc MX8_pass 76 77 (.iastore) 1 := ⟨by decide +kernel, rfl⟩
theorem dX8_pass_77 : Dc MX8_pass 77 80 (.iinc 1 1) 3 := ⟨by decide +kernel, rfl⟩
theorem dX8_pass_80 : Dc MX8_pass 80 83 (.goto (-78)) 3 := ⟨by decide +kernel, rfl⟩
theorem dX8_pass_83 : Dc MX8_pass 83 84 (.aload_n 0) 1 := ⟨by decide +kernel, rfl⟩
theorem dX8_pass_84 : Dc MX8_pass 84 85 (.dup) 1 := ⟨by decide +kernel, rfl⟩
theorem dX8_pass_85 : Dc MX8_pass 85 88 (.getfield 98) 3 := ⟨by decide +kernel, rfl⟩
theorem dX8_pass_88 : Dc MX8_pass 88 89 (.iconst 1) 1 := ⟨by decide +kernel, rfl⟩
theorem dX8_pass_89 : Dc MX8_pass 89 90 (.iadd) 1 := ⟨by decide +kernel, rfl⟩
theorem dX8_pass_90 : Dc MX8_pass 90 93 (.putfield 98) 3 := ⟨by decide +kernel, rfl⟩
theorem dX8_pass_93 : Dc MX8_pass 93 94 (.return_) 1 := ⟨by decide +kernel, rfl⟩
theorem dX8_ridesNow_0 : Dc MX8_ridesNow 0 1 (.aload_n 0) 1 := ⟨by decide +kernel, rfl⟩
theorem dX8_ridesNow_1 : Dc MX8_ridesNow 1 2 (.iload_n 1) 1 := ⟨by decide +kernel, rfl⟩
theorem dX8_ridesNow_2 : Dc MX8_ridesNow 2 3 (.aload_n 0) 1 := ⟨by decide +kernel, rfl⟩
theorem dX8_ridesNow_3 : Dc MX8_ridesNow 3 6 (.getfield 98) 3 := ⟨by decide +kernel, rfl⟩
theorem dX8_ridesNow_6 : Dc MX8_ridesNow 6 9 (.invokevirtual 78) 3 := ⟨by decide +kernel, rfl⟩
theorem dX8_ridesNow_9 : Dc MX8_ridesNow 9 10 (.ireturn) 1 := ⟨by decide +kernel, rfl⟩
theorem dX8_maySpeak_0 : Dc MX8_maySpeak 0 1 (.aload_n 0) 1 := ⟨by decide +kernel, rfl⟩
theorem dX8_maySpeak_1 : Dc MX8_maySpeak 1 2 (.aload_n 0) 1 := ⟨by decide +kernel, rfl⟩
theorem dX8_maySpeak_2 : Dc MX8_maySpeak 2 5 (.getfield 20) 3 := ⟨by decide +kernel, rfl⟩
theorem dX8_maySpeak_5 : Dc MX8_maySpeak 5 6 (.iload_n 1) 1 := ⟨by decide +kernel, rfl⟩
theorem dX8_maySpeak_6 : Dc MX8_maySpeak 6 7 (.iaload) 1 := ⟨by decide +kernel, rfl⟩
theorem dX8_maySpeak_7 : Dc MX8_maySpeak 7 10 (.invokevirtual 116) 3 := ⟨by decide +kernel, rfl⟩
theorem dX8_maySpeak_10 : Dc MX8_maySpeak 10 11 (.istore_n 2) 1 := ⟨by decide +kernel, rfl⟩
theorem dX8_maySpeak_11 : Dc MX8_maySpeak 11 12 (.aload_n 0) 1 := ⟨by decide +kernel, rfl⟩
theorem dX8_maySpeak_12 : Dc MX8_maySpeak 12 13 (.iload_n 1) 1 := ⟨by decide +kernel, rfl⟩
theorem dX8_maySpeak_13 : Dc MX8_maySpeak 13 16 (.invokevirtual 119) 3 := ⟨by decide +kernel, rfl⟩
theorem dX8_maySpeak_16 : Dc MX8_maySpeak 16 19 (.ifCond .eq 16) 3 := ⟨by decide +kernel, rfl⟩
theorem dX8_maySpeak_19 : Dc MX8_maySpeak 19 20 (.iload_n 2) 1 := ⟨by decide +kernel, rfl⟩
theorem dX8_maySpeak_20 : Dc MX8_maySpeak 20 23 (.ifCond .lt 8) 3 := ⟨by decide +kernel, rfl⟩
theorem dX8_maySpeak_23 : Dc MX8_maySpeak 23 24 (.iload_n 2) 1 := ⟨by decide +kernel, rfl⟩
theorem dX8_maySpeak_24 : Dc MX8_maySpeak 24 25 (.iload_n 1) 1 := ⟨by decide +kernel, rfl⟩
theorem dX8_maySpeak_25 : Dc MX8_maySpeak 25 28 (.if_icmp .ne 7) 3 := ⟨by decide +kernel, rfl⟩
theorem dX8_maySpeak_28 : Dc MX8_maySpeak 28 29 (.iconst 1) 1 := ⟨by decide +kernel, rfl⟩
theorem dX8_maySpeak_29 : Dc MX8_maySpeak 29 32 (.goto 4) 3 := ⟨by decide +kernel, rfl⟩
theorem dX8_maySpeak_32 : Dc MX8_maySpeak 32 33 (.iconst 0) 1 := ⟨by decide +kernel, rfl⟩
theorem dX8_maySpeak_33 : Dc MX8_maySpeak 33 34 (.ireturn) 1 := ⟨by decide +kernel, rfl⟩
theorem dX8_cough_0 : Dc MX8_cough 0 1 (.aload_n 0) 1 := ⟨by decide +kernel, rfl⟩
theorem dX8_cough_1 : Dc MX8_cough 1 2 (.aload_n 0) 1 := ⟨by decide +kernel, rfl⟩
theorem dX8_cough_2 : Dc MX8_cough 2 5 (.getfield 20) 3 := ⟨by decide +kernel, rfl⟩
theorem dX8_cough_5 : Dc MX8_cough 5 6 (.iload_n 1) 1 := ⟨by decide +kernel, rfl⟩
theorem dX8_cough_6 : Dc MX8_cough 6 7 (.iaload) 1 := ⟨by decide +kernel, rfl⟩
theorem dX8_cough_7 : Dc MX8_cough 7 10 (.invokevirtual 116) 3 := ⟨by decide +kernel, rfl⟩
theorem dX8_cough_10 : Dc MX8_cough 10 11 (.istore_n 2) 1 := ⟨by decide +kernel, rfl⟩
theorem dX8_cough_11 : Dc MX8_cough 11 12 (.iload_n 2) 1 := ⟨by decide +kernel, rfl⟩
theorem dX8_cough_12 : Dc MX8_cough 12 15 (.ifCond .lt 65) 3 := ⟨by decide +kernel, rfl⟩
theorem dX8_cough_15 : Dc MX8_cough 15 16 (.iload_n 2) 1 := ⟨by decide +kernel, rfl⟩
theorem dX8_cough_16 : Dc MX8_cough 16 17 (.iload_n 1) 1 := ⟨by decide +kernel, rfl⟩
theorem dX8_cough_17 : Dc MX8_cough 17 20 (.if_icmp .eq 60) 3 := ⟨by decide +kernel, rfl⟩
theorem dX8_cough_20 : Dc MX8_cough 20 21 (.aload_n 0) 1 := ⟨by decide +kernel, rfl⟩
theorem dX8_cough_21 : Dc MX8_cough 21 24 (.getfield 29) 3 := ⟨by decide +kernel, rfl⟩
theorem dX8_cough_24 : Dc MX8_cough 24 25 (.aload_n 0) 1 := ⟨by decide +kernel, rfl⟩
theorem dX8_cough_25 : Dc MX8_cough 25 28 (.getfield 38) 3 := ⟨by decide +kernel, rfl⟩
theorem dX8_cough_28 : Dc MX8_cough 28 29 (.iload_n 2) 1 := ⟨by decide +kernel, rfl⟩
theorem dX8_cough_29 : Dc MX8_cough 29 30 (.iaload) 1 := ⟨by decide +kernel, rfl⟩
theorem dX8_cough_30 : Dc MX8_cough 30 33 (.if_icmp .ge 10) 3 := ⟨by decide +kernel, rfl⟩
theorem dX8_cough_33 : Dc MX8_cough 33 34 (.aload_n 0) 1 := ⟨by decide +kernel, rfl⟩
theorem dX8_cough_34 : Dc MX8_cough 34 37 (.getfield 29) 3 := ⟨by decide +kernel, rfl⟩
theorem dX8_cough_37 : Dc MX8_cough 37 40 (.goto 9) 3 := ⟨by decide +kernel, rfl⟩
theorem dX8_cough_40 : Dc MX8_cough 40 41 (.aload_n 0) 1 := ⟨by decide +kernel, rfl⟩
theorem dX8_cough_41 : Dc MX8_cough 41 44 (.getfield 38) 3 := ⟨by decide +kernel, rfl⟩
theorem dX8_cough_44 : Dc MX8_cough 44 45 (.iload_n 2) 1 := ⟨by decide +kernel, rfl⟩
theorem dX8_cough_45 : Dc MX8_cough 45 46 (.iaload) 1 := ⟨by decide +kernel, rfl⟩
theorem dX8_cough_46 : Dc MX8_cough 46 47 (.istore_n 3) 1 := ⟨by decide +kernel, rfl⟩
theorem dX8_cough_47 : Dc MX8_cough 47 48 (.aload_n 0) 1 := ⟨by decide +kernel, rfl⟩
theorem dX8_cough_48 : Dc MX8_cough 48 51 (.getfield 38) 3 := ⟨by decide +kernel, rfl⟩
theorem dX8_cough_51 : Dc MX8_cough 51 52 (.iload_n 2) 1 := ⟨by decide +kernel, rfl⟩
theorem dX8_cough_52 : Dc MX8_cough 52 53 (.dup2) 1 := ⟨by decide +kernel, rfl⟩
theorem dX8_cough_53 : Dc MX8_cough 53 54 (.iaload) 1 := ⟨by decide +kernel, rfl⟩
theorem dX8_cough_54 : Dc MX8_cough 54 55 (.iload_n 3) 1 := ⟨by decide +kernel, rfl⟩
theorem dX8_cough_55 : Dc MX8_cough 55 56 (.isub) 1 := ⟨by decide +kernel, rfl⟩
theorem dX8_cough_56 : Dc MX8_cough 56 57 (.iastore) 1 := ⟨by decide +kernel, rfl⟩
theorem dX8_cough_57 : Dc MX8_cough 57 58 (.aload_n 0) 1 := ⟨by decide +kernel, rfl⟩
theorem dX8_cough_58 : Dc MX8_cough 58 59 (.dup) 1 := ⟨by decide +kernel, rfl⟩
theorem dX8_cough_59 : Dc MX8_cough 59 62 (.getfield 104) 3 := ⟨by decide +kernel, rfl⟩
theorem dX8_cough_62 : Dc MX8_cough 62 63 (.iload_n 3) 1 := ⟨by decide +kernel, rfl⟩
theorem dX8_cough_63 : Dc MX8_cough 63 64 (.iadd) 1 := ⟨by decide +kernel, rfl⟩
theorem dX8_cough_64 : Dc MX8_cough 64 67 (.putfield 104) 3 := ⟨by decide +kernel, rfl⟩
theorem dX8_cough_67 : Dc MX8_cough 67 68 (.aload_n 0) 1 := ⟨by decide +kernel, rfl⟩
theorem dX8_cough_68 : Dc MX8_cough 68 69 (.dup) 1 := ⟨by decide +kernel, rfl⟩
theorem dX8_cough_69 : Dc MX8_cough 69 72 (.getfield 107) 3 := ⟨by decide +kernel, rfl⟩
theorem dX8_cough_72 : Dc MX8_cough 72 73 (.iload_n 3) 1 := ⟨by decide +kernel, rfl⟩
theorem dX8_cough_73 : Dc MX8_cough 73 74 (.iadd) 1 := ⟨by decide +kernel, rfl⟩
theorem dX8_cough_74 : Dc MX8_cough 74 77 (.putfield 107) 3 := ⟨by decide +kernel, rfl⟩
theorem dX8_cough_77 : Dc MX8_cough 77 78 (.return_) 1 := ⟨by decide +kernel, rfl⟩
theorem dX8_whyNot_0 : Dc MX8_whyNot 0 1 (.aload_n 0) 1 := ⟨by decide +kernel, rfl⟩
theorem dX8_whyNot_1 : Dc MX8_whyNot 1 2 (.iload_n 1) 1 := ⟨by decide +kernel, rfl⟩
theorem dX8_whyNot_2 : Dc MX8_whyNot 2 5 (.invokevirtual 119) 3 := ⟨by decide +kernel, rfl⟩
theorem dX8_whyNot_5 : Dc MX8_whyNot 5 8 (.ifCond .ne 7) 3 := ⟨by decide +kernel, rfl⟩
theorem dX8_whyNot_8 : Dc MX8_whyNot 8 9 (.iconst 1) 1 := ⟨by decide +kernel, rfl⟩
theorem dX8_whyNot_9 : Dc MX8_whyNot 9 12 (.goto 22) 3 := ⟨by decide +kernel, rfl⟩
theorem dX8_whyNot_12 : Dc MX8_whyNot 12 13 (.iload_n 2) 1 := ⟨by decide +kernel, rfl⟩
theorem dX8_whyNot_13 : Dc MX8_whyNot 13 15 (.bipush 115) 2 := ⟨by decide +kernel, rfl⟩
theorem dX8_whyNot_15 : Dc MX8_whyNot 15 18 (.if_icmp .ne 15) 3 := ⟨by decide +kernel, rfl⟩
theorem dX8_whyNot_18 : Dc MX8_whyNot 18 19 (.aload_n 0) 1 := ⟨by decide +kernel, rfl⟩
theorem dX8_whyNot_19 : Dc MX8_whyNot 19 20 (.iload_n 1) 1 := ⟨by decide +kernel, rfl⟩
theorem dX8_whyNot_20 : Dc MX8_whyNot 20 23 (.invokevirtual 122) 3 := ⟨by decide +kernel, rfl⟩
theorem dX8_whyNot_23 : Dc MX8_whyNot 23 26 (.ifCond .ne 7) 3 := ⟨by decide +kernel, rfl⟩
theorem dX8_whyNot_26 : Dc MX8_whyNot 26 27 (.iconst 2) 1 := ⟨by decide +kernel, rfl⟩
theorem dX8_whyNot_27 : Dc MX8_whyNot 27 30 (.goto 4) 3 := ⟨by decide +kernel, rfl⟩
theorem dX8_whyNot_30 : Dc MX8_whyNot 30 31 (.iconst 0) 1 := ⟨by decide +kernel, rfl⟩
theorem dX8_whyNot_31 : Dc MX8_whyNot 31 32 (.ireturn) 1 := ⟨by decide +kernel, rfl⟩
theorem dX8_goRides_0 : Dc MX8_goRides 0 1 (.aload_n 0) 1 := ⟨by decide +kernel, rfl⟩
theorem dX8_goRides_1 : Dc MX8_goRides 1 4 (.invokevirtual 125) 3 := ⟨by decide +kernel, rfl⟩
theorem dX8_goRides_4 : Dc MX8_goRides 4 5 (.aload_n 0) 1 := ⟨by decide +kernel, rfl⟩
theorem dX8_goRides_5 : Dc MX8_goRides 5 6 (.iconst 0) 1 := ⟨by decide +kernel, rfl⟩
theorem dX8_goRides_6 : Dc MX8_goRides 6 9 (.putfield 128) 3 := ⟨by decide +kernel, rfl⟩
theorem dX8_goRides_9 : Dc MX8_goRides 9 10 (.iconst 0) 1 := ⟨by decide +kernel, rfl⟩
theorem dX8_goRides_10 : Dc MX8_goRides 10 11 (.istore_n 1) 1 := ⟨by decide +kernel, rfl⟩
theorem dX8_goRides_11 : Dc MX8_goRides 11 12 (.iload_n 1) 1 := ⟨by decide +kernel, rfl⟩
theorem dX8_goRides_12 : Dc MX8_goRides 12 13 (.aload_n 0) 1 := ⟨by decide +kernel, rfl⟩
theorem dX8_goRides_13 : Dc MX8_goRides 13 16 (.getfield 85) 3 := ⟨by decide +kernel, rfl⟩
theorem dX8_goRides_16 : Dc MX8_goRides 16 19 (.if_icmp .ge 169) 3 := ⟨by decide +kernel, rfl⟩
theorem dX8_goRides_19 : Dc MX8_goRides 19 20 (.aload_n 0) 1 := ⟨by decide +kernel, rfl⟩
theorem dX8_goRides_20 : Dc MX8_goRides 20 21 (.iconst 0) 1 := ⟨by decide +kernel, rfl⟩
theorem dX8_goRides_21 : Dc MX8_goRides 21 24 (.putfield 131) 3 := ⟨by decide +kernel, rfl⟩
theorem dX8_goRides_24 : Dc MX8_goRides 24 25 (.aload_n 0) 1 := ⟨by decide +kernel, rfl⟩
theorem dX8_goRides_25 : Dc MX8_goRides 25 28 (.getfield 35) 3 := ⟨by decide +kernel, rfl⟩
theorem dX8_goRides_28 : Dc MX8_goRides 28 29 (.iload_n 1) 1 := ⟨by decide +kernel, rfl⟩
theorem dX8_goRides_29 : Dc MX8_goRides 29 30 (.iaload) 1 := ⟨by decide +kernel, rfl⟩
theorem dX8_goRides_30 : Dc MX8_goRides 30 32 (.bipush 46) 2 := ⟨by decide +kernel, rfl⟩
theorem dX8_goRides_32 : Dc MX8_goRides 32 35 (.if_icmp .ne 40) 3 := ⟨by decide +kernel, rfl⟩
theorem dX8_goRides_35 : Dc MX8_goRides 35 36 (.aload_n 0) 1 := ⟨by decide +kernel, rfl⟩
theorem dX8_goRides_36 : Dc MX8_goRides 36 37 (.aload_n 0) 1 := ⟨by decide +kernel, rfl⟩
theorem dX8_goRides_37 : Dc MX8_goRides 37 40 (.getfield 98) 3 := ⟨by decide +kernel, rfl⟩
theorem dX8_goRides_40 : Dc MX8_goRides 40 41 (.aload_n 0) 1 := ⟨by decide +kernel, rfl⟩
theorem dX8_goRides_41 : Dc MX8_goRides 41 44 (.getfield 7) 3 := ⟨by decide +kernel, rfl⟩
theorem dX8_goRides_44 : Dc MX8_goRides 44 47 (.if_icmp .ne 7) 3 := ⟨by decide +kernel, rfl⟩
theorem dX8_goRides_47 : Dc MX8_goRides 47 48 (.iconst 3) 1 := ⟨by decide +kernel, rfl⟩
theorem dX8_goRides_48 : Dc MX8_goRides 48 51 (.goto 4) 3 := ⟨by decide +kernel, rfl⟩
theorem dX8_goRides_51 : Dc MX8_goRides 51 52 (.iconst 0) 1 := ⟨by decide +kernel, rfl⟩
theorem dX8_goRides_52 : Dc MX8_goRides 52 55 (.putfield 131) 3 := ⟨by decide +kernel, rfl⟩
theorem dX8_goRides_55 : Dc MX8_goRides 55 56 (.aload_n 0) 1 := ⟨by decide +kernel, rfl⟩
theorem dX8_goRides_56 : Dc MX8_goRides 56 59 (.getfield 131) 3 := ⟨by decide +kernel, rfl⟩
theorem dX8_goRides_59 : Dc MX8_goRides 59 62 (.ifCond .ne 7) 3 := ⟨by decide +kernel, rfl⟩
theorem dX8_goRides_62 : Dc MX8_goRides 62 63 (.aload_n 0) 1 := ⟨by decide +kernel, rfl⟩
theorem dX8_goRides_63 : Dc MX8_goRides 63 66 (.invokevirtual 134) 3 := ⟨by decide +kernel, rfl⟩
theorem dX8_goRides_66 : Dc MX8_goRides 66 69 (.iinc 1 1) 3 := ⟨by decide +kernel, rfl⟩
theorem dX8_goRides_69 : Dc MX8_goRides 69 72 (.goto 91) 3 := ⟨by decide +kernel, rfl⟩
theorem dX8_goRides_72 : Dc MX8_goRides 72 73 (.aload_n 0) 1 := ⟨by decide +kernel, rfl⟩
theorem dX8_goRides_73 : Dc MX8_goRides 73 76 (.getfield 35) 3 := ⟨by decide +kernel, rfl⟩
theorem dX8_goRides_76 : Dc MX8_goRides 76 77 (.iload_n 1) 1 := ⟨by decide +kernel, rfl⟩
theorem dX8_goRides_77 : Dc MX8_goRides 77 78 (.iaload) 1 := ⟨by decide +kernel, rfl⟩
theorem dX8_goRides_78 : Dc MX8_goRides 78 80 (.bipush 65) 2 := ⟨by decide +kernel, rfl⟩
theorem dX8_goRides_80 : Dc MX8_goRides 80 81 (.isub) 1 := ⟨by decide +kernel, rfl⟩
theorem dX8_goRides_81 : Dc MX8_goRides 81 82 (.istore_n 2) 1 := ⟨by decide +kernel, rfl⟩
theorem dX8_goRides_82 : Dc MX8_goRides 82 83 (.aload_n 0) 1 := ⟨by decide +kernel, rfl⟩
theorem dX8_goRides_83 : Dc MX8_goRides 83 86 (.getfield 35) 3 := ⟨by decide +kernel, rfl⟩
theorem dX8_goRides_86 : Dc MX8_goRides 86 87 (.iload_n 1) 1 := ⟨by decide +kernel, rfl⟩
theorem dX8_goRides_87 : Dc MX8_goRides 87 88 (.iconst 1) 1 := ⟨by decide +kernel, rfl⟩
theorem dX8_goRides_88 : Dc MX8_goRides 88 89 (.iadd) 1 := ⟨by decide +kernel, rfl⟩
theorem dX8_goRides_89 : Dc MX8_goRides 89 90 (.iaload) 1 := ⟨by decide +kernel, rfl⟩
theorem dX8_goRides_90 : Dc MX8_goRides 90 91 (.istore_n 3) 1 := ⟨by decide +kernel, rfl⟩
theorem dX8_goRides_91 : Dc MX8_goRides 91 92 (.iload_n 3) 1 := ⟨by decide +kernel, rfl⟩
theorem dX8_goRides_92 : Dc MX8_goRides 92 95 (.invokestatic 91) 3 := ⟨by decide +kernel, rfl⟩
theorem dX8_goRides_95 : Dc MX8_goRides 95 98 (.ifCond .eq 34) 3 := ⟨by decide +kernel, rfl⟩
theorem dX8_goRides_98 : Dc MX8_goRides 98 99 (.aload_n 0) 1 := ⟨by decide +kernel, rfl⟩
theorem dX8_goRides_99 : Dc MX8_goRides 99 102 (.getfield 41) 3 := ⟨by decide +kernel, rfl⟩
theorem dX8_goRides_102 : Dc MX8_goRides 102 103 (.iload_n 2) 1 := ⟨by decide +kernel, rfl⟩
theorem dX8_goRides_103 : Dc MX8_goRides 103 105 (.bipush 10) 2 := ⟨by decide +kernel, rfl⟩
theorem dX8_goRides_105 : Dc MX8_goRides 105 106 (.iload_n 3) 1 := ⟨by decide +kernel, rfl⟩
theorem dX8_goRides_106 : Dc MX8_goRides 106 108 (.bipush 48) 2 := ⟨by decide +kernel, rfl⟩
theorem dX8_goRides_108 : Dc MX8_goRides 108 109 (.isub) 1 := ⟨by decide +kernel, rfl⟩
theorem dX8_goRides_109 : Dc MX8_goRides 109 110 (.imul) 1 := ⟨by decide +kernel, rfl⟩
theorem dX8_goRides_110 : Dc MX8_goRides 110 111 (.aload_n 0) 1 := ⟨by decide +kernel, rfl⟩
theorem dX8_goRides_111 : Dc MX8_goRides 111 114 (.getfield 35) 3 := ⟨by decide +kernel, rfl⟩
theorem dX8_goRides_114 : Dc MX8_goRides 114 115 (.iload_n 1) 1 := ⟨by decide +kernel, rfl⟩
theorem dX8_goRides_115 : Dc MX8_goRides 115 116 (.iconst 2) 1 := ⟨by decide +kernel, rfl⟩
theorem dX8_goRides_116 : Dc MX8_goRides 116 117 (.iadd) 1 := ⟨by decide +kernel, rfl⟩
theorem dX8_goRides_117 : Dc MX8_goRides 117 118 (.iaload) 1 := ⟨by decide +kernel, rfl⟩
theorem dX8_goRides_118 : Dc MX8_goRides 118 119 (.iadd) 1 := ⟨by decide +kernel, rfl⟩
theorem dX8_goRides_119 : Dc MX8_goRides 119 121 (.bipush 48) 2 := ⟨by decide +kernel, rfl⟩
theorem dX8_goRides_121 : Dc MX8_goRides 121 122 (.isub) 1 := ⟨by decide +kernel, rfl⟩
theorem dX8_goRides_122 : Dc MX8_goRides 122 123 (.iastore) 1 := ⟨by decide +kernel, rfl⟩
theorem dX8_goRides_123 : Dc MX8_goRides 123 126 (.iinc 1 3) 3 := ⟨by decide +kernel, rfl⟩
theorem dX8_goRides_126 : Dc MX8_goRides 126 129 (.goto 34) 3 := ⟨by decide +kernel, rfl⟩
theorem dX8_goRides_129 : Dc MX8_goRides 129 130 (.aload_n 0) 1 := ⟨by decide +kernel, rfl⟩
theorem dX8_goRides_130 : Dc MX8_goRides 130 131 (.aload_n 0) 1 := ⟨by decide +kernel, rfl⟩
theorem dX8_goRides_131 : Dc MX8_goRides 131 132 (.iload_n 2) 1 := ⟨by decide +kernel, rfl⟩
theorem dX8_goRides_132 : Dc MX8_goRides 132 133 (.iload_n 3) 1 := ⟨by decide +kernel, rfl⟩
theorem dX8_goRides_133 : Dc MX8_goRides 133 136 (.invokevirtual 137) 3 := ⟨by decide +kernel, rfl⟩
theorem dX8_goRides_136 : Dc MX8_goRides 136 139 (.putfield 131) 3 := ⟨by decide +kernel, rfl⟩
theorem dX8_goRides_139 : Dc MX8_goRides 139 140 (.aload_n 0) 1 := ⟨by decide +kernel, rfl⟩
theorem dX8_goRides_140 : Dc MX8_goRides 140 143 (.getfield 131) 3 := ⟨by decide +kernel, rfl⟩
theorem dX8_goRides_143 : Dc MX8_goRides 143 146 (.ifCond .ne 14) 3 := ⟨by decide +kernel, rfl⟩
theorem dX8_goRides_146 : Dc MX8_goRides 146 147 (.iload_n 3) 1 := ⟨by decide +kernel, rfl⟩
theorem dX8_goRides_147 : Dc MX8_goRides 147 149 (.bipush 99) 2 := ⟨by decide +kernel, rfl⟩
theorem dX8_goRides_149 : Dc MX8_goRides 149 152 (.if_icmp .ne 8) 3 := ⟨by decide +kernel, rfl⟩
theorem dX8_goRides_152 : Dc MX8_goRides 152 153 (.aload_n 0) 1 := ⟨by decide +kernel, rfl⟩
theorem dX8_goRides_153 : Dc MX8_goRides 153 154 (.iload_n 2) 1 := ⟨by decide +kernel, rfl⟩
theorem dX8_goRides_154 : Dc MX8_goRides 154 157 (.invokevirtual 141) 3 := ⟨by decide +kernel, rfl⟩
theorem dX8_goRides_157 : Dc MX8_goRides 157 160 (.iinc 1 2) 3 := ⟨by decide +kernel, rfl⟩
theorem dX8_goRides_160 : Dc MX8_goRides 160 161 (.aload_n 0) 1 := ⟨by decide +kernel, rfl⟩
theorem dX8_goRides_161 : Dc MX8_goRides 161 164 (.getfield 131) 3 := ⟨by decide +kernel, rfl⟩
theorem dX8_goRides_164 : Dc MX8_goRides 164 167 (.ifCond .le 8) 3 := ⟨by decide +kernel, rfl⟩
theorem dX8_goRides_167 : Dc MX8_goRides 167 168 (.aload_n 0) 1 := ⟨by decide +kernel, rfl⟩
theorem dX8_goRides_168 : Dc MX8_goRides 168 171 (.getfield 128) 3 := ⟨by decide +kernel, rfl⟩
theorem dX8_goRides_171 : Dc MX8_goRides 171 172 (.ireturn) 1 := ⟨by decide +kernel, rfl⟩
theorem dX8_goRides_172 : Dc MX8_goRides 172 173 (.aload_n 0) 1 := ⟨by decide +kernel, rfl⟩
theorem dX8_goRides_173 : Dc MX8_goRides 173 174 (.dup) 1 := ⟨by decide +kernel, rfl⟩
theorem dX8_goRides_174 : Dc MX8_goRides 174 177 (.getfield 128) 3 := ⟨by decide +kernel, rfl⟩
theorem dX8_goRides_177 : Dc MX8_goRides 177 178 (.iconst 1) 1 := ⟨by decide +kernel, rfl⟩
theorem dX8_goRides_178 : Dc MX8_goRides 178 179 (.iadd) 1 := ⟨by decide +kernel, rfl⟩
theorem dX8_goRides_179 : Dc MX8_goRides 179 182 (.putfield 128) 3 := ⟨by decide +kernel, rfl⟩
theorem dX8_goRides_182 : Dc MX8_goRides 182 185 (.goto (-171)) 3 := ⟨by decide +kernel, rfl⟩
theorem dX8_goRides_185 : Dc MX8_goRides 185 187 (.bipush (-6)) 2 := ⟨by decide +kernel, rfl⟩
theorem dX8_goRides_187 : Dc MX8_goRides 187 188 (.ireturn) 1 := ⟨by decide +kernel, rfl⟩
theorem dX8_judge_0 : Dc MX8_judge 0 1 (.iload_n 1) 1 := ⟨by decide +kernel, rfl⟩
theorem dX8_judge_1 : Dc MX8_judge 1 2 (.iconst 0) 1 := ⟨by decide +kernel, rfl⟩
theorem dX8_judge_2 : Dc MX8_judge 2 3 (.iconst 1) 1 := ⟨by decide +kernel, rfl⟩
theorem dX8_judge_3 : Dc MX8_judge 3 6 (.invokestatic 60) 3 := ⟨by decide +kernel, rfl⟩
theorem dX8_judge_6 : Dc MX8_judge 6 9 (.ifCond .ne 6) 3 := ⟨by decide +kernel, rfl⟩
theorem dX8_judge_9 : Dc MX8_judge 9 11 (.bipush (-2)) 2 := ⟨by decide +kernel, rfl⟩
theorem dX8_judge_11 : Dc MX8_judge 11 12 (.ireturn) 1 := ⟨by decide +kernel, rfl⟩
theorem dX8_judge_12 : Dc MX8_judge 12 13 (.aload_n 0) 1 := ⟨by decide +kernel, rfl⟩
theorem dX8_judge_13 : Dc MX8_judge 13 16 (.invokevirtual 94) 3 := ⟨by decide +kernel, rfl⟩
theorem dX8_judge_16 : Dc MX8_judge 16 19 (.ifCond .lt 6) 3 := ⟨by decide +kernel, rfl⟩
theorem dX8_judge_19 : Dc MX8_judge 19 21 (.bipush (-5)) 2 := ⟨by decide +kernel, rfl⟩
theorem dX8_judge_21 : Dc MX8_judge 21 22 (.ireturn) 1 := ⟨by decide +kernel, rfl⟩
theorem dX8_judge_22 : Dc MX8_judge 22 23 (.aload_n 0) 1 := ⟨by decide +kernel, rfl⟩
theorem dX8_judge_23 : Dc MX8_judge 23 26 (.invokevirtual 145) 3 := ⟨by decide +kernel, rfl⟩
theorem dX8_judge_26 : Dc MX8_judge 26 27 (.istore_n 2) 1 := ⟨by decide +kernel, rfl⟩
theorem dX8_judge_27 : Dc MX8_judge 27 28 (.iload_n 2) 1 := ⟨by decide +kernel, rfl⟩
theorem dX8_judge_28 : Dc MX8_judge 28 31 (.ifCond .lt 7) 3 := ⟨by decide +kernel, rfl⟩
theorem dX8_judge_31 : Dc MX8_judge 31 32 (.iload_n 1) 1 := ⟨by decide +kernel, rfl⟩
theorem dX8_judge_32 : Dc MX8_judge 32 35 (.ifCond .ne 7) 3 := ⟨by decide +kernel, rfl⟩
theorem dX8_judge_35 : Dc MX8_judge 35 36 (.iload_n 2) 1 := ⟨by decide +kernel, rfl⟩
theorem dX8_judge_36 : Dc MX8_judge 36 39 (.goto 7) 3 := ⟨by decide +kernel, rfl⟩
theorem dX8_judge_39 : Dc MX8_judge 39 40 (.aload_n 0) 1 := ⟨by decide +kernel, rfl⟩
theorem dX8_judge_40 : Dc MX8_judge 40 43 (.getfield 131) 3 := ⟨by decide +kernel, rfl⟩
theorem dX8_judge_43 : Dc MX8_judge 43 44 (.ireturn) 1 := ⟨by decide +kernel, rfl⟩
end
section
theorem dX8_barOfRides_0 : Dc MX8_barOfRides 0 1 (.aload_n 0) 1 := ⟨by decide +kernel, rfl⟩
theorem dX8_barOfRides_1 : Dc MX8_barOfRides 1 4 (.invokevirtual 94) 3 := ⟨by decide +kernel, rfl⟩
theorem dX8_barOfRides_4 : Dc MX8_barOfRides 4 7 (.ifCond .ge 10) 3 := ⟨by decide +kernel, rfl⟩
theorem dX8_barOfRides_7 : Dc MX8_barOfRides 7 8 (.aload_n 0) 1 := ⟨by decide +kernel, rfl⟩
theorem dX8_barOfRides_8 : Dc MX8_barOfRides 8 11 (.invokevirtual 145) 3 := ⟨by decide +kernel, rfl⟩
theorem dX8_barOfRides_11 : Dc MX8_barOfRides 11 14 (.ifCond .lt 8) 3 := ⟨by decide +kernel, rfl⟩
theorem dX8_barOfRides_14 : Dc MX8_barOfRides 14 16 (.bipush (-5)) 2 := ⟨by decide +kernel, rfl⟩
theorem dX8_barOfRides_16 : Dc MX8_barOfRides 16 19 (.goto 4) 3 := ⟨by decide +kernel, rfl⟩
theorem dX8_barOfRides_19 : Dc MX8_barOfRides 19 20 (.iconst 0) 1 := ⟨by decide +kernel, rfl⟩
theorem dX8_barOfRides_20 : Dc MX8_barOfRides 20 21 (.ireturn) 1 := ⟨by decide +kernel, rfl⟩
theorem dX8_done_0 : Dc MX8_done 0 1 (.aload_n 0) 1 := ⟨by decide +kernel, rfl⟩
theorem dX8_done_1 : Dc MX8_done 1 4 (.invokevirtual 148) 3 := ⟨by decide +kernel, rfl⟩
theorem dX8_done_4 : Dc MX8_done 4 7 (.ifCond .ge 6) 3 := ⟨by decide +kernel, rfl⟩
theorem dX8_done_7 : Dc MX8_done 7 9 (.bipush (-5)) 2 := ⟨by decide +kernel, rfl⟩
theorem dX8_done_9 : Dc MX8_done 9 10 (.ireturn) 1 := ⟨by decide +kernel, rfl⟩
theorem dX8_done_10 : Dc MX8_done 10 11 (.iconst 0) 1 := ⟨by decide +kernel, rfl⟩
theorem dX8_done_11 : Dc MX8_done 11 12 (.istore_n 1) 1 := ⟨by decide +kernel, rfl⟩
theorem dX8_done_12 : Dc MX8_done 12 13 (.iload_n 1) 1 := ⟨by decide +kernel, rfl⟩
theorem dX8_done_13 : Dc MX8_done 13 15 (.bipush 6) 2 := ⟨by decide +kernel, rfl⟩
theorem dX8_done_15 : Dc MX8_done 15 18 (.if_icmp .ge 33) 3 := ⟨by decide +kernel, rfl⟩
theorem dX8_done_18 : Dc MX8_done 18 19 (.aload_n 0) 1 := ⟨by decide +kernel, rfl⟩
theorem dX8_done_19 : Dc MX8_done 19 22 (.getfield 23) 3 := ⟨by decide +kernel, rfl⟩
theorem dX8_done_22 : Dc MX8_done 22 23 (.iload_n 1) 1 := ⟨by decide +kernel, rfl⟩
theorem dX8_done_23 : Dc MX8_done 23 24 (.aload_n 0) 1 := ⟨by decide +kernel, rfl⟩
theorem dX8_done_24 : Dc MX8_done 24 27 (.getfield 38) 3 := ⟨by decide +kernel, rfl⟩
theorem dX8_done_27 : Dc MX8_done 27 28 (.iload_n 1) 1 := ⟨by decide +kernel, rfl⟩
theorem dX8_done_28 : Dc MX8_done 28 29 (.iaload) 1 := ⟨by decide +kernel, rfl⟩
theorem dX8_done_29 : Dc MX8_done 29 30 (.iastore) 1 := ⟨by decide +kernel, rfl⟩
theorem dX8_done_30 : Dc MX8_done 30 31 (.aload_n 0) 1 := ⟨by decide +kernel, rfl⟩
theorem dX8_done_31 : Dc MX8_done 31 34 (.getfield 26) 3 := ⟨by decide +kernel, rfl⟩
theorem dX8_done_34 : Dc MX8_done 34 35 (.iload_n 1) 1 := ⟨by decide +kernel, rfl⟩
theorem dX8_done_35 : Dc MX8_done 35 36 (.aload_n 0) 1 := ⟨by decide +kernel, rfl⟩
theorem dX8_done_36 : Dc MX8_done 36 39 (.getfield 41) 3 := ⟨by decide +kernel, rfl⟩
theorem dX8_done_39 : Dc MX8_done 39 40 (.iload_n 1) 1 := ⟨by decide +kernel, rfl⟩
theorem dX8_done_40 : Dc MX8_done 40 41 (.iaload) 1 := ⟨by decide +kernel, rfl⟩
theorem dX8_done_41 : Dc MX8_done 41 42 (.iastore) 1 := ⟨by decide +kernel, rfl⟩
theorem dX8_done_42 : Dc MX8_done 42 45 (.iinc 1 1) 3 := ⟨by decide +kernel, rfl⟩
theorem dX8_done_45 : Dc MX8_done 45 48 (.goto (-33)) 3 := ⟨by decide +kernel, rfl⟩
theorem dX8_done_48 : Dc MX8_done 48 49 (.aload_n 0) 1 := ⟨by decide +kernel, rfl⟩
theorem dX8_done_49 : Dc MX8_done 49 50 (.aload_n 0) 1 := ⟨by decide +kernel, rfl⟩
theorem dX8_done_50 : Dc MX8_done 50 53 (.getfield 98) 3 := ⟨by decide +kernel, rfl⟩
theorem dX8_done_53 : Dc MX8_done 53 56 (.putfield 64) 3 := ⟨by decide +kernel, rfl⟩
theorem dX8_done_56 : Dc MX8_done 56 57 (.aload_n 0) 1 := ⟨by decide +kernel, rfl⟩
theorem dX8_done_57 : Dc MX8_done 57 58 (.aload_n 0) 1 := ⟨by decide +kernel, rfl⟩
theorem dX8_done_58 : Dc MX8_done 58 61 (.getfield 104) 3 := ⟨by decide +kernel, rfl⟩
theorem dX8_done_61 : Dc MX8_done 61 64 (.putfield 101) 3 := ⟨by decide +kernel, rfl⟩
theorem dX8_done_64 : Dc MX8_done 64 65 (.aload_n 0) 1 := ⟨by decide +kernel, rfl⟩
theorem dX8_done_65 : Dc MX8_done 65 66 (.iconst 0) 1 := ⟨by decide +kernel, rfl⟩
theorem dX8_done_66 : Dc MX8_done 66 69 (.putfield 85) 3 := ⟨by decide +kernel, rfl⟩
theorem dX8_done_69 : Dc MX8_done 69 70 (.aload_n 0) 1 := ⟨by decide +kernel, rfl⟩
theorem dX8_done_70 : Dc MX8_done 70 73 (.getfield 128) 3 := ⟨by decide +kernel, rfl⟩
theorem dX8_done_73 : Dc MX8_done 73 74 (.ireturn) 1 := ⟨by decide +kernel, rfl⟩
theorem dX8_behind_0 : Dc MX8_behind 0 1 (.iload_n 1) 1 := ⟨by decide +kernel, rfl⟩
theorem dX8_behind_1 : Dc MX8_behind 1 2 (.iconst 0) 1 := ⟨by decide +kernel, rfl⟩
theorem dX8_behind_2 : Dc MX8_behind 2 4 (.bipush 8) 2 := ⟨by decide +kernel, rfl⟩
theorem dX8_behind_4 : Dc MX8_behind 4 7 (.invokestatic 60) 3 := ⟨by decide +kernel, rfl⟩
theorem dX8_behind_7 : Dc MX8_behind 7 10 (.ifCond .ne 6) 3 := ⟨by decide +kernel, rfl⟩
theorem dX8_behind_10 : Dc MX8_behind 10 12 (.bipush (-2)) 2 := ⟨by decide +kernel, rfl⟩
theorem dX8_behind_12 : Dc MX8_behind 12 13 (.ireturn) 1 := ⟨by decide +kernel, rfl⟩
theorem dX8_behind_13 : Dc MX8_behind 13 14 (.aload_n 0) 1 := ⟨by decide +kernel, rfl⟩
theorem dX8_behind_14 : Dc MX8_behind 14 17 (.invokevirtual 148) 3 := ⟨by decide +kernel, rfl⟩
theorem dX8_behind_17 : Dc MX8_behind 17 20 (.ifCond .ge 6) 3 := ⟨by decide +kernel, rfl⟩
theorem dX8_behind_20 : Dc MX8_behind 20 22 (.bipush (-5)) 2 := ⟨by decide +kernel, rfl⟩
theorem dX8_behind_22 : Dc MX8_behind 22 23 (.ireturn) 1 := ⟨by decide +kernel, rfl⟩
theorem dX8_behind_23 : Dc MX8_behind 23 24 (.iload_n 1) 1 := ⟨by decide +kernel, rfl⟩
theorem dX8_behind_24 : Dc MX8_behind 24 26 (.bipush 6) 2 := ⟨by decide +kernel, rfl⟩
theorem dX8_behind_26 : Dc MX8_behind 26 29 (.if_icmp .ge 12) 3 := ⟨by decide +kernel, rfl⟩
theorem dX8_behind_29 : Dc MX8_behind 29 30 (.aload_n 0) 1 := ⟨by decide +kernel, rfl⟩
theorem dX8_behind_30 : Dc MX8_behind 30 33 (.getfield 38) 3 := ⟨by decide +kernel, rfl⟩
theorem dX8_behind_33 : Dc MX8_behind 33 34 (.iload_n 1) 1 := ⟨by decide +kernel, rfl⟩
theorem dX8_behind_34 : Dc MX8_behind 34 35 (.iaload) 1 := ⟨by decide +kernel, rfl⟩
theorem dX8_behind_35 : Dc MX8_behind 35 38 (.goto 33) 3 := ⟨by decide +kernel, rfl⟩
theorem dX8_behind_38 : Dc MX8_behind 38 39 (.iload_n 1) 1 := ⟨by decide +kernel, rfl⟩
theorem dX8_behind_39 : Dc MX8_behind 39 41 (.bipush 6) 2 := ⟨by decide +kernel, rfl⟩
theorem dX8_behind_41 : Dc MX8_behind 41 44 (.if_icmp .ne 10) 3 := ⟨by decide +kernel, rfl⟩
theorem dX8_behind_44 : Dc MX8_behind 44 45 (.aload_n 0) 1 := ⟨by decide +kernel, rfl⟩
theorem dX8_behind_45 : Dc MX8_behind 45 48 (.getfield 104) 3 := ⟨by decide +kernel, rfl⟩
theorem dX8_behind_48 : Dc MX8_behind 48 51 (.goto 20) 3 := ⟨by decide +kernel, rfl⟩
theorem dX8_behind_51 : Dc MX8_behind 51 52 (.iload_n 1) 1 := ⟨by decide +kernel, rfl⟩
theorem dX8_behind_52 : Dc MX8_behind 52 54 (.bipush 7) 2 := ⟨by decide +kernel, rfl⟩
theorem dX8_behind_54 : Dc MX8_behind 54 57 (.if_icmp .ne 10) 3 := ⟨by decide +kernel, rfl⟩
theorem dX8_behind_57 : Dc MX8_behind 57 58 (.aload_n 0) 1 := ⟨by decide +kernel, rfl⟩
theorem dX8_behind_58 : Dc MX8_behind 58 61 (.getfield 98) 3 := ⟨by decide +kernel, rfl⟩
theorem dX8_behind_61 : Dc MX8_behind 61 64 (.goto 7) 3 := ⟨by decide +kernel, rfl⟩
theorem dX8_behind_64 : Dc MX8_behind 64 65 (.aload_n 0) 1 := ⟨by decide +kernel, rfl⟩
theorem dX8_behind_65 : Dc MX8_behind 65 68 (.getfield 107) 3 := ⟨by decide +kernel, rfl⟩
theorem dX8_behind_68 : Dc MX8_behind 68 69 (.ireturn) 1 := ⟨by decide +kernel, rfl⟩
theorem dX8_holds_0 : Dc MX8_holds 0 1 (.iload_n 1) 1 := ⟨by decide +kernel, rfl⟩
theorem dX8_holds_1 : Dc MX8_holds 1 4 (.invokestatic 82) 3 := ⟨by decide +kernel, rfl⟩
theorem dX8_holds_4 : Dc MX8_holds 4 7 (.ifCond .ne 5) 3 := ⟨by decide +kernel, rfl⟩
theorem dX8_holds_7 : Dc MX8_holds 7 8 (.iconst (-1)) 1 := ⟨by decide +kernel, rfl⟩
theorem dX8_holds_8 : Dc MX8_holds 8 9 (.ireturn) 1 := ⟨by decide +kernel, rfl⟩
theorem dX8_holds_9 : Dc MX8_holds 9 10 (.aload_n 0) 1 := ⟨by decide +kernel, rfl⟩
theorem dX8_holds_10 : Dc MX8_holds 10 13 (.invokevirtual 125) 3 := ⟨by decide +kernel, rfl⟩
theorem dX8_holds_13 : Dc MX8_holds 13 14 (.aload_n 0) 1 := ⟨by decide +kernel, rfl⟩
theorem dX8_holds_14 : Dc MX8_holds 14 15 (.iload_n 1) 1 := ⟨by decide +kernel, rfl⟩
theorem dX8_holds_15 : Dc MX8_holds 15 18 (.invokevirtual 116) 3 := ⟨by decide +kernel, rfl⟩
theorem dX8_holds_18 : Dc MX8_holds 18 19 (.ireturn) 1 := ⟨by decide +kernel, rfl⟩
theorem dX8_hears_0 : Dc MX8_hears 0 1 (.iload_n 1) 1 := ⟨by decide +kernel, rfl⟩
theorem dX8_hears_1 : Dc MX8_hears 1 4 (.invokestatic 74) 3 := ⟨by decide +kernel, rfl⟩
theorem dX8_hears_4 : Dc MX8_hears 4 7 (.ifCond .ne 5) 3 := ⟨by decide +kernel, rfl⟩
theorem dX8_hears_7 : Dc MX8_hears 7 8 (.iconst (-1)) 1 := ⟨by decide +kernel, rfl⟩
theorem dX8_hears_8 : Dc MX8_hears 8 9 (.ireturn) 1 := ⟨by decide +kernel, rfl⟩
theorem dX8_hears_9 : Dc MX8_hears 9 10 (.aload_n 0) 1 := ⟨by decide +kernel, rfl⟩
theorem dX8_hears_10 : Dc MX8_hears 10 13 (.invokevirtual 125) 3 := ⟨by decide +kernel, rfl⟩
theorem dX8_hears_13 : Dc MX8_hears 13 14 (.aload_n 0) 1 := ⟨by decide +kernel, rfl⟩
theorem dX8_hears_14 : Dc MX8_hears 14 15 (.iload_n 1) 1 := ⟨by decide +kernel, rfl⟩
theorem dX8_hears_15 : Dc MX8_hears 15 18 (.invokevirtual 122) 3 := ⟨by decide +kernel, rfl⟩
theorem dX8_hears_18 : Dc MX8_hears 18 21 (.ifCond .ne 6) 3 := ⟨by decide +kernel, rfl⟩
theorem dX8_hears_21 : Dc MX8_hears 21 23 (.bipush (-6)) 2 := ⟨by decide +kernel, rfl⟩
theorem dX8_hears_23 : Dc MX8_hears 23 24 (.ireturn) 1 := ⟨by decide +kernel, rfl⟩
theorem dX8_hears_24 : Dc MX8_hears 24 25 (.iconst 0) 1 := ⟨by decide +kernel, rfl⟩
theorem dX8_hears_25 : Dc MX8_hears 25 26 (.istore_n 2) 1 := ⟨by decide +kernel, rfl⟩
theorem dX8_hears_26 : Dc MX8_hears 26 27 (.iconst 0) 1 := ⟨by decide +kernel, rfl⟩
theorem dX8_hears_27 : Dc MX8_hears 27 28 (.istore_n 3) 1 := ⟨by decide +kernel, rfl⟩
theorem dX8_hears_28 : Dc MX8_hears 28 29 (.iload_n 3) 1 := ⟨by decide +kernel, rfl⟩
theorem dX8_hears_29 : Dc MX8_hears 29 31 (.bipush 6) 2 := ⟨by decide +kernel, rfl⟩
theorem dX8_hears_31 : Dc MX8_hears 31 34 (.if_icmp .ge 47) 3 := ⟨by decide +kernel, rfl⟩
theorem dX8_hears_34 : Dc MX8_hears 34 35 (.iload_n 2) 1 := ⟨by decide +kernel, rfl⟩
theorem dX8_hears_35 : Dc MX8_hears 35 36 (.iload_n 3) 1 := ⟨by decide +kernel, rfl⟩
theorem dX8_hears_36 : Dc MX8_hears 36 37 (.iload_n 1) 1 := ⟨by decide +kernel, rfl⟩
theorem dX8_hears_37 : Dc MX8_hears 37 40 (.if_icmp .eq 32) 3 := ⟨by decide +kernel, rfl⟩
theorem dX8_hears_40 : Dc MX8_hears 40 41 (.aload_n 0) 1 := ⟨by decide +kernel, rfl⟩
theorem dX8_hears_41 : Dc MX8_hears 41 42 (.iload_n 3) 1 := ⟨by decide +kernel, rfl⟩
theorem dX8_hears_42 : Dc MX8_hears 42 45 (.invokevirtual 119) 3 := ⟨by decide +kernel, rfl⟩
theorem dX8_hears_45 : Dc MX8_hears 45 48 (.ifCond .eq 24) 3 := ⟨by decide +kernel, rfl⟩
theorem dX8_hears_48 : Dc MX8_hears 48 49 (.aload_n 0) 1 := ⟨by decide +kernel, rfl⟩
theorem dX8_hears_49 : Dc MX8_hears 49 52 (.getfield 20) 3 := ⟨by decide +kernel, rfl⟩
theorem dX8_hears_52 : Dc MX8_hears 52 53 (.iload_n 3) 1 := ⟨by decide +kernel, rfl⟩
theorem dX8_hears_53 : Dc MX8_hears 53 54 (.iaload) 1 := ⟨by decide +kernel, rfl⟩
theorem dX8_hears_54 : Dc MX8_hears 54 55 (.aload_n 0) 1 := ⟨by decide +kernel, rfl⟩
theorem dX8_hears_55 : Dc MX8_hears 55 58 (.getfield 20) 3 := ⟨by decide +kernel, rfl⟩
theorem dX8_hears_58 : Dc MX8_hears 58 59 (.iload_n 1) 1 := ⟨by decide +kernel, rfl⟩
theorem dX8_hears_59 : Dc MX8_hears 59 60 (.iaload) 1 := ⟨by decide +kernel, rfl⟩
theorem dX8_hears_60 : Dc MX8_hears 60 63 (.if_icmp .ne 9) 3 := ⟨by decide +kernel, rfl⟩
theorem dX8_hears_63 : Dc MX8_hears 63 64 (.iconst 1) 1 := ⟨by decide +kernel, rfl⟩
theorem dX8_hears_64 : Dc MX8_hears 64 65 (.iload_n 3) 1 := ⟨by decide +kernel, rfl⟩
theorem dX8_hears_65 : Dc MX8_hears 65 66 (.ishl) 1 := ⟨by decide +kernel, rfl⟩
theorem dX8_hears_66 : Dc MX8_hears 66 69 (.goto 4) 3 := ⟨by decide +kernel, rfl⟩
theorem dX8_hears_69 : Dc MX8_hears 69 70 (.iconst 0) 1 := ⟨by decide +kernel, rfl⟩
theorem dX8_hears_70 : Dc MX8_hears 70 71 (.ior) 1 := ⟨by decide +kernel, rfl⟩
theorem dX8_hears_71 : Dc MX8_hears 71 72 (.istore_n 2) 1 := ⟨by decide +kernel, rfl⟩
theorem dX8_hears_72 : Dc MX8_hears 72 75 (.iinc 3 1) 3 := ⟨by decide +kernel, rfl⟩
theorem dX8_hears_75 : Dc MX8_hears 75 78 (.goto (-47)) 3 := ⟨by decide +kernel, rfl⟩
theorem dX8_hears_78 : Dc MX8_hears 78 79 (.iload_n 2) 1 := ⟨by decide +kernel, rfl⟩
theorem dX8_hears_79 : Dc MX8_hears 79 80 (.ireturn) 1 := ⟨by decide +kernel, rfl⟩
theorem dX8_forecast_0 : Dc MX8_forecast 0 1 (.iload_n 1) 1 := ⟨by decide +kernel, rfl⟩
theorem dX8_forecast_1 : Dc MX8_forecast 1 4 (.invokestatic 82) 3 := ⟨by decide +kernel, rfl⟩
theorem dX8_forecast_4 : Dc MX8_forecast 4 7 (.ifCond .ne 5) 3 := ⟨by decide +kernel, rfl⟩
theorem dX8_forecast_7 : Dc MX8_forecast 7 8 (.iconst (-1)) 1 := ⟨by decide +kernel, rfl⟩
theorem dX8_forecast_8 : Dc MX8_forecast 8 9 (.ireturn) 1 := ⟨by decide +kernel, rfl⟩
theorem dX8_forecast_9 : Dc MX8_forecast 9 10 (.iload_n 2) 1 := ⟨by decide +kernel, rfl⟩
theorem dX8_forecast_10 : Dc MX8_forecast 10 11 (.iconst 0) 1 := ⟨by decide +kernel, rfl⟩
theorem dX8_forecast_11 : Dc MX8_forecast 11 13 (.bipush 30) 2 := ⟨by decide +kernel, rfl⟩
theorem dX8_forecast_13 : Dc MX8_forecast 13 16 (.invokestatic 60) 3 := ⟨by decide +kernel, rfl⟩
theorem dX8_forecast_16 : Dc MX8_forecast 16 19 (.ifCond .ne 6) 3 := ⟨by decide +kernel, rfl⟩
theorem dX8_forecast_19 : Dc MX8_forecast 19 21 (.bipush (-2)) 2 := ⟨by decide +kernel, rfl⟩
theorem dX8_forecast_21 : Dc MX8_forecast 21 22 (.ireturn) 1 := ⟨by decide +kernel, rfl⟩
theorem dX8_forecast_22 : Dc MX8_forecast 22 23 (.aload_n 0) 1 := ⟨by decide +kernel, rfl⟩
theorem dX8_forecast_23 : Dc MX8_forecast 23 26 (.invokevirtual 125) 3 := ⟨by decide +kernel, rfl⟩
theorem dX8_forecast_26 : Dc MX8_forecast 26 27 (.iconst 0) 1 := ⟨by decide +kernel, rfl⟩
theorem dX8_forecast_27 : Dc MX8_forecast 27 28 (.istore_n 3) 1 := ⟨by decide +kernel, rfl⟩
theorem dX8_forecast_28 : Dc MX8_forecast 28 29 (.iload_n 3) 1 := ⟨by decide +kernel, rfl⟩
theorem dX8_forecast_29 : Dc MX8_forecast 29 30 (.iload_n 2) 1 := ⟨by decide +kernel, rfl⟩
theorem dX8_forecast_30 : Dc MX8_forecast 30 33 (.if_icmp .ge 24) 3 := ⟨by decide +kernel, rfl⟩
theorem dX8_forecast_33 : Dc MX8_forecast 33 34 (.aload_n 0) 1 := ⟨by decide +kernel, rfl⟩
theorem dX8_forecast_34 : Dc MX8_forecast 34 37 (.getfield 98) 3 := ⟨by decide +kernel, rfl⟩
theorem dX8_forecast_37 : Dc MX8_forecast 37 38 (.aload_n 0) 1 := ⟨by decide +kernel, rfl⟩
theorem dX8_forecast_38 : Dc MX8_forecast 38 41 (.getfield 7) 3 := ⟨by decide +kernel, rfl⟩
theorem dX8_forecast_41 : Dc MX8_forecast 41 44 (.if_icmp .ge 13) 3 := ⟨by decide +kernel, rfl⟩
theorem dX8_forecast_44 : Dc MX8_forecast 44 45 (.aload_n 0) 1 := ⟨by decide +kernel, rfl⟩
theorem dX8_forecast_45 : Dc MX8_forecast 45 48 (.invokevirtual 134) 3 := ⟨by decide +kernel, rfl⟩
theorem dX8_forecast_48 : Dc MX8_forecast 48 51 (.iinc 3 1) 3 := ⟨by decide +kernel, rfl⟩
theorem dX8_forecast_51 : Dc MX8_forecast 51 54 (.goto (-23)) 3 := ⟨by decide +kernel, rfl⟩
theorem dX8_forecast_54 : Dc MX8_forecast 54 55 (.aload_n 0) 1 := ⟨by decide +kernel, rfl⟩
theorem dX8_forecast_55 : Dc MX8_forecast 55 56 (.iload_n 1) 1 := ⟨by decide +kernel, rfl⟩
theorem dX8_forecast_56 : Dc MX8_forecast 56 59 (.invokevirtual 116) 3 := ⟨by decide +kernel, rfl⟩
theorem dX8_forecast_59 : Dc MX8_forecast 59 60 (.ireturn) 1 := ⟨by decide +kernel, rfl⟩
theorem dX8_toEnd_0 : Dc MX8_toEnd 0 1 (.aload_n 0) 1 := ⟨by decide +kernel, rfl⟩
theorem dX8_toEnd_1 : Dc MX8_toEnd 1 4 (.getfield 98) 3 := ⟨by decide +kernel, rfl⟩
theorem dX8_toEnd_4 : Dc MX8_toEnd 4 5 (.aload_n 0) 1 := ⟨by decide +kernel, rfl⟩
theorem dX8_toEnd_5 : Dc MX8_toEnd 5 8 (.getfield 7) 3 := ⟨by decide +kernel, rfl⟩
theorem dX8_toEnd_8 : Dc MX8_toEnd 8 11 (.if_icmp .ge 10) 3 := ⟨by decide +kernel, rfl⟩
theorem dX8_toEnd_11 : Dc MX8_toEnd 11 12 (.aload_n 0) 1 := ⟨by decide +kernel, rfl⟩
theorem dX8_toEnd_12 : Dc MX8_toEnd 12 15 (.invokevirtual 134) 3 := ⟨by decide +kernel, rfl⟩
theorem dX8_toEnd_15 : Dc MX8_toEnd 15 18 (.goto (-15)) 3 := ⟨by decide +kernel, rfl⟩
theorem dX8_toEnd_18 : Dc MX8_toEnd 18 19 (.return_) 1 := ⟨by decide +kernel, rfl⟩
theorem dX8_rests_0 : Dc MX8_rests 0 1 (.iload_n 1) 1 := ⟨by decide +kernel, rfl⟩
theorem dX8_rests_1 : Dc MX8_rests 1 4 (.invokestatic 74) 3 := ⟨by decide +kernel, rfl⟩
theorem dX8_rests_4 : Dc MX8_rests 4 7 (.ifCond .ne 5) 3 := ⟨by decide +kernel, rfl⟩
theorem dX8_rests_7 : Dc MX8_rests 7 8 (.iconst (-1)) 1 := ⟨by decide +kernel, rfl⟩
theorem dX8_rests_8 : Dc MX8_rests 8 9 (.ireturn) 1 := ⟨by decide +kernel, rfl⟩
theorem dX8_rests_9 : Dc MX8_rests 9 10 (.aload_n 0) 1 := ⟨by decide +kernel, rfl⟩
theorem dX8_rests_10 : Dc MX8_rests 10 13 (.invokevirtual 125) 3 := ⟨by decide +kernel, rfl⟩
theorem dX8_rests_13 : Dc MX8_rests 13 14 (.aload_n 0) 1 := ⟨by decide +kernel, rfl⟩
theorem dX8_rests_14 : Dc MX8_rests 14 17 (.invokevirtual 151) 3 := ⟨by decide +kernel, rfl⟩
theorem dX8_rests_17 : Dc MX8_rests 17 18 (.aload_n 0) 1 := ⟨by decide +kernel, rfl⟩
theorem dX8_rests_18 : Dc MX8_rests 18 21 (.getfield 38) 3 := ⟨by decide +kernel, rfl⟩
theorem dX8_rests_21 : Dc MX8_rests 21 22 (.iload_n 1) 1 := ⟨by decide +kernel, rfl⟩
theorem dX8_rests_22 : Dc MX8_rests 22 23 (.iaload) 1 := ⟨by decide +kernel, rfl⟩
theorem dX8_rests_23 : Dc MX8_rests 23 24 (.ireturn) 1 := ⟨by decide +kernel, rfl⟩
theorem dX8_talks_0 : Dc MX8_talks 0 1 (.iload_n 1) 1 := ⟨by decide +kernel, rfl⟩
theorem dX8_talks_1 : Dc MX8_talks 1 4 (.invokestatic 74) 3 := ⟨by decide +kernel, rfl⟩
theorem dX8_talks_4 : Dc MX8_talks 4 7 (.ifCond .eq 15) 3 := ⟨by decide +kernel, rfl⟩
theorem dX8_talks_7 : Dc MX8_talks 7 8 (.iload_n 2) 1 := ⟨by decide +kernel, rfl⟩
theorem dX8_talks_8 : Dc MX8_talks 8 11 (.invokestatic 74) 3 := ⟨by decide +kernel, rfl⟩
theorem dX8_talks_11 : Dc MX8_talks 11 14 (.ifCond .eq 8) 3 := ⟨by decide +kernel, rfl⟩
theorem dX8_talks_14 : Dc MX8_talks 14 15 (.iload_n 1) 1 := ⟨by decide +kernel, rfl⟩
theorem dX8_talks_15 : Dc MX8_talks 15 16 (.iload_n 2) 1 := ⟨by decide +kernel, rfl⟩
theorem dX8_talks_16 : Dc MX8_talks 16 19 (.if_icmp .ne 5) 3 := ⟨by decide +kernel, rfl⟩
theorem dX8_talks_19 : Dc MX8_talks 19 20 (.iconst (-1)) 1 := ⟨by decide +kernel, rfl⟩
theorem dX8_talks_20 : Dc MX8_talks 20 21 (.ireturn) 1 := ⟨by decide +kernel, rfl⟩
theorem dX8_talks_21 : Dc MX8_talks 21 22 (.aload_n 0) 1 := ⟨by decide +kernel, rfl⟩
theorem dX8_talks_22 : Dc MX8_talks 22 25 (.invokevirtual 125) 3 := ⟨by decide +kernel, rfl⟩
theorem dX8_talks_25 : Dc MX8_talks 25 26 (.iconst 0) 1 := ⟨by decide +kernel, rfl⟩
theorem dX8_talks_26 : Dc MX8_talks 26 27 (.istore_n 3) 1 := ⟨by decide +kernel, rfl⟩
theorem dX8_talks_27 : Dc MX8_talks 27 28 (.aload_n 0) 1 := ⟨by decide +kernel, rfl⟩
theorem dX8_talks_28 : Dc MX8_talks 28 31 (.getfield 98) 3 := ⟨by decide +kernel, rfl⟩
theorem dX8_talks_31 : Dc MX8_talks 31 32 (.aload_n 0) 1 := ⟨by decide +kernel, rfl⟩
theorem dX8_talks_32 : Dc MX8_talks 32 35 (.getfield 7) 3 := ⟨by decide +kernel, rfl⟩
theorem dX8_talks_35 : Dc MX8_talks 35 38 (.if_icmp .ge 49) 3 := ⟨by decide +kernel, rfl⟩
theorem dX8_talks_38 : Dc MX8_talks 38 39 (.iload_n 3) 1 := ⟨by decide +kernel, rfl⟩
theorem dX8_talks_39 : Dc MX8_talks 39 40 (.aload_n 0) 1 := ⟨by decide +kernel, rfl⟩
theorem dX8_talks_40 : Dc MX8_talks 40 41 (.iload_n 1) 1 := ⟨by decide +kernel, rfl⟩
theorem dX8_talks_41 : Dc MX8_talks 41 44 (.invokevirtual 122) 3 := ⟨by decide +kernel, rfl⟩
theorem dX8_talks_44 : Dc MX8_talks 44 47 (.ifCond .eq 30) 3 := ⟨by decide +kernel, rfl⟩
theorem dX8_talks_47 : Dc MX8_talks 47 48 (.aload_n 0) 1 := ⟨by decide +kernel, rfl⟩
theorem dX8_talks_48 : Dc MX8_talks 48 49 (.iload_n 2) 1 := ⟨by decide +kernel, rfl⟩
theorem dX8_talks_49 : Dc MX8_talks 49 52 (.invokevirtual 119) 3 := ⟨by decide +kernel, rfl⟩
theorem dX8_talks_52 : Dc MX8_talks 52 55 (.ifCond .eq 22) 3 := ⟨by decide +kernel, rfl⟩
theorem dX8_talks_55 : Dc MX8_talks 55 56 (.aload_n 0) 1 := ⟨by decide +kernel, rfl⟩
theorem dX8_talks_56 : Dc MX8_talks 56 59 (.getfield 20) 3 := ⟨by decide +kernel, rfl⟩
theorem dX8_talks_59 : Dc MX8_talks 59 60 (.iload_n 1) 1 := ⟨by decide +kernel, rfl⟩
theorem dX8_talks_60 : Dc MX8_talks 60 61 (.iaload) 1 := ⟨by decide +kernel, rfl⟩
theorem dX8_talks_61 : Dc MX8_talks 61 62 (.aload_n 0) 1 := ⟨by decide +kernel, rfl⟩
theorem dX8_talks_62 : Dc MX8_talks 62 65 (.getfield 20) 3 := ⟨by decide +kernel, rfl⟩
theorem dX8_talks_65 : Dc MX8_talks 65 66 (.iload_n 2) 1 := ⟨by decide +kernel, rfl⟩
theorem dX8_talks_66 : Dc MX8_talks 66 67 (.iaload) 1 := ⟨by decide +kernel, rfl⟩
theorem dX8_talks_67 : Dc MX8_talks 67 70 (.if_icmp .ne 7) 3 := ⟨by decide +kernel, rfl⟩
theorem dX8_talks_70 : Dc MX8_talks 70 71 (.iconst 1) 1 := ⟨by decide +kernel, rfl⟩
theorem dX8_talks_71 : Dc MX8_talks 71 74 (.goto 4) 3 := ⟨by decide +kernel, rfl⟩
theorem dX8_talks_74 : Dc MX8_talks 74 75 (.iconst 0) 1 := ⟨by decide +kernel, rfl⟩
theorem dX8_talks_75 : Dc MX8_talks 75 76 (.iadd) 1 := ⟨by decide +kernel, rfl⟩
theorem dX8_talks_76 : Dc MX8_talks 76 77 (.istore_n 3) 1 := ⟨by decide +kernel, rfl⟩
theorem dX8_talks_77 : Dc MX8_talks 77 78 (.aload_n 0) 1 := ⟨by decide +kernel, rfl⟩
theorem dX8_talks_78 : Dc MX8_talks 78 81 (.invokevirtual 134) 3 := ⟨by decide +kernel, rfl⟩
theorem dX8_talks_81 : Dc MX8_talks 81 84 (.goto (-54)) 3 := ⟨by decide +kernel, rfl⟩
theorem dX8_talks_84 : Dc MX8_talks 84 85 (.iload_n 3) 1 := ⟨by decide +kernel, rfl⟩
theorem dX8_talks_85 : Dc MX8_talks 85 86 (.ireturn) 1 := ⟨by decide +kernel, rfl⟩
theorem dX8_buy_0 : Dc MX8_buy 0 1 (.iload_n 1) 1 := ⟨by decide +kernel, rfl⟩
theorem dX8_buy_1 : Dc MX8_buy 1 4 (.invokestatic 74) 3 := ⟨by decide +kernel, rfl⟩
theorem dX8_buy_4 : Dc MX8_buy 4 7 (.ifCond .ne 5) 3 := ⟨by decide +kernel, rfl⟩
theorem dX8_buy_7 : Dc MX8_buy 7 8 (.iconst (-1)) 1 := ⟨by decide +kernel, rfl⟩
theorem dX8_buy_8 : Dc MX8_buy 8 9 (.ireturn) 1 := ⟨by decide +kernel, rfl⟩
theorem dX8_buy_9 : Dc MX8_buy 9 10 (.iload_n 2) 1 := ⟨by decide +kernel, rfl⟩
theorem dX8_buy_10 : Dc MX8_buy 10 11 (.iconst 0) 1 := ⟨by decide +kernel, rfl⟩
theorem dX8_buy_11 : Dc MX8_buy 11 12 (.iconst 1) 1 := ⟨by decide +kernel, rfl⟩
theorem dX8_buy_12 : Dc MX8_buy 12 15 (.invokestatic 60) 3 := ⟨by decide +kernel, rfl⟩
theorem dX8_buy_15 : Dc MX8_buy 15 18 (.ifCond .ne 6) 3 := ⟨by decide +kernel, rfl⟩
theorem dX8_buy_18 : Dc MX8_buy 18 20 (.bipush (-2)) 2 := ⟨by decide +kernel, rfl⟩
theorem dX8_buy_20 : Dc MX8_buy 20 21 (.ireturn) 1 := ⟨by decide +kernel, rfl⟩
theorem dX8_buy_21 : Dc MX8_buy 21 22 (.iconst 1) 1 := ⟨by decide +kernel, rfl⟩
theorem dX8_buy_22 : Dc MX8_buy 22 23 (.istore_n 3) 1 := ⟨by decide +kernel, rfl⟩
theorem dX8_buy_23 : Dc MX8_buy 23 24 (.iload_n 3) 1 := ⟨by decide +kernel, rfl⟩
theorem dX8_buy_24 : Dc MX8_buy 24 26 (.bipush 100) 2 := ⟨by decide +kernel, rfl⟩
theorem dX8_buy_26 : Dc MX8_buy 26 29 (.if_icmp .ge 134) 3 := ⟨by decide +kernel, rfl⟩
theorem dX8_buy_29 : Dc MX8_buy 29 30 (.aload_n 0) 1 := ⟨by decide +kernel, rfl⟩
theorem dX8_buy_30 : Dc MX8_buy 30 33 (.invokevirtual 125) 3 := ⟨by decide +kernel, rfl⟩
theorem dX8_buy_33 : Dc MX8_buy 33 34 (.aload_n 0) 1 := ⟨by decide +kernel, rfl⟩
theorem dX8_buy_34 : Dc MX8_buy 34 37 (.getfield 41) 3 := ⟨by decide +kernel, rfl⟩
theorem dX8_buy_37 : Dc MX8_buy 37 38 (.iload_n 1) 1 := ⟨by decide +kernel, rfl⟩
theorem dX8_buy_38 : Dc MX8_buy 38 39 (.iload_n 3) 1 := ⟨by decide +kernel, rfl⟩
theorem dX8_buy_39 : Dc MX8_buy 39 40 (.iastore) 1 := ⟨by decide +kernel, rfl⟩
theorem dX8_buy_40 : Dc MX8_buy 40 41 (.iconst 1) 1 := ⟨by decide +kernel, rfl⟩
theorem dX8_buy_41 : Dc MX8_buy 41 43 (.istore 4) 2 := ⟨by decide +kernel, rfl⟩
theorem dX8_buy_43 : Dc MX8_buy 43 44 (.iconst 0) 1 := ⟨by decide +kernel, rfl⟩
theorem dX8_buy_44 : Dc MX8_buy 44 46 (.istore 5) 2 := ⟨by decide +kernel, rfl⟩
theorem dX8_buy_46 : Dc MX8_buy 46 47 (.aload_n 0) 1 := ⟨by decide +kernel, rfl⟩
theorem dX8_buy_47 : Dc MX8_buy 47 50 (.getfield 98) 3 := ⟨by decide +kernel, rfl⟩
theorem dX8_buy_50 : Dc MX8_buy 50 51 (.aload_n 0) 1 := ⟨by decide +kernel, rfl⟩
theorem dX8_buy_51 : Dc MX8_buy 51 54 (.getfield 7) 3 := ⟨by decide +kernel, rfl⟩
theorem dX8_buy_54 : Dc MX8_buy 54 57 (.if_icmp .ge 75) 3 := ⟨by decide +kernel, rfl⟩
theorem dX8_buy_57 : Dc MX8_buy 57 59 (.iload 5) 2 := ⟨by decide +kernel, rfl⟩
theorem dX8_buy_59 : Dc MX8_buy 59 62 (.ifCond .ne 11) 3 := ⟨by decide +kernel, rfl⟩
theorem dX8_buy_62 : Dc MX8_buy 62 63 (.aload_n 0) 1 := ⟨by decide +kernel, rfl⟩
theorem dX8_buy_63 : Dc MX8_buy 63 64 (.iload_n 1) 1 := ⟨by decide +kernel, rfl⟩
theorem dX8_buy_64 : Dc MX8_buy 64 67 (.invokevirtual 119) 3 := ⟨by decide +kernel, rfl⟩
theorem dX8_buy_67 : Dc MX8_buy 67 70 (.ifCond .eq 7) 3 := ⟨by decide +kernel, rfl⟩
theorem dX8_buy_70 : Dc MX8_buy 70 71 (.iconst 1) 1 := ⟨by decide +kernel, rfl⟩
theorem dX8_buy_71 : Dc MX8_buy 71 74 (.goto 4) 3 := ⟨by decide +kernel, rfl⟩
theorem dX8_buy_74 : Dc MX8_buy 74 75 (.iconst 0) 1 := ⟨by decide +kernel, rfl⟩
theorem dX8_buy_75 : Dc MX8_buy 75 77 (.istore 5) 2 := ⟨by decide +kernel, rfl⟩
theorem dX8_buy_77 : Dc MX8_buy 77 79 (.iload 4) 2 := ⟨by decide +kernel, rfl⟩
theorem dX8_buy_79 : Dc MX8_buy 79 82 (.ifCond .eq 40) 3 := ⟨by decide +kernel, rfl⟩
theorem dX8_buy_82 : Dc MX8_buy 82 83 (.aload_n 0) 1 := ⟨by decide +kernel, rfl⟩
theorem dX8_buy_83 : Dc MX8_buy 83 84 (.iload_n 1) 1 := ⟨by decide +kernel, rfl⟩
theorem dX8_buy_84 : Dc MX8_buy 84 87 (.invokevirtual 119) 3 := ⟨by decide +kernel, rfl⟩
theorem dX8_buy_87 : Dc MX8_buy 87 90 (.ifCond .eq 28) 3 := ⟨by decide +kernel, rfl⟩
theorem dX8_buy_90 : Dc MX8_buy 90 91 (.aload_n 0) 1 := ⟨by decide +kernel, rfl⟩
theorem dX8_buy_91 : Dc MX8_buy 91 92 (.aload_n 0) 1 := ⟨by decide +kernel, rfl⟩
theorem dX8_buy_92 : Dc MX8_buy 92 95 (.getfield 98) 3 := ⟨by decide +kernel, rfl⟩
theorem dX8_buy_95 : Dc MX8_buy 95 98 (.invokevirtual 113) 3 := ⟨by decide +kernel, rfl⟩
theorem dX8_buy_98 : Dc MX8_buy 98 101 (.ifCond .ne 17) 3 := ⟨by decide +kernel, rfl⟩
theorem dX8_buy_101 : Dc MX8_buy 101 102 (.aload_n 0) 1 := ⟨by decide +kernel, rfl⟩
theorem dX8_buy_102 : Dc MX8_buy 102 103 (.aload_n 0) 1 := ⟨by decide +kernel, rfl⟩
theorem dX8_buy_103 : Dc MX8_buy 103 106 (.getfield 20) 3 := ⟨by decide +kernel, rfl⟩
theorem dX8_buy_106 : Dc MX8_buy 106 107 (.iload_n 1) 1 := ⟨by decide +kernel, rfl⟩
theorem dX8_buy_107 : Dc MX8_buy 107 108 (.iaload) 1 := ⟨by decide +kernel, rfl⟩
theorem dX8_buy_108 : Dc MX8_buy 108 111 (.invokevirtual 116) 3 := ⟨by decide +kernel, rfl⟩
theorem dX8_buy_111 : Dc MX8_buy 111 112 (.iload_n 1) 1 := ⟨by decide +kernel, rfl⟩
theorem dX8_buy_112 : Dc MX8_buy 112 115 (.if_icmp .ne 7) 3 := ⟨by decide +kernel, rfl⟩
theorem dX8_buy_115 : Dc MX8_buy 115 116 (.iconst 1) 1 := ⟨by decide +kernel, rfl⟩
theorem dX8_buy_116 : Dc MX8_buy 116 119 (.goto 4) 3 := ⟨by decide +kernel, rfl⟩
theorem dX8_buy_119 : Dc MX8_buy 119 120 (.iconst 0) 1 := ⟨by decide +kernel, rfl⟩
theorem dX8_buy_120 : Dc MX8_buy 120 122 (.istore 4) 2 := ⟨by decide +kernel, rfl⟩
theorem dX8_buy_122 : Dc MX8_buy 122 123 (.aload_n 0) 1 := ⟨by decide +kernel, rfl⟩
theorem dX8_buy_123 : Dc MX8_buy 123 126 (.invokevirtual 134) 3 := ⟨by decide +kernel, rfl⟩
theorem dX8_buy_126 : Dc MX8_buy 126 129 (.goto (-80)) 3 := ⟨by decide +kernel, rfl⟩
theorem dX8_buy_129 : Dc MX8_buy 129 131 (.iload 4) 2 := ⟨by decide +kernel, rfl⟩
theorem dX8_buy_131 : Dc MX8_buy 131 134 (.ifCond .eq 23) 3 := ⟨by decide +kernel, rfl⟩
theorem dX8_buy_134 : Dc MX8_buy 134 136 (.iload 5) 2 := ⟨by decide +kernel, rfl⟩
theorem dX8_buy_136 : Dc MX8_buy 136 139 (.ifCond .eq 18) 3 := ⟨by decide +kernel, rfl⟩
theorem dX8_buy_139 : Dc MX8_buy 139 140 (.iload_n 2) 1 := ⟨by decide +kernel, rfl⟩
theorem dX8_buy_140 : Dc MX8_buy 140 143 (.ifCond .ne 7) 3 := ⟨by decide +kernel, rfl⟩
theorem dX8_buy_143 : Dc MX8_buy 143 144 (.iload_n 3) 1 := ⟨by decide +kernel, rfl⟩
theorem dX8_buy_144 : Dc MX8_buy 144 147 (.goto 9) 3 := ⟨by decide +kernel, rfl⟩
theorem dX8_buy_147 : Dc MX8_buy 147 148 (.aload_n 0) 1 := ⟨by decide +kernel, rfl⟩
theorem dX8_buy_148 : Dc MX8_buy 148 151 (.getfield 44) 3 := ⟨by decide +kernel, rfl⟩
theorem dX8_buy_151 : Dc MX8_buy 151 152 (.iload_n 1) 1 := ⟨by decide +kernel, rfl⟩
theorem dX8_buy_152 : Dc MX8_buy 152 153 (.iaload) 1 := ⟨by decide +kernel, rfl⟩
theorem dX8_buy_153 : Dc MX8_buy 153 154 (.ireturn) 1 := ⟨by decide +kernel, rfl⟩
theorem dX8_buy_154 : Dc MX8_buy 154 157 (.iinc 3 1) 3 := ⟨by decide +kernel, rfl⟩
theorem dX8_buy_157 : Dc MX8_buy 157 160 (.goto (-134)) 3 := ⟨by decide +kernel, rfl⟩
theorem dX8_buy_160 : Dc MX8_buy 160 162 (.bipush (-6)) 2 := ⟨by decide +kernel, rfl⟩
theorem dX8_buy_162 : Dc MX8_buy 162 163 (.ireturn) 1 := ⟨by decide +kernel, rfl⟩
theorem dX8_ridesAtAll_0 : Dc MX8_ridesAtAll 0 1 (.iconst 0) 1 := ⟨by decide +kernel, rfl⟩
theorem dX8_ridesAtAll_1 : Dc MX8_ridesAtAll 1 2 (.istore_n 2) 1 := ⟨by decide +kernel, rfl⟩
theorem dX8_ridesAtAll_2 : Dc MX8_ridesAtAll 2 3 (.iconst 0) 1 := ⟨by decide +kernel, rfl⟩
theorem dX8_ridesAtAll_3 : Dc MX8_ridesAtAll 3 4 (.istore_n 3) 1 := ⟨by decide +kernel, rfl⟩
theorem dX8_ridesAtAll_4 : Dc MX8_ridesAtAll 4 5 (.iload_n 3) 1 := ⟨by decide +kernel, rfl⟩
theorem dX8_ridesAtAll_5 : Dc MX8_ridesAtAll 5 6 (.aload_n 0) 1 := ⟨by decide +kernel, rfl⟩
theorem dX8_ridesAtAll_6 : Dc MX8_ridesAtAll 6 9 (.getfield 7) 3 := ⟨by decide +kernel, rfl⟩
theorem dX8_ridesAtAll_9 : Dc MX8_ridesAtAll 9 12 (.if_icmp .ge 28) 3 := ⟨by decide +kernel, rfl⟩
theorem dX8_ridesAtAll_12 : Dc MX8_ridesAtAll 12 13 (.iload_n 2) 1 := ⟨by decide +kernel, rfl⟩
theorem dX8_ridesAtAll_13 : Dc MX8_ridesAtAll 13 16 (.ifCond .ne 12) 3 := ⟨by decide +kernel, rfl⟩
theorem dX8_ridesAtAll_16 : Dc MX8_ridesAtAll 16 17 (.aload_n 0) 1 := ⟨by decide +kernel, rfl⟩
theorem dX8_ridesAtAll_17 : Dc MX8_ridesAtAll 17 18 (.iload_n 1) 1 := ⟨by decide +kernel, rfl⟩
theorem dX8_ridesAtAll_18 : Dc MX8_ridesAtAll 18 19 (.iload_n 3) 1 := ⟨by decide +kernel, rfl⟩
theorem dX8_ridesAtAll_19 : Dc MX8_ridesAtAll 19 22 (.invokevirtual 78) 3 := ⟨by decide +kernel, rfl⟩
theorem dX8_ridesAtAll_22 : Dc MX8_ridesAtAll 22 25 (.ifCond .eq 7) 3 := ⟨by decide +kernel, rfl⟩
theorem dX8_ridesAtAll_25 : Dc MX8_ridesAtAll 25 26 (.iconst 1) 1 := ⟨by decide +kernel, rfl⟩
theorem dX8_ridesAtAll_26 : Dc MX8_ridesAtAll 26 29 (.goto 4) 3 := ⟨by decide +kernel, rfl⟩
theorem dX8_ridesAtAll_29 : Dc MX8_ridesAtAll 29 30 (.iconst 0) 1 := ⟨by decide +kernel, rfl⟩
theorem dX8_ridesAtAll_30 : Dc MX8_ridesAtAll 30 31 (.istore_n 2) 1 := ⟨by decide +kernel, rfl⟩
theorem dX8_ridesAtAll_31 : Dc MX8_ridesAtAll 31 34 (.iinc 3 1) 3 := ⟨by decide +kernel, rfl⟩
theorem dX8_ridesAtAll_34 : Dc MX8_ridesAtAll 34 37 (.goto (-30)) 3 := ⟨by decide +kernel, rfl⟩
theorem dX8_ridesAtAll_37 : Dc MX8_ridesAtAll 37 38 (.iload_n 2) 1 := ⟨by decide +kernel, rfl⟩
theorem dX8_ridesAtAll_38 : Dc MX8_ridesAtAll 38 39 (.ireturn) 1 := ⟨by decide +kernel, rfl⟩
theorem dX8_rideAtOnce_0 : Dc MX8_rideAtOnce 0 1 (.iconst 0) 1 := ⟨by decide +kernel, rfl⟩
theorem dX8_rideAtOnce_1 : Dc MX8_rideAtOnce 1 2 (.istore_n 3) 1 := ⟨by decide +kernel, rfl⟩
theorem dX8_rideAtOnce_2 : Dc MX8_rideAtOnce 2 3 (.iconst 0) 1 := ⟨by decide +kernel, rfl⟩
theorem dX8_rideAtOnce_3 : Dc MX8_rideAtOnce 3 5 (.istore 4) 2 := ⟨by decide +kernel, rfl⟩
theorem dX8_rideAtOnce_5 : Dc MX8_rideAtOnce 5 7 (.iload 4) 2 := ⟨by decide +kernel, rfl⟩
theorem dX8_rideAtOnce_7 : Dc MX8_rideAtOnce 7 8 (.aload_n 0) 1 := ⟨by decide +kernel, rfl⟩
theorem dX8_rideAtOnce_8 : Dc MX8_rideAtOnce 8 11 (.getfield 7) 3 := ⟨by decide +kernel, rfl⟩
theorem dX8_rideAtOnce_11 : Dc MX8_rideAtOnce 11 14 (.if_icmp .ge 39) 3 := ⟨by decide +kernel, rfl⟩
theorem dX8_rideAtOnce_14 : Dc MX8_rideAtOnce 14 15 (.iload_n 3) 1 := ⟨by decide +kernel, rfl⟩
theorem dX8_rideAtOnce_15 : Dc MX8_rideAtOnce 15 18 (.ifCond .ne 23) 3 := ⟨by decide +kernel, rfl⟩
theorem dX8_rideAtOnce_18 : Dc MX8_rideAtOnce 18 19 (.aload_n 0) 1 := ⟨by decide +kernel, rfl⟩
theorem dX8_rideAtOnce_19 : Dc MX8_rideAtOnce 19 20 (.iload_n 1) 1 := ⟨by decide +kernel, rfl⟩
theorem dX8_rideAtOnce_20 : Dc MX8_rideAtOnce 20 22 (.iload 4) 2 := ⟨by decide +kernel, rfl⟩
theorem dX8_rideAtOnce_22 : Dc MX8_rideAtOnce 22 25 (.invokevirtual 78) 3 := ⟨by decide +kernel, rfl⟩
theorem dX8_rideAtOnce_25 : Dc MX8_rideAtOnce 25 28 (.ifCond .eq 17) 3 := ⟨by decide +kernel, rfl⟩
theorem dX8_rideAtOnce_28 : Dc MX8_rideAtOnce 28 29 (.aload_n 0) 1 := ⟨by decide +kernel, rfl⟩
theorem dX8_rideAtOnce_29 : Dc MX8_rideAtOnce 29 30 (.iload_n 2) 1 := ⟨by decide +kernel, rfl⟩
theorem dX8_rideAtOnce_30 : Dc MX8_rideAtOnce 30 32 (.iload 4) 2 := ⟨by decide +kernel, rfl⟩
theorem dX8_rideAtOnce_32 : Dc MX8_rideAtOnce 32 35 (.invokevirtual 78) 3 := ⟨by decide +kernel, rfl⟩
theorem dX8_rideAtOnce_35 : Dc MX8_rideAtOnce 35 38 (.ifCond .eq 7) 3 := ⟨by decide +kernel, rfl⟩
theorem dX8_rideAtOnce_38 : Dc MX8_rideAtOnce 38 39 (.iconst 1) 1 := ⟨by decide +kernel, rfl⟩
theorem dX8_rideAtOnce_39 : Dc MX8_rideAtOnce 39 42 (.goto 4) 3 := ⟨by decide +kernel, rfl⟩
theorem dX8_rideAtOnce_42 : Dc MX8_rideAtOnce 42 43 (.iconst 0) 1 := ⟨by decide +kernel, rfl⟩
theorem dX8_rideAtOnce_43 : Dc MX8_rideAtOnce 43 44 (.istore_n 3) 1 := ⟨by decide +kernel, rfl⟩
theorem dX8_rideAtOnce_44 : Dc MX8_rideAtOnce 44 47 (.iinc 4 1) 3 := ⟨by decide +kernel, rfl⟩
theorem dX8_rideAtOnce_47 : Dc MX8_rideAtOnce 47 50 (.goto (-42)) 3 := ⟨by decide +kernel, rfl⟩
theorem dX8_rideAtOnce_50 : Dc MX8_rideAtOnce 50 51 (.iload_n 3) 1 := ⟨by decide +kernel, rfl⟩
theorem dX8_rideAtOnce_51 : Dc MX8_rideAtOnce 51 52 (.ireturn) 1 := ⟨by decide +kernel, rfl⟩
theorem dX8_seats_0 : Dc MX8_seats 0 1 (.iload_n 1) 1 := ⟨by decide +kernel, rfl⟩
theorem dX8_seats_1 : Dc MX8_seats 1 2 (.iconst 0) 1 := ⟨by decide +kernel, rfl⟩
theorem dX8_seats_2 : Dc MX8_seats 2 5 (.sipush 32767) 3 := ⟨by decide +kernel, rfl⟩
theorem dX8_seats_5 : Dc MX8_seats 5 8 (.invokestatic 60) 3 := ⟨by decide +kernel, rfl⟩
theorem dX8_seats_8 : Dc MX8_seats 8 11 (.ifCond .eq 23) 3 := ⟨by decide +kernel, rfl⟩
theorem dX8_seats_11 : Dc MX8_seats 11 12 (.iload_n 2) 1 := ⟨by decide +kernel, rfl⟩
theorem dX8_seats_12 : Dc MX8_seats 12 13 (.iconst 0) 1 := ⟨by decide +kernel, rfl⟩
theorem dX8_seats_13 : Dc MX8_seats 13 16 (.sipush 32767) 3 := ⟨by decide +kernel, rfl⟩
theorem dX8_seats_16 : Dc MX8_seats 16 19 (.invokestatic 60) 3 := ⟨by decide +kernel, rfl⟩
theorem dX8_seats_19 : Dc MX8_seats 19 22 (.ifCond .eq 12) 3 := ⟨by decide +kernel, rfl⟩
theorem dX8_seats_22 : Dc MX8_seats 22 23 (.iload_n 3) 1 := ⟨by decide +kernel, rfl⟩
theorem dX8_seats_23 : Dc MX8_seats 23 24 (.iconst 0) 1 := ⟨by decide +kernel, rfl⟩
theorem dX8_seats_24 : Dc MX8_seats 24 25 (.iconst 1) 1 := ⟨by decide +kernel, rfl⟩
theorem dX8_seats_25 : Dc MX8_seats 25 28 (.invokestatic 60) 3 := ⟨by decide +kernel, rfl⟩
theorem dX8_seats_28 : Dc MX8_seats 28 31 (.ifCond .ne 6) 3 := ⟨by decide +kernel, rfl⟩
theorem dX8_seats_31 : Dc MX8_seats 31 33 (.bipush (-2)) 2 := ⟨by decide +kernel, rfl⟩
theorem dX8_seats_33 : Dc MX8_seats 33 34 (.ireturn) 1 := ⟨by decide +kernel, rfl⟩
theorem dX8_seats_34 : Dc MX8_seats 34 35 (.iconst 0) 1 := ⟨by decide +kernel, rfl⟩
theorem dX8_seats_35 : Dc MX8_seats 35 37 (.istore 4) 2 := ⟨by decide +kernel, rfl⟩
theorem dX8_seats_37 : Dc MX8_seats 37 39 (.bipush (-6)) 2 := ⟨by decide +kernel, rfl⟩
theorem dX8_seats_39 : Dc MX8_seats 39 41 (.istore 5) 2 := ⟨by decide +kernel, rfl⟩
theorem dX8_seats_41 : Dc MX8_seats 41 42 (.iconst 0) 1 := ⟨by decide +kernel, rfl⟩
theorem dX8_seats_42 : Dc MX8_seats 42 44 (.istore 6) 2 := ⟨by decide +kernel, rfl⟩
theorem dX8_seats_44 : Dc MX8_seats 44 46 (.iload 6) 2 := ⟨by decide +kernel, rfl⟩
theorem dX8_seats_46 : Dc MX8_seats 46 49 (.sipush 4096) 3 := ⟨by decide +kernel, rfl⟩
theorem dX8_seats_49 : Dc MX8_seats 49 52 (.if_icmp .ge 261) 3 := ⟨by decide +kernel, rfl⟩
theorem dX8_seats_52 : Dc MX8_seats 52 53 (.iconst 1) 1 := ⟨by decide +kernel, rfl⟩
theorem dX8_seats_53 : Dc MX8_seats 53 55 (.istore 7) 2 := ⟨by decide +kernel, rfl⟩
theorem dX8_seats_55 : Dc MX8_seats 55 56 (.iconst 0) 1 := ⟨by decide +kernel, rfl⟩
theorem dX8_seats_56 : Dc MX8_seats 56 58 (.istore 8) 2 := ⟨by decide +kernel, rfl⟩
theorem dX8_seats_58 : Dc MX8_seats 58 59 (.iconst 0) 1 := ⟨by decide +kernel, rfl⟩
theorem dX8_seats_59 : Dc MX8_seats 59 61 (.istore 9) 2 := ⟨by decide +kernel, rfl⟩
theorem dX8_seats_61 : Dc MX8_seats 61 63 (.iload 9) 2 := ⟨by decide +kernel, rfl⟩
theorem dX8_seats_63 : Dc MX8_seats 63 65 (.bipush 6) 2 := ⟨by decide +kernel, rfl⟩
theorem dX8_seats_65 : Dc MX8_seats 65 68 (.if_icmp .ge 64) 3 := ⟨by decide +kernel, rfl⟩
theorem dX8_seats_68 : Dc MX8_seats 68 70 (.iload 6) 2 := ⟨by decide +kernel, rfl⟩
theorem dX8_seats_70 : Dc MX8_seats 70 71 (.iconst 2) 1 := ⟨by decide +kernel, rfl⟩
theorem dX8_seats_71 : Dc MX8_seats 71 72 (.iconst 5) 1 := ⟨by decide +kernel, rfl⟩
theorem dX8_seats_72 : Dc MX8_seats 72 74 (.iload 9) 2 := ⟨by decide +kernel, rfl⟩
theorem dX8_seats_74 : Dc MX8_seats 74 75 (.isub) 1 := ⟨by decide +kernel, rfl⟩
theorem dX8_seats_75 : Dc MX8_seats 75 76 (.imul) 1 := ⟨by decide +kernel, rfl⟩
theorem dX8_seats_76 : Dc MX8_seats 76 77 (.ishr) 1 := ⟨by decide +kernel, rfl⟩
theorem dX8_seats_77 : Dc MX8_seats 77 78 (.iconst 3) 1 := ⟨by decide +kernel, rfl⟩
theorem dX8_seats_78 : Dc MX8_seats 78 79 (.iand) 1 := ⟨by decide +kernel, rfl⟩
theorem dX8_seats_79 : Dc MX8_seats 79 81 (.istore 10) 2 := ⟨by decide +kernel, rfl⟩
theorem dX8_seats_81 : Dc MX8_seats 81 83 (.bipush 10) 2 := ⟨by decide +kernel, rfl⟩
theorem dX8_seats_83 : Dc MX8_seats 83 85 (.iload 8) 2 := ⟨by decide +kernel, rfl⟩
theorem dX8_seats_85 : Dc MX8_seats 85 86 (.imul) 1 := ⟨by decide +kernel, rfl⟩
theorem dX8_seats_86 : Dc MX8_seats 86 88 (.iload 10) 2 := ⟨by decide +kernel, rfl⟩
theorem dX8_seats_88 : Dc MX8_seats 88 89 (.iadd) 1 := ⟨by decide +kernel, rfl⟩
theorem dX8_seats_89 : Dc MX8_seats 89 91 (.istore 8) 2 := ⟨by decide +kernel, rfl⟩
theorem dX8_seats_91 : Dc MX8_seats 91 93 (.iload 7) 2 := ⟨by decide +kernel, rfl⟩
theorem dX8_seats_93 : Dc MX8_seats 93 96 (.ifCond .eq 27) 3 := ⟨by decide +kernel, rfl⟩
theorem dX8_seats_96 : Dc MX8_seats 96 97 (.aload_n 0) 1 := ⟨by decide +kernel, rfl⟩
theorem dX8_seats_97 : Dc MX8_seats 97 99 (.iload 9) 2 := ⟨by decide +kernel, rfl⟩
theorem dX8_seats_99 : Dc MX8_seats 99 102 (.invokevirtual 154) 3 := ⟨by decide +kernel, rfl⟩
theorem dX8_seats_102 : Dc MX8_seats 102 104 (.iload 10) 2 := ⟨by decide +kernel, rfl⟩
theorem dX8_seats_104 : Dc MX8_seats 104 105 (.iconst 3) 1 := ⟨by decide +kernel, rfl⟩
theorem dX8_seats_105 : Dc MX8_seats 105 108 (.if_icmp .ge 7) 3 := ⟨by decide +kernel, rfl⟩
theorem dX8_seats_108 : Dc MX8_seats 108 109 (.iconst 1) 1 := ⟨by decide +kernel, rfl⟩
theorem dX8_seats_109 : Dc MX8_seats 109 112 (.goto 4) 3 := ⟨by decide +kernel, rfl⟩
theorem dX8_seats_112 : Dc MX8_seats 112 113 (.iconst 0) 1 := ⟨by decide +kernel, rfl⟩
theorem dX8_seats_113 : Dc MX8_seats 113 116 (.if_icmp .ne 7) 3 := ⟨by decide +kernel, rfl⟩
theorem dX8_seats_116 : Dc MX8_seats 116 117 (.iconst 1) 1 := ⟨by decide +kernel, rfl⟩
theorem dX8_seats_117 : Dc MX8_seats 117 120 (.goto 4) 3 := ⟨by decide +kernel, rfl⟩
theorem dX8_seats_120 : Dc MX8_seats 120 121 (.iconst 0) 1 := ⟨by decide +kernel, rfl⟩
theorem dX8_seats_121 : Dc MX8_seats 121 123 (.istore 7) 2 := ⟨by decide +kernel, rfl⟩
theorem dX8_seats_123 : Dc MX8_seats 123 126 (.iinc 9 1) 3 := ⟨by decide +kernel, rfl⟩
theorem dX8_seats_126 : Dc MX8_seats 126 129 (.goto (-65)) 3 := ⟨by decide +kernel, rfl⟩
theorem dX8_seats_129 : Dc MX8_seats 129 130 (.iconst 0) 1 := ⟨by decide +kernel, rfl⟩
theorem dX8_seats_130 : Dc MX8_seats 130 132 (.istore 9) 2 := ⟨by decide +kernel, rfl⟩
theorem dX8_seats_132 : Dc MX8_seats 132 133 (.iconst 0) 1 := ⟨by decide +kernel, rfl⟩
theorem dX8_seats_133 : Dc MX8_seats 133 135 (.istore 10) 2 := ⟨by decide +kernel, rfl⟩
theorem dX8_seats_135 : Dc MX8_seats 135 137 (.iload 10) 2 := ⟨by decide +kernel, rfl⟩
theorem dX8_seats_137 : Dc MX8_seats 137 139 (.bipush 6) 2 := ⟨by decide +kernel, rfl⟩
theorem dX8_seats_139 : Dc MX8_seats 139 142 (.if_icmp .ge 131) 3 := ⟨by decide +kernel, rfl⟩
theorem dX8_seats_142 : Dc MX8_seats 142 144 (.iload 7) 2 := ⟨by decide +kernel, rfl⟩
theorem dX8_seats_144 : Dc MX8_seats 144 147 (.ifCond .eq 126) 3 := ⟨by decide +kernel, rfl⟩
theorem dX8_seats_147 : Dc MX8_seats 147 149 (.iload 10) 2 := ⟨by decide +kernel, rfl⟩
theorem dX8_seats_149 : Dc MX8_seats 149 150 (.iconst 1) 1 := ⟨by decide +kernel, rfl⟩
theorem dX8_seats_150 : Dc MX8_seats 150 151 (.iadd) 1 := ⟨by decide +kernel, rfl⟩
theorem dX8_seats_151 : Dc MX8_seats 151 153 (.istore 11) 2 := ⟨by decide +kernel, rfl⟩
theorem dX8_seats_153 : Dc MX8_seats 153 155 (.iload 11) 2 := ⟨by decide +kernel, rfl⟩
theorem dX8_seats_155 : Dc MX8_seats 155 157 (.bipush 6) 2 := ⟨by decide +kernel, rfl⟩
theorem dX8_seats_157 : Dc MX8_seats 157 160 (.if_icmp .ge 107) 3 := ⟨by decide +kernel, rfl⟩
theorem dX8_seats_160 : Dc MX8_seats 160 162 (.iload 6) 2 := ⟨by decide +kernel, rfl⟩
theorem dX8_seats_162 : Dc MX8_seats 162 163 (.iconst 2) 1 := ⟨by decide +kernel, rfl⟩
theorem dX8_seats_163 : Dc MX8_seats 163 164 (.iconst 5) 1 := ⟨by decide +kernel, rfl⟩
theorem dX8_seats_164 : Dc MX8_seats 164 166 (.iload 10) 2 := ⟨by decide +kernel, rfl⟩
theorem dX8_seats_166 : Dc MX8_seats 166 167 (.isub) 1 := ⟨by decide +kernel, rfl⟩
theorem dX8_seats_167 : Dc MX8_seats 167 168 (.imul) 1 := ⟨by decide +kernel, rfl⟩
theorem dX8_seats_168 : Dc MX8_seats 168 169 (.ishr) 1 := ⟨by decide +kernel, rfl⟩
theorem dX8_seats_169 : Dc MX8_seats 169 170 (.iconst 3) 1 := ⟨by decide +kernel, rfl⟩
theorem dX8_seats_170 : Dc MX8_seats 170 171 (.iand) 1 := ⟨by decide +kernel, rfl⟩
theorem dX8_seats_171 : Dc MX8_seats 171 173 (.iload 6) 2 := ⟨by decide +kernel, rfl⟩
theorem dX8_seats_173 : Dc MX8_seats 173 174 (.iconst 2) 1 := ⟨by decide +kernel, rfl⟩
theorem dX8_seats_174 : Dc MX8_seats 174 175 (.iconst 5) 1 := ⟨by decide +kernel, rfl⟩
theorem dX8_seats_175 : Dc MX8_seats 175 177 (.iload 11) 2 := ⟨by decide +kernel, rfl⟩
theorem dX8_seats_177 : Dc MX8_seats 177 178 (.isub) 1 := ⟨by decide +kernel, rfl⟩
theorem dX8_seats_178 : Dc MX8_seats 178 179 (.imul) 1 := ⟨by decide +kernel, rfl⟩
theorem dX8_seats_179 : Dc MX8_seats 179 180 (.ishr) 1 := ⟨by decide +kernel, rfl⟩
theorem dX8_seats_180 : Dc MX8_seats 180 181 (.iconst 3) 1 := ⟨by decide +kernel, rfl⟩
theorem dX8_seats_181 : Dc MX8_seats 181 182 (.iand) 1 := ⟨by decide +kernel, rfl⟩
theorem dX8_seats_182 : Dc MX8_seats 182 185 (.if_icmp .ne 7) 3 := ⟨by decide +kernel, rfl⟩
theorem dX8_seats_185 : Dc MX8_seats 185 186 (.iconst 1) 1 := ⟨by decide +kernel, rfl⟩
theorem dX8_seats_186 : Dc MX8_seats 186 189 (.goto 4) 3 := ⟨by decide +kernel, rfl⟩
theorem dX8_seats_189 : Dc MX8_seats 189 190 (.iconst 0) 1 := ⟨by decide +kernel, rfl⟩
theorem dX8_seats_190 : Dc MX8_seats 190 192 (.istore 12) 2 := ⟨by decide +kernel, rfl⟩
theorem dX8_seats_192 : Dc MX8_seats 192 194 (.iload 12) 2 := ⟨by decide +kernel, rfl⟩
theorem dX8_seats_194 : Dc MX8_seats 194 197 (.ifCond .eq 18) 3 := ⟨by decide +kernel, rfl⟩
theorem dX8_seats_197 : Dc MX8_seats 197 198 (.aload_n 0) 1 := ⟨by decide +kernel, rfl⟩
theorem dX8_seats_198 : Dc MX8_seats 198 200 (.iload 10) 2 := ⟨by decide +kernel, rfl⟩
theorem dX8_seats_200 : Dc MX8_seats 200 202 (.iload 11) 2 := ⟨by decide +kernel, rfl⟩
theorem dX8_seats_202 : Dc MX8_seats 202 205 (.invokevirtual 157) 3 := ⟨by decide +kernel, rfl⟩
theorem dX8_seats_205 : Dc MX8_seats 205 208 (.ifCond .eq 7) 3 := ⟨by decide +kernel, rfl⟩
theorem dX8_seats_208 : Dc MX8_seats 208 209 (.iconst 1) 1 := ⟨by decide +kernel, rfl⟩
theorem dX8_seats_209 : Dc MX8_seats 209 212 (.goto 4) 3 := ⟨by decide +kernel, rfl⟩
theorem dX8_seats_212 : Dc MX8_seats 212 213 (.iconst 0) 1 := ⟨by decide +kernel, rfl⟩
theorem dX8_seats_213 : Dc MX8_seats 213 215 (.istore 13) 2 := ⟨by decide +kernel, rfl⟩
theorem dX8_seats_215 : Dc MX8_seats 215 217 (.iload 7) 2 := ⟨by decide +kernel, rfl⟩
theorem dX8_seats_217 : Dc MX8_seats 217 220 (.ifCond .eq 35) 3 := ⟨by decide +kernel, rfl⟩
theorem dX8_seats_220 : Dc MX8_seats 220 221 (.iload_n 1) 1 := ⟨by decide +kernel, rfl⟩
theorem dX8_seats_221 : Dc MX8_seats 221 223 (.iload 9) 2 := ⟨by decide +kernel, rfl⟩
theorem dX8_seats_223 : Dc MX8_seats 223 226 (.invokestatic 110) 3 := ⟨by decide +kernel, rfl⟩
theorem dX8_seats_226 : Dc MX8_seats 226 229 (.ifCond .eq 8) 3 := ⟨by decide +kernel, rfl⟩
theorem dX8_seats_229 : Dc MX8_seats 229 231 (.iload 13) 2 := ⟨by decide +kernel, rfl⟩
theorem dX8_seats_231 : Dc MX8_seats 231 234 (.ifCond .ne 21) 3 := ⟨by decide +kernel, rfl⟩
theorem dX8_seats_234 : Dc MX8_seats 234 235 (.iload_n 2) 1 := ⟨by decide +kernel, rfl⟩
theorem dX8_seats_235 : Dc MX8_seats 235 237 (.iload 9) 2 := ⟨by decide +kernel, rfl⟩
theorem dX8_seats_237 : Dc MX8_seats 237 240 (.invokestatic 110) 3 := ⟨by decide +kernel, rfl⟩
theorem dX8_seats_240 : Dc MX8_seats 240 243 (.ifCond .eq 8) 3 := ⟨by decide +kernel, rfl⟩
theorem dX8_seats_243 : Dc MX8_seats 243 245 (.iload 13) 2 := ⟨by decide +kernel, rfl⟩
theorem dX8_seats_245 : Dc MX8_seats 245 248 (.ifCond .eq 7) 3 := ⟨by decide +kernel, rfl⟩
theorem dX8_seats_248 : Dc MX8_seats 248 249 (.iconst 1) 1 := ⟨by decide +kernel, rfl⟩
theorem dX8_seats_249 : Dc MX8_seats 249 252 (.goto 4) 3 := ⟨by decide +kernel, rfl⟩
theorem dX8_seats_252 : Dc MX8_seats 252 253 (.iconst 0) 1 := ⟨by decide +kernel, rfl⟩
theorem dX8_seats_253 : Dc MX8_seats 253 255 (.istore 7) 2 := ⟨by decide +kernel, rfl⟩
theorem dX8_seats_255 : Dc MX8_seats 255 258 (.iinc 9 1) 3 := ⟨by decide +kernel, rfl⟩
theorem dX8_seats_258 : Dc MX8_seats 258 261 (.iinc 11 1) 3 := ⟨by decide +kernel, rfl⟩
theorem dX8_seats_261 : Dc MX8_seats 261 264 (.goto (-108)) 3 := ⟨by decide +kernel, rfl⟩
theorem dX8_seats_264 : Dc MX8_seats 264 267 (.iinc 10 1) 3 := ⟨by decide +kernel, rfl⟩
theorem dX8_seats_267 : Dc MX8_seats 267 270 (.goto (-132)) 3 := ⟨by decide +kernel, rfl⟩
theorem dX8_seats_270 : Dc MX8_seats 270 272 (.iload 4) 2 := ⟨by decide +kernel, rfl⟩
theorem dX8_seats_272 : Dc MX8_seats 272 274 (.iload 7) 2 := ⟨by decide +kernel, rfl⟩
theorem dX8_seats_274 : Dc MX8_seats 274 277 (.ifCond .eq 7) 3 := ⟨by decide +kernel, rfl⟩
theorem dX8_seats_277 : Dc MX8_seats 277 278 (.iconst 1) 1 := ⟨by decide +kernel, rfl⟩
theorem dX8_seats_278 : Dc MX8_seats 278 281 (.goto 4) 3 := ⟨by decide +kernel, rfl⟩
theorem dX8_seats_281 : Dc MX8_seats 281 282 (.iconst 0) 1 := ⟨by decide +kernel, rfl⟩
theorem dX8_seats_282 : Dc MX8_seats 282 283 (.iadd) 1 := ⟨by decide +kernel, rfl⟩
theorem dX8_seats_283 : Dc MX8_seats 283 285 (.istore 4) 2 := ⟨by decide +kernel, rfl⟩
theorem dX8_seats_285 : Dc MX8_seats 285 287 (.iload 7) 2 := ⟨by decide +kernel, rfl⟩
theorem dX8_seats_287 : Dc MX8_seats 287 290 (.ifCond .eq 13) 3 := ⟨by decide +kernel, rfl⟩
theorem dX8_seats_290 : Dc MX8_seats 290 292 (.iload 5) 2 := ⟨by decide +kernel, rfl⟩
theorem dX8_seats_292 : Dc MX8_seats 292 295 (.ifCond .ge 8) 3 := ⟨by decide +kernel, rfl⟩
theorem dX8_seats_295 : Dc MX8_seats 295 297 (.iload 8) 2 := ⟨by decide +kernel, rfl⟩
theorem dX8_seats_297 : Dc MX8_seats 297 300 (.goto 5) 3 := ⟨by decide +kernel, rfl⟩
theorem dX8_seats_300 : Dc MX8_seats 300 302 (.iload 5) 2 := ⟨by decide +kernel, rfl⟩
theorem dX8_seats_302 : Dc MX8_seats 302 304 (.istore 5) 2 := ⟨by decide +kernel, rfl⟩
theorem dX8_seats_304 : Dc MX8_seats 304 307 (.iinc 6 1) 3 := ⟨by decide +kernel, rfl⟩
theorem dX8_seats_307 : Dc MX8_seats 307 310 (.goto (-263)) 3 := ⟨by decide +kernel, rfl⟩
theorem dX8_seats_310 : Dc MX8_seats 310 311 (.iload_n 3) 1 := ⟨by decide +kernel, rfl⟩
theorem dX8_seats_311 : Dc MX8_seats 311 314 (.ifCond .ne 8) 3 := ⟨by decide +kernel, rfl⟩
theorem dX8_seats_314 : Dc MX8_seats 314 316 (.iload 4) 2 := ⟨by decide +kernel, rfl⟩
theorem dX8_seats_316 : Dc MX8_seats 316 319 (.goto 5) 3 := ⟨by decide +kernel, rfl⟩
theorem dX8_seats_319 : Dc MX8_seats 319 321 (.iload 5) 2 := ⟨by decide +kernel, rfl⟩
theorem dX8_seats_321 : Dc MX8_seats 321 322 (.ireturn) 1 := ⟨by decide +kernel, rfl⟩
theorem dX8_goWord_0 : Dc MX8_goWord 0 1 (.aload_n 0) 1 := ⟨by decide +kernel, rfl⟩
theorem dX8_goWord_1 : Dc MX8_goWord 1 2 (.iconst 1) 1 := ⟨by decide +kernel, rfl⟩
theorem dX8_goWord_2 : Dc MX8_goWord 2 3 (.iload_n 1) 1 := ⟨by decide +kernel, rfl⟩
theorem dX8_goWord_3 : Dc MX8_goWord 3 4 (.ishl) 1 := ⟨by decide +kernel, rfl⟩
theorem dX8_goWord_4 : Dc MX8_goWord 4 7 (.putfield 160) 3 := ⟨by decide +kernel, rfl⟩
theorem dX8_goWord_7 : Dc MX8_goWord 7 8 (.iload_n 3) 1 := ⟨by decide +kernel, rfl⟩
theorem dX8_goWord_8 : Dc MX8_goWord 8 9 (.iload_n 1) 1 := ⟨by decide +kernel, rfl⟩
theorem dX8_goWord_9 : Dc MX8_goWord 9 12 (.if_icmp .ne 7) 3 := ⟨by decide +kernel, rfl⟩
theorem dX8_goWord_12 : Dc MX8_goWord 12 13 (.iload_n 2) 1 := ⟨by decide +kernel, rfl⟩
theorem dX8_goWord_13 : Dc MX8_goWord 13 16 (.goto 5) 3 := ⟨by decide +kernel, rfl⟩
theorem dX8_goWord_16 : Dc MX8_goWord 16 18 (.bipush (-6)) 2 := ⟨by decide +kernel, rfl⟩
theorem dX8_goWord_18 : Dc MX8_goWord 18 20 (.istore 4) 2 := ⟨by decide +kernel, rfl⟩
theorem dX8_goWord_20 : Dc MX8_goWord 20 21 (.iload_n 2) 1 := ⟨by decide +kernel, rfl⟩
theorem dX8_goWord_21 : Dc MX8_goWord 21 23 (.istore 5) 2 := ⟨by decide +kernel, rfl⟩
theorem dX8_goWord_23 : Dc MX8_goWord 23 25 (.iload 5) 2 := ⟨by decide +kernel, rfl⟩
theorem dX8_goWord_25 : Dc MX8_goWord 25 26 (.aload_n 0) 1 := ⟨by decide +kernel, rfl⟩
theorem dX8_goWord_26 : Dc MX8_goWord 26 29 (.getfield 7) 3 := ⟨by decide +kernel, rfl⟩
theorem dX8_goWord_29 : Dc MX8_goWord 29 32 (.if_icmp .ge 163) 3 := ⟨by decide +kernel, rfl⟩
theorem dX8_goWord_32 : Dc MX8_goWord 32 33 (.aload_n 0) 1 := ⟨by decide +kernel, rfl⟩
theorem dX8_goWord_33 : Dc MX8_goWord 33 36 (.getfield 160) 3 := ⟨by decide +kernel, rfl⟩
theorem dX8_goWord_36 : Dc MX8_goWord 36 38 (.istore 6) 2 := ⟨by decide +kernel, rfl⟩
theorem dX8_goWord_38 : Dc MX8_goWord 38 39 (.iconst 0) 1 := ⟨by decide +kernel, rfl⟩
theorem dX8_goWord_39 : Dc MX8_goWord 39 41 (.istore 7) 2 := ⟨by decide +kernel, rfl⟩
theorem dX8_goWord_41 : Dc MX8_goWord 41 43 (.iload 7) 2 := ⟨by decide +kernel, rfl⟩
theorem dX8_goWord_43 : Dc MX8_goWord 43 45 (.bipush 6) 2 := ⟨by decide +kernel, rfl⟩
theorem dX8_goWord_45 : Dc MX8_goWord 45 48 (.if_icmp .ge 110) 3 := ⟨by decide +kernel, rfl⟩
theorem dX8_goWord_48 : Dc MX8_goWord 48 49 (.aload_n 0) 1 := ⟨by decide +kernel, rfl⟩
theorem dX8_goWord_49 : Dc MX8_goWord 49 51 (.iload 5) 2 := ⟨by decide +kernel, rfl⟩
theorem dX8_goWord_51 : Dc MX8_goWord 51 54 (.invokevirtual 113) 3 := ⟨by decide +kernel, rfl⟩
theorem dX8_goWord_54 : Dc MX8_goWord 54 57 (.ifCond .eq 101) 3 := ⟨by decide +kernel, rfl⟩
theorem dX8_goWord_57 : Dc MX8_goWord 57 58 (.iconst 0) 1 := ⟨by decide +kernel, rfl⟩
theorem dX8_goWord_58 : Dc MX8_goWord 58 60 (.istore 8) 2 := ⟨by decide +kernel, rfl⟩
theorem dX8_goWord_60 : Dc MX8_goWord 60 62 (.iload 8) 2 := ⟨by decide +kernel, rfl⟩
theorem dX8_goWord_62 : Dc MX8_goWord 62 64 (.bipush 6) 2 := ⟨by decide +kernel, rfl⟩
theorem dX8_goWord_64 : Dc MX8_goWord 64 67 (.if_icmp .ge 85) 3 := ⟨by decide +kernel, rfl⟩
theorem dX8_goWord_67 : Dc MX8_goWord 67 68 (.aload_n 0) 1 := ⟨by decide +kernel, rfl⟩
theorem dX8_goWord_68 : Dc MX8_goWord 68 70 (.iload 7) 2 := ⟨by decide +kernel, rfl⟩
theorem dX8_goWord_70 : Dc MX8_goWord 70 72 (.iload 5) 2 := ⟨by decide +kernel, rfl⟩
theorem dX8_goWord_72 : Dc MX8_goWord 72 75 (.invokevirtual 78) 3 := ⟨by decide +kernel, rfl⟩
theorem dX8_goWord_75 : Dc MX8_goWord 75 78 (.ifCond .eq 35) 3 := ⟨by decide +kernel, rfl⟩
theorem dX8_goWord_78 : Dc MX8_goWord 78 79 (.aload_n 0) 1 := ⟨by decide +kernel, rfl⟩
theorem dX8_goWord_79 : Dc MX8_goWord 79 81 (.iload 8) 2 := ⟨by decide +kernel, rfl⟩
theorem dX8_goWord_81 : Dc MX8_goWord 81 83 (.iload 5) 2 := ⟨by decide +kernel, rfl⟩
theorem dX8_goWord_83 : Dc MX8_goWord 83 86 (.invokevirtual 78) 3 := ⟨by decide +kernel, rfl⟩
theorem dX8_goWord_86 : Dc MX8_goWord 86 89 (.ifCond .eq 24) 3 := ⟨by decide +kernel, rfl⟩
theorem dX8_goWord_89 : Dc MX8_goWord 89 90 (.aload_n 0) 1 := ⟨by decide +kernel, rfl⟩
theorem dX8_goWord_90 : Dc MX8_goWord 90 93 (.getfield 20) 3 := ⟨by decide +kernel, rfl⟩
theorem dX8_goWord_93 : Dc MX8_goWord 93 95 (.iload 7) 2 := ⟨by decide +kernel, rfl⟩
theorem dX8_goWord_95 : Dc MX8_goWord 95 96 (.iaload) 1 := ⟨by decide +kernel, rfl⟩
theorem dX8_goWord_96 : Dc MX8_goWord 96 97 (.aload_n 0) 1 := ⟨by decide +kernel, rfl⟩
theorem dX8_goWord_97 : Dc MX8_goWord 97 100 (.getfield 20) 3 := ⟨by decide +kernel, rfl⟩
theorem dX8_goWord_100 : Dc MX8_goWord 100 102 (.iload 8) 2 := ⟨by decide +kernel, rfl⟩
theorem dX8_goWord_102 : Dc MX8_goWord 102 103 (.iaload) 1 := ⟨by decide +kernel, rfl⟩
theorem dX8_goWord_103 : Dc MX8_goWord 103 106 (.if_icmp .ne 7) 3 := ⟨by decide +kernel, rfl⟩
theorem dX8_goWord_106 : Dc MX8_goWord 106 107 (.iconst 1) 1 := ⟨by decide +kernel, rfl⟩
theorem dX8_goWord_107 : Dc MX8_goWord 107 110 (.goto 4) 3 := ⟨by decide +kernel, rfl⟩
theorem dX8_goWord_110 : Dc MX8_goWord 110 111 (.iconst 0) 1 := ⟨by decide +kernel, rfl⟩
theorem dX8_goWord_111 : Dc MX8_goWord 111 113 (.istore 9) 2 := ⟨by decide +kernel, rfl⟩
theorem dX8_goWord_113 : Dc MX8_goWord 113 115 (.iload 6) 2 := ⟨by decide +kernel, rfl⟩
theorem dX8_goWord_115 : Dc MX8_goWord 115 117 (.iload 9) 2 := ⟨by decide +kernel, rfl⟩
theorem dX8_goWord_117 : Dc MX8_goWord 117 120 (.ifCond .eq 22) 3 := ⟨by decide +kernel, rfl⟩
theorem dX8_goWord_120 : Dc MX8_goWord 120 121 (.aload_n 0) 1 := ⟨by decide +kernel, rfl⟩
theorem dX8_goWord_121 : Dc MX8_goWord 121 124 (.getfield 160) 3 := ⟨by decide +kernel, rfl⟩
theorem dX8_goWord_124 : Dc MX8_goWord 124 126 (.iload 8) 2 := ⟨by decide +kernel, rfl⟩
theorem dX8_goWord_126 : Dc MX8_goWord 126 129 (.invokestatic 110) 3 := ⟨by decide +kernel, rfl⟩
theorem dX8_goWord_129 : Dc MX8_goWord 129 132 (.ifCond .eq 10) 3 := ⟨by decide +kernel, rfl⟩
theorem dX8_goWord_132 : Dc MX8_goWord 132 133 (.iconst 1) 1 := ⟨by decide +kernel, rfl⟩
theorem dX8_goWord_133 : Dc MX8_goWord 133 135 (.iload 7) 2 := ⟨by decide +kernel, rfl⟩
theorem dX8_goWord_135 : Dc MX8_goWord 135 136 (.ishl) 1 := ⟨by decide +kernel, rfl⟩
theorem dX8_goWord_136 : Dc MX8_goWord 136 139 (.goto 4) 3 := ⟨by decide +kernel, rfl⟩
theorem dX8_goWord_139 : Dc MX8_goWord 139 140 (.iconst 0) 1 := ⟨by decide +kernel, rfl⟩
theorem dX8_goWord_140 : Dc MX8_goWord 140 141 (.ior) 1 := ⟨by decide +kernel, rfl⟩
theorem dX8_goWord_141 : Dc MX8_goWord 141 143 (.istore 6) 2 := ⟨by decide +kernel, rfl⟩
theorem dX8_goWord_143 : Dc MX8_goWord 143 146 (.iinc 8 1) 3 := ⟨by decide +kernel, rfl⟩
theorem dX8_goWord_146 : Dc MX8_goWord 146 149 (.goto (-86)) 3 := ⟨by decide +kernel, rfl⟩
theorem dX8_goWord_149 : Dc MX8_goWord 149 152 (.iinc 7 1) 3 := ⟨by decide +kernel, rfl⟩
theorem dX8_goWord_152 : Dc MX8_goWord 152 155 (.goto (-111)) 3 := ⟨by decide +kernel, rfl⟩
theorem dX8_goWord_155 : Dc MX8_goWord 155 156 (.aload_n 0) 1 := ⟨by decide +kernel, rfl⟩
theorem dX8_goWord_156 : Dc MX8_goWord 156 158 (.iload 6) 2 := ⟨by decide +kernel, rfl⟩
theorem dX8_goWord_158 : Dc MX8_goWord 158 161 (.putfield 160) 3 := ⟨by decide +kernel, rfl⟩
theorem dX8_goWord_161 : Dc MX8_goWord 161 163 (.iload 4) 2 := ⟨by decide +kernel, rfl⟩
theorem dX8_goWord_163 : Dc MX8_goWord 163 166 (.ifCond .ge 19) 3 := ⟨by decide +kernel, rfl⟩
theorem dX8_goWord_166 : Dc MX8_goWord 166 167 (.aload_n 0) 1 := ⟨by decide +kernel, rfl⟩
theorem dX8_goWord_167 : Dc MX8_goWord 167 170 (.getfield 160) 3 := ⟨by decide +kernel, rfl⟩
theorem dX8_goWord_170 : Dc MX8_goWord 170 171 (.iload_n 3) 1 := ⟨by decide +kernel, rfl⟩
theorem dX8_goWord_171 : Dc MX8_goWord 171 174 (.invokestatic 110) 3 := ⟨by decide +kernel, rfl⟩
theorem dX8_goWord_174 : Dc MX8_goWord 174 177 (.ifCond .eq 8) 3 := ⟨by decide +kernel, rfl⟩
theorem dX8_goWord_177 : Dc MX8_goWord 177 179 (.iload 5) 2 := ⟨by decide +kernel, rfl⟩
theorem dX8_goWord_179 : Dc MX8_goWord 179 182 (.goto 5) 3 := ⟨by decide +kernel, rfl⟩
theorem dX8_goWord_182 : Dc MX8_goWord 182 184 (.iload 4) 2 := ⟨by decide +kernel, rfl⟩
theorem dX8_goWord_184 : Dc MX8_goWord 184 186 (.istore 4) 2 := ⟨by decide +kernel, rfl⟩
theorem dX8_goWord_186 : Dc MX8_goWord 186 189 (.iinc 5 1) 3 := ⟨by decide +kernel, rfl⟩
theorem dX8_goWord_189 : Dc MX8_goWord 189 192 (.goto (-166)) 3 := ⟨by decide +kernel, rfl⟩
theorem dX8_goWord_192 : Dc MX8_goWord 192 194 (.iload 4) 2 := ⟨by decide +kernel, rfl⟩
theorem dX8_goWord_194 : Dc MX8_goWord 194 195 (.ireturn) 1 := ⟨by decide +kernel, rfl⟩
theorem dX8_word_0 : Dc MX8_word 0 1 (.iload_n 1) 1 := ⟨by decide +kernel, rfl⟩
theorem dX8_word_1 : Dc MX8_word 1 4 (.invokestatic 74) 3 := ⟨by decide +kernel, rfl⟩
theorem dX8_word_4 : Dc MX8_word 4 7 (.ifCond .ne 5) 3 := ⟨by decide +kernel, rfl⟩
theorem dX8_word_7 : Dc MX8_word 7 8 (.iconst (-1)) 1 := ⟨by decide +kernel, rfl⟩
theorem dX8_word_8 : Dc MX8_word 8 9 (.ireturn) 1 := ⟨by decide +kernel, rfl⟩
theorem dX8_word_9 : Dc MX8_word 9 10 (.iload_n 2) 1 := ⟨by decide +kernel, rfl⟩
theorem dX8_word_10 : Dc MX8_word 10 11 (.iconst 0) 1 := ⟨by decide +kernel, rfl⟩
theorem dX8_word_11 : Dc MX8_word 11 13 (.bipush 29) 2 := ⟨by decide +kernel, rfl⟩
theorem dX8_word_13 : Dc MX8_word 13 16 (.invokestatic 60) 3 := ⟨by decide +kernel, rfl⟩
theorem dX8_word_16 : Dc MX8_word 16 19 (.ifCond .ne 6) 3 := ⟨by decide +kernel, rfl⟩
theorem dX8_word_19 : Dc MX8_word 19 21 (.bipush (-2)) 2 := ⟨by decide +kernel, rfl⟩
theorem dX8_word_21 : Dc MX8_word 21 22 (.ireturn) 1 := ⟨by decide +kernel, rfl⟩
theorem dX8_word_22 : Dc MX8_word 22 23 (.aload_n 0) 1 := ⟨by decide +kernel, rfl⟩
theorem dX8_word_23 : Dc MX8_word 23 24 (.iload_n 1) 1 := ⟨by decide +kernel, rfl⟩
theorem dX8_word_24 : Dc MX8_word 24 25 (.iload_n 2) 1 := ⟨by decide +kernel, rfl⟩
theorem dX8_word_25 : Dc MX8_word 25 26 (.iload_n 1) 1 := ⟨by decide +kernel, rfl⟩
theorem dX8_word_26 : Dc MX8_word 26 29 (.invokevirtual 163) 3 := ⟨by decide +kernel, rfl⟩
theorem dX8_word_29 : Dc MX8_word 29 30 (.pop) 1 := ⟨by decide +kernel, rfl⟩
theorem dX8_word_30 : Dc MX8_word 30 31 (.aload_n 0) 1 := ⟨by decide +kernel, rfl⟩
theorem dX8_word_31 : Dc MX8_word 31 34 (.getfield 160) 3 := ⟨by decide +kernel, rfl⟩
theorem dX8_word_34 : Dc MX8_word 34 35 (.ireturn) 1 := ⟨by decide +kernel, rfl⟩
theorem dX8_heard_0 : Dc MX8_heard 0 1 (.iload_n 1) 1 := ⟨by decide +kernel, rfl⟩
theorem dX8_heard_1 : Dc MX8_heard 1 4 (.invokestatic 74) 3 := ⟨by decide +kernel, rfl⟩
theorem dX8_heard_4 : Dc MX8_heard 4 7 (.ifCond .eq 10) 3 := ⟨by decide +kernel, rfl⟩
theorem dX8_heard_7 : Dc MX8_heard 7 8 (.iload_n 3) 1 := ⟨by decide +kernel, rfl⟩
theorem dX8_heard_8 : Dc MX8_heard 8 11 (.invokestatic 74) 3 := ⟨by decide +kernel, rfl⟩
theorem dX8_heard_11 : Dc MX8_heard 11 14 (.ifCond .ne 5) 3 := ⟨by decide +kernel, rfl⟩
theorem dX8_heard_14 : Dc MX8_heard 14 15 (.iconst (-1)) 1 := ⟨by decide +kernel, rfl⟩
theorem dX8_heard_15 : Dc MX8_heard 15 16 (.ireturn) 1 := ⟨by decide +kernel, rfl⟩
theorem dX8_heard_16 : Dc MX8_heard 16 17 (.iload_n 2) 1 := ⟨by decide +kernel, rfl⟩
theorem dX8_heard_17 : Dc MX8_heard 17 18 (.iconst 0) 1 := ⟨by decide +kernel, rfl⟩
theorem dX8_heard_18 : Dc MX8_heard 18 20 (.bipush 29) 2 := ⟨by decide +kernel, rfl⟩
theorem dX8_heard_20 : Dc MX8_heard 20 23 (.invokestatic 60) 3 := ⟨by decide +kernel, rfl⟩
theorem dX8_heard_23 : Dc MX8_heard 23 26 (.ifCond .eq 13) 3 := ⟨by decide +kernel, rfl⟩
theorem dX8_heard_26 : Dc MX8_heard 26 27 (.aload_n 0) 1 := ⟨by decide +kernel, rfl⟩
theorem dX8_heard_27 : Dc MX8_heard 27 28 (.iload_n 1) 1 := ⟨by decide +kernel, rfl⟩
theorem dX8_heard_28 : Dc MX8_heard 28 29 (.iload_n 2) 1 := ⟨by decide +kernel, rfl⟩
theorem dX8_heard_29 : Dc MX8_heard 29 30 (.iload_n 3) 1 := ⟨by decide +kernel, rfl⟩
theorem dX8_heard_30 : Dc MX8_heard 30 33 (.invokevirtual 163) 3 := ⟨by decide +kernel, rfl⟩
theorem dX8_heard_33 : Dc MX8_heard 33 36 (.goto 5) 3 := ⟨by decide +kernel, rfl⟩
theorem dX8_heard_36 : Dc MX8_heard 36 38 (.bipush (-2)) 2 := ⟨by decide +kernel, rfl⟩
theorem dX8_heard_38 : Dc MX8_heard 38 39 (.ireturn) 1 := ⟨by decide +kernel, rfl⟩
theorem dX8_richest_0 : Dc MX8_richest 0 1 (.iload_n 1) 1 := ⟨by decide +kernel, rfl⟩
theorem dX8_richest_1 : Dc MX8_richest 1 2 (.iconst 0) 1 := ⟨by decide +kernel, rfl⟩
theorem dX8_richest_2 : Dc MX8_richest 2 3 (.iconst 2) 1 := ⟨by decide +kernel, rfl⟩
theorem dX8_richest_3 : Dc MX8_richest 3 6 (.invokestatic 60) 3 := ⟨by decide +kernel, rfl⟩
theorem dX8_richest_6 : Dc MX8_richest 6 9 (.ifCond .ne 6) 3 := ⟨by decide +kernel, rfl⟩
theorem dX8_richest_9 : Dc MX8_richest 9 11 (.bipush (-2)) 2 := ⟨by decide +kernel, rfl⟩
theorem dX8_richest_11 : Dc MX8_richest 11 12 (.ireturn) 1 := ⟨by decide +kernel, rfl⟩
theorem dX8_richest_12 : Dc MX8_richest 12 13 (.aload_n 0) 1 := ⟨by decide +kernel, rfl⟩
theorem dX8_richest_13 : Dc MX8_richest 13 16 (.invokevirtual 125) 3 := ⟨by decide +kernel, rfl⟩
theorem dX8_richest_16 : Dc MX8_richest 16 17 (.aload_n 0) 1 := ⟨by decide +kernel, rfl⟩
theorem dX8_richest_17 : Dc MX8_richest 17 20 (.invokevirtual 151) 3 := ⟨by decide +kernel, rfl⟩
theorem dX8_richest_20 : Dc MX8_richest 20 21 (.iconst 0) 1 := ⟨by decide +kernel, rfl⟩
theorem dX8_richest_21 : Dc MX8_richest 21 22 (.istore_n 2) 1 := ⟨by decide +kernel, rfl⟩
theorem dX8_richest_22 : Dc MX8_richest 22 23 (.iconst 1) 1 := ⟨by decide +kernel, rfl⟩
theorem dX8_richest_23 : Dc MX8_richest 23 24 (.istore_n 3) 1 := ⟨by decide +kernel, rfl⟩
theorem dX8_richest_24 : Dc MX8_richest 24 25 (.iload_n 3) 1 := ⟨by decide +kernel, rfl⟩
theorem dX8_richest_25 : Dc MX8_richest 25 26 (.iconst 3) 1 := ⟨by decide +kernel, rfl⟩
theorem dX8_richest_26 : Dc MX8_richest 26 29 (.if_icmp .ge 30) 3 := ⟨by decide +kernel, rfl⟩
theorem dX8_richest_29 : Dc MX8_richest 29 30 (.aload_n 0) 1 := ⟨by decide +kernel, rfl⟩
theorem dX8_richest_30 : Dc MX8_richest 30 33 (.getfield 47) 3 := ⟨by decide +kernel, rfl⟩
theorem dX8_richest_33 : Dc MX8_richest 33 34 (.iload_n 3) 1 := ⟨by decide +kernel, rfl⟩
theorem dX8_richest_34 : Dc MX8_richest 34 35 (.iaload) 1 := ⟨by decide +kernel, rfl⟩
theorem dX8_richest_35 : Dc MX8_richest 35 36 (.aload_n 0) 1 := ⟨by decide +kernel, rfl⟩
theorem dX8_richest_36 : Dc MX8_richest 36 39 (.getfield 47) 3 := ⟨by decide +kernel, rfl⟩
theorem dX8_richest_39 : Dc MX8_richest 39 40 (.iload_n 2) 1 := ⟨by decide +kernel, rfl⟩
theorem dX8_richest_40 : Dc MX8_richest 40 41 (.iaload) 1 := ⟨by decide +kernel, rfl⟩
theorem dX8_richest_41 : Dc MX8_richest 41 44 (.if_icmp .le 7) 3 := ⟨by decide +kernel, rfl⟩
theorem dX8_richest_44 : Dc MX8_richest 44 45 (.iload_n 3) 1 := ⟨by decide +kernel, rfl⟩
theorem dX8_richest_45 : Dc MX8_richest 45 48 (.goto 4) 3 := ⟨by decide +kernel, rfl⟩
theorem dX8_richest_48 : Dc MX8_richest 48 49 (.iload_n 2) 1 := ⟨by decide +kernel, rfl⟩
theorem dX8_richest_49 : Dc MX8_richest 49 50 (.istore_n 2) 1 := ⟨by decide +kernel, rfl⟩
theorem dX8_richest_50 : Dc MX8_richest 50 53 (.iinc 3 1) 3 := ⟨by decide +kernel, rfl⟩
theorem dX8_richest_53 : Dc MX8_richest 53 56 (.goto (-29)) 3 := ⟨by decide +kernel, rfl⟩
theorem dX8_richest_56 : Dc MX8_richest 56 58 (.bipush (-6)) 2 := ⟨by decide +kernel, rfl⟩
theorem dX8_richest_58 : Dc MX8_richest 58 59 (.istore_n 3) 1 := ⟨by decide +kernel, rfl⟩
theorem dX8_richest_59 : Dc MX8_richest 59 60 (.iconst 0) 1 := ⟨by decide +kernel, rfl⟩
theorem dX8_richest_60 : Dc MX8_richest 60 62 (.istore 4) 2 := ⟨by decide +kernel, rfl⟩
theorem dX8_richest_62 : Dc MX8_richest 62 63 (.iconst 0) 1 := ⟨by decide +kernel, rfl⟩
theorem dX8_richest_63 : Dc MX8_richest 63 65 (.istore 5) 2 := ⟨by decide +kernel, rfl⟩
theorem dX8_richest_65 : Dc MX8_richest 65 67 (.iload 5) 2 := ⟨by decide +kernel, rfl⟩
theorem dX8_richest_67 : Dc MX8_richest 67 69 (.bipush 6) 2 := ⟨by decide +kernel, rfl⟩
theorem dX8_richest_69 : Dc MX8_richest 69 72 (.if_icmp .ge 54) 3 := ⟨by decide +kernel, rfl⟩
theorem dX8_richest_72 : Dc MX8_richest 72 73 (.aload_n 0) 1 := ⟨by decide +kernel, rfl⟩
theorem dX8_richest_73 : Dc MX8_richest 73 76 (.getfield 44) 3 := ⟨by decide +kernel, rfl⟩
theorem dX8_richest_76 : Dc MX8_richest 76 78 (.iload 5) 2 := ⟨by decide +kernel, rfl⟩
theorem dX8_richest_78 : Dc MX8_richest 78 79 (.iaload) 1 := ⟨by decide +kernel, rfl⟩
theorem dX8_richest_79 : Dc MX8_richest 79 81 (.iload 4) 2 := ⟨by decide +kernel, rfl⟩
theorem dX8_richest_81 : Dc MX8_richest 81 84 (.if_icmp .le 8) 3 := ⟨by decide +kernel, rfl⟩
theorem dX8_richest_84 : Dc MX8_richest 84 86 (.iload 5) 2 := ⟨by decide +kernel, rfl⟩
theorem dX8_richest_86 : Dc MX8_richest 86 89 (.goto 4) 3 := ⟨by decide +kernel, rfl⟩
theorem dX8_richest_89 : Dc MX8_richest 89 90 (.iload_n 3) 1 := ⟨by decide +kernel, rfl⟩
theorem dX8_richest_90 : Dc MX8_richest 90 91 (.istore_n 3) 1 := ⟨by decide +kernel, rfl⟩
theorem dX8_richest_91 : Dc MX8_richest 91 92 (.aload_n 0) 1 := ⟨by decide +kernel, rfl⟩
theorem dX8_richest_92 : Dc MX8_richest 92 95 (.getfield 44) 3 := ⟨by decide +kernel, rfl⟩
theorem dX8_richest_95 : Dc MX8_richest 95 97 (.iload 5) 2 := ⟨by decide +kernel, rfl⟩
theorem dX8_richest_97 : Dc MX8_richest 97 98 (.iaload) 1 := ⟨by decide +kernel, rfl⟩
theorem dX8_richest_98 : Dc MX8_richest 98 100 (.iload 4) 2 := ⟨by decide +kernel, rfl⟩
theorem dX8_richest_100 : Dc MX8_richest 100 103 (.if_icmp .le 13) 3 := ⟨by decide +kernel, rfl⟩
theorem dX8_richest_103 : Dc MX8_richest 103 104 (.aload_n 0) 1 := ⟨by decide +kernel, rfl⟩
theorem dX8_richest_104 : Dc MX8_richest 104 107 (.getfield 44) 3 := ⟨by decide +kernel, rfl⟩
theorem dX8_richest_107 : Dc MX8_richest 107 109 (.iload 5) 2 := ⟨by decide +kernel, rfl⟩
theorem dX8_richest_109 : Dc MX8_richest 109 110 (.iaload) 1 := ⟨by decide +kernel, rfl⟩
theorem dX8_richest_110 : Dc MX8_richest 110 113 (.goto 5) 3 := ⟨by decide +kernel, rfl⟩
theorem dX8_richest_113 : Dc MX8_richest 113 115 (.iload 4) 2 := ⟨by decide +kernel, rfl⟩
theorem dX8_richest_115 : Dc MX8_richest 115 117 (.istore 4) 2 := ⟨by decide +kernel, rfl⟩
theorem dX8_richest_117 : Dc MX8_richest 117 120 (.iinc 5 1) 3 := ⟨by decide +kernel, rfl⟩
theorem dX8_richest_120 : Dc MX8_richest 120 123 (.goto (-55)) 3 := ⟨by decide +kernel, rfl⟩
theorem dX8_richest_123 : Dc MX8_richest 123 124 (.iload_n 1) 1 := ⟨by decide +kernel, rfl⟩
theorem dX8_richest_124 : Dc MX8_richest 124 127 (.ifCond .ne 7) 3 := ⟨by decide +kernel, rfl⟩
theorem dX8_richest_127 : Dc MX8_richest 127 128 (.iload_n 2) 1 := ⟨by decide +kernel, rfl⟩
theorem dX8_richest_128 : Dc MX8_richest 128 131 (.goto 18) 3 := ⟨by decide +kernel, rfl⟩
theorem dX8_richest_131 : Dc MX8_richest 131 132 (.iload_n 1) 1 := ⟨by decide +kernel, rfl⟩
theorem dX8_richest_132 : Dc MX8_richest 132 133 (.iconst 1) 1 := ⟨by decide +kernel, rfl⟩
theorem dX8_richest_133 : Dc MX8_richest 133 136 (.if_icmp .ne 12) 3 := ⟨by decide +kernel, rfl⟩
theorem dX8_richest_136 : Dc MX8_richest 136 137 (.aload_n 0) 1 := ⟨by decide +kernel, rfl⟩
theorem dX8_richest_137 : Dc MX8_richest 137 140 (.getfield 47) 3 := ⟨by decide +kernel, rfl⟩
theorem dX8_richest_140 : Dc MX8_richest 140 141 (.iload_n 2) 1 := ⟨by decide +kernel, rfl⟩
theorem dX8_richest_141 : Dc MX8_richest 141 142 (.iaload) 1 := ⟨by decide +kernel, rfl⟩
theorem dX8_richest_142 : Dc MX8_richest 142 145 (.goto 4) 3 := ⟨by decide +kernel, rfl⟩
theorem dX8_richest_145 : Dc MX8_richest 145 146 (.iload_n 3) 1 := ⟨by decide +kernel, rfl⟩
theorem dX8_richest_146 : Dc MX8_richest 146 147 (.ireturn) 1 := ⟨by decide +kernel, rfl⟩
theorem dX8_seen_0 : Dc MX8_seen 0 1 (.iload_n 2) 1 := ⟨by decide +kernel, rfl⟩
theorem dX8_seen_1 : Dc MX8_seen 1 4 (.invokestatic 74) 3 := ⟨by decide +kernel, rfl⟩
theorem dX8_seen_4 : Dc MX8_seen 4 7 (.ifCond .ne 5) 3 := ⟨by decide +kernel, rfl⟩
theorem dX8_seen_7 : Dc MX8_seen 7 8 (.iconst (-1)) 1 := ⟨by decide +kernel, rfl⟩
theorem dX8_seen_8 : Dc MX8_seen 8 9 (.ireturn) 1 := ⟨by decide +kernel, rfl⟩
theorem dX8_seen_9 : Dc MX8_seen 9 10 (.iload_n 1) 1 := ⟨by decide +kernel, rfl⟩
theorem dX8_seen_10 : Dc MX8_seen 10 11 (.iconst 0) 1 := ⟨by decide +kernel, rfl⟩
theorem dX8_seen_11 : Dc MX8_seen 11 13 (.bipush 29) 2 := ⟨by decide +kernel, rfl⟩
theorem dX8_seen_13 : Dc MX8_seen 13 16 (.invokestatic 60) 3 := ⟨by decide +kernel, rfl⟩
theorem dX8_seen_16 : Dc MX8_seen 16 19 (.ifCond .ne 6) 3 := ⟨by decide +kernel, rfl⟩
theorem dX8_seen_19 : Dc MX8_seen 19 21 (.bipush (-2)) 2 := ⟨by decide +kernel, rfl⟩
theorem dX8_seen_21 : Dc MX8_seen 21 22 (.ireturn) 1 := ⟨by decide +kernel, rfl⟩
theorem dX8_seen_22 : Dc MX8_seen 22 23 (.aload_n 0) 1 := ⟨by decide +kernel, rfl⟩
theorem dX8_seen_23 : Dc MX8_seen 23 26 (.getfield 167) 3 := ⟨by decide +kernel, rfl⟩
theorem dX8_seen_26 : Dc MX8_seen 26 28 (.bipush 8) 2 := ⟨by decide +kernel, rfl⟩
theorem dX8_seen_28 : Dc MX8_seen 28 31 (.if_icmp .ne 6) 3 := ⟨by decide +kernel, rfl⟩
theorem dX8_seen_31 : Dc MX8_seen 31 33 (.bipush (-4)) 2 := ⟨by decide +kernel, rfl⟩
theorem dX8_seen_33 : Dc MX8_seen 33 34 (.ireturn) 1 := ⟨by decide +kernel, rfl⟩
theorem dX8_seen_34 : Dc MX8_seen 34 35 (.aload_n 0) 1 := ⟨by decide +kernel, rfl⟩
theorem dX8_seen_35 : Dc MX8_seen 35 38 (.getfield 32) 3 := ⟨by decide +kernel, rfl⟩
theorem dX8_seen_38 : Dc MX8_seen 38 39 (.iconst 2) 1 := ⟨by decide +kernel, rfl⟩
theorem dX8_seen_39 : Dc MX8_seen 39 40 (.aload_n 0) 1 := ⟨by decide +kernel, rfl⟩
theorem dX8_seen_40 : Dc MX8_seen 40 43 (.getfield 167) 3 := ⟨by decide +kernel, rfl⟩
theorem dX8_seen_43 : Dc MX8_seen 43 44 (.imul) 1 := ⟨by decide +kernel, rfl⟩
theorem dX8_seen_44 : Dc MX8_seen 44 45 (.iload_n 1) 1 := ⟨by decide +kernel, rfl⟩
theorem dX8_seen_45 : Dc MX8_seen 45 46 (.iastore) 1 := ⟨by decide +kernel, rfl⟩
theorem dX8_seen_46 : Dc MX8_seen 46 47 (.aload_n 0) 1 := ⟨by decide +kernel, rfl⟩
theorem dX8_seen_47 : Dc MX8_seen 47 50 (.getfield 32) 3 := ⟨by decide +kernel, rfl⟩
theorem dX8_seen_50 : Dc MX8_seen 50 51 (.iconst 2) 1 := ⟨by decide +kernel, rfl⟩
theorem dX8_seen_51 : Dc MX8_seen 51 52 (.aload_n 0) 1 := ⟨by decide +kernel, rfl⟩
theorem dX8_seen_52 : Dc MX8_seen 52 55 (.getfield 167) 3 := ⟨by decide +kernel, rfl⟩
theorem dX8_seen_55 : Dc MX8_seen 55 56 (.imul) 1 := ⟨by decide +kernel, rfl⟩
theorem dX8_seen_56 : Dc MX8_seen 56 57 (.iconst 1) 1 := ⟨by decide +kernel, rfl⟩
theorem dX8_seen_57 : Dc MX8_seen 57 58 (.iadd) 1 := ⟨by decide +kernel, rfl⟩
theorem dX8_seen_58 : Dc MX8_seen 58 59 (.iload_n 2) 1 := ⟨by decide +kernel, rfl⟩
theorem dX8_seen_59 : Dc MX8_seen 59 60 (.iastore) 1 := ⟨by decide +kernel, rfl⟩
theorem dX8_seen_60 : Dc MX8_seen 60 61 (.aload_n 0) 1 := ⟨by decide +kernel, rfl⟩
theorem dX8_seen_61 : Dc MX8_seen 61 62 (.dup) 1 := ⟨by decide +kernel, rfl⟩
theorem dX8_seen_62 : Dc MX8_seen 62 65 (.getfield 167) 3 := ⟨by decide +kernel, rfl⟩
theorem dX8_seen_65 : Dc MX8_seen 65 66 (.iconst 1) 1 := ⟨by decide +kernel, rfl⟩
theorem dX8_seen_66 : Dc MX8_seen 66 67 (.iadd) 1 := ⟨by decide +kernel, rfl⟩
theorem dX8_seen_67 : Dc MX8_seen 67 70 (.putfield 167) 3 := ⟨by decide +kernel, rfl⟩
theorem dX8_seen_70 : Dc MX8_seen 70 71 (.aload_n 0) 1 := ⟨by decide +kernel, rfl⟩
theorem dX8_seen_71 : Dc MX8_seen 71 74 (.getfield 167) 3 := ⟨by decide +kernel, rfl⟩
theorem dX8_seen_74 : Dc MX8_seen 74 75 (.ireturn) 1 := ⟨by decide +kernel, rfl⟩
theorem dX8_forget_0 : Dc MX8_forget 0 1 (.aload_n 0) 1 := ⟨by decide +kernel, rfl⟩
theorem dX8_forget_1 : Dc MX8_forget 1 4 (.getfield 167) 3 := ⟨by decide +kernel, rfl⟩
theorem dX8_forget_4 : Dc MX8_forget 4 5 (.istore_n 1) 1 := ⟨by decide +kernel, rfl⟩
theorem dX8_forget_5 : Dc MX8_forget 5 6 (.aload_n 0) 1 := ⟨by decide +kernel, rfl⟩
theorem dX8_forget_6 : Dc MX8_forget 6 7 (.iconst 0) 1 := ⟨by decide +kernel, rfl⟩
theorem dX8_forget_7 : Dc MX8_forget 7 10 (.putfield 167) 3 := ⟨by decide +kernel, rfl⟩
theorem dX8_forget_10 : Dc MX8_forget 10 11 (.iload_n 1) 1 := ⟨by decide +kernel, rfl⟩
theorem dX8_forget_11 : Dc MX8_forget 11 12 (.ireturn) 1 := ⟨by decide +kernel, rfl⟩
theorem dX8_humSet_0 : Dc MX8_humSet 0 1 (.iconst 0) 1 := ⟨by decide +kernel, rfl⟩
theorem dX8_humSet_1 : Dc MX8_humSet 1 2 (.istore_n 1) 1 := ⟨by decide +kernel, rfl⟩
theorem dX8_humSet_2 : Dc MX8_humSet 2 3 (.iconst 0) 1 := ⟨by decide +kernel, rfl⟩
theorem dX8_humSet_3 : Dc MX8_humSet 3 4 (.istore_n 2) 1 := ⟨by decide +kernel, rfl⟩
theorem dX8_humSet_4 : Dc MX8_humSet 4 5 (.iload_n 2) 1 := ⟨by decide +kernel, rfl⟩
theorem dX8_humSet_5 : Dc MX8_humSet 5 7 (.bipush 6) 2 := ⟨by decide +kernel, rfl⟩
theorem dX8_humSet_7 : Dc MX8_humSet 7 10 (.if_icmp .ge 127) 3 := ⟨by decide +kernel, rfl⟩
theorem dX8_humSet_10 : Dc MX8_humSet 10 11 (.aload_n 0) 1 := ⟨by decide +kernel, rfl⟩
theorem dX8_humSet_11 : Dc MX8_humSet 11 12 (.iload_n 2) 1 := ⟨by decide +kernel, rfl⟩
theorem dX8_humSet_12 : Dc MX8_humSet 12 15 (.invokevirtual 154) 3 := ⟨by decide +kernel, rfl⟩
theorem dX8_humSet_15 : Dc MX8_humSet 15 16 (.istore_n 3) 1 := ⟨by decide +kernel, rfl⟩
theorem dX8_humSet_16 : Dc MX8_humSet 16 17 (.iconst 0) 1 := ⟨by decide +kernel, rfl⟩
theorem dX8_humSet_17 : Dc MX8_humSet 17 19 (.istore 4) 2 := ⟨by decide +kernel, rfl⟩
theorem dX8_humSet_19 : Dc MX8_humSet 19 21 (.iload 4) 2 := ⟨by decide +kernel, rfl⟩
theorem dX8_humSet_21 : Dc MX8_humSet 21 22 (.aload_n 0) 1 := ⟨by decide +kernel, rfl⟩
theorem dX8_humSet_22 : Dc MX8_humSet 22 25 (.getfield 167) 3 := ⟨by decide +kernel, rfl⟩
theorem dX8_humSet_25 : Dc MX8_humSet 25 28 (.if_icmp .ge 89) 3 := ⟨by decide +kernel, rfl⟩
theorem dX8_humSet_28 : Dc MX8_humSet 28 29 (.aload_n 0) 1 := ⟨by decide +kernel, rfl⟩
theorem dX8_humSet_29 : Dc MX8_humSet 29 32 (.getfield 32) 3 := ⟨by decide +kernel, rfl⟩
theorem dX8_humSet_32 : Dc MX8_humSet 32 33 (.iconst 2) 1 := ⟨by decide +kernel, rfl⟩
theorem dX8_humSet_33 : Dc MX8_humSet 33 35 (.iload 4) 2 := ⟨by decide +kernel, rfl⟩
theorem dX8_humSet_35 : Dc MX8_humSet 35 36 (.imul) 1 := ⟨by decide +kernel, rfl⟩
theorem dX8_humSet_36 : Dc MX8_humSet 36 37 (.iconst 1) 1 := ⟨by decide +kernel, rfl⟩
theorem dX8_humSet_37 : Dc MX8_humSet 37 38 (.iadd) 1 := ⟨by decide +kernel, rfl⟩
theorem dX8_humSet_38 : Dc MX8_humSet 38 39 (.iaload) 1 := ⟨by decide +kernel, rfl⟩
theorem dX8_humSet_39 : Dc MX8_humSet 39 41 (.istore 5) 2 := ⟨by decide +kernel, rfl⟩
theorem dX8_humSet_41 : Dc MX8_humSet 41 42 (.iload_n 3) 1 := ⟨by decide +kernel, rfl⟩
theorem dX8_humSet_42 : Dc MX8_humSet 42 45 (.ifCond .eq 64) 3 := ⟨by decide +kernel, rfl⟩
theorem dX8_humSet_45 : Dc MX8_humSet 45 47 (.iload 5) 2 := ⟨by decide +kernel, rfl⟩
theorem dX8_humSet_47 : Dc MX8_humSet 47 48 (.iload_n 2) 1 := ⟨by decide +kernel, rfl⟩
theorem dX8_humSet_48 : Dc MX8_humSet 48 51 (.if_icmp .eq 58) 3 := ⟨by decide +kernel, rfl⟩
theorem dX8_humSet_51 : Dc MX8_humSet 51 52 (.aload_n 0) 1 := ⟨by decide +kernel, rfl⟩
theorem dX8_humSet_52 : Dc MX8_humSet 52 53 (.iload_n 2) 1 := ⟨by decide +kernel, rfl⟩
theorem dX8_humSet_53 : Dc MX8_humSet 53 54 (.aload_n 0) 1 := ⟨by decide +kernel, rfl⟩
theorem dX8_humSet_54 : Dc MX8_humSet 54 57 (.getfield 32) 3 := ⟨by decide +kernel, rfl⟩
theorem dX8_humSet_57 : Dc MX8_humSet 57 58 (.iconst 2) 1 := ⟨by decide +kernel, rfl⟩
theorem dX8_humSet_58 : Dc MX8_humSet 58 60 (.iload 4) 2 := ⟨by decide +kernel, rfl⟩
theorem dX8_humSet_60 : Dc MX8_humSet 60 61 (.imul) 1 := ⟨by decide +kernel, rfl⟩
theorem dX8_humSet_61 : Dc MX8_humSet 61 62 (.iaload) 1 := ⟨by decide +kernel, rfl⟩
theorem dX8_humSet_62 : Dc MX8_humSet 62 65 (.invokevirtual 78) 3 := ⟨by decide +kernel, rfl⟩
theorem dX8_humSet_65 : Dc MX8_humSet 65 68 (.ifCond .eq 41) 3 := ⟨by decide +kernel, rfl⟩
theorem dX8_humSet_68 : Dc MX8_humSet 68 69 (.aload_n 0) 1 := ⟨by decide +kernel, rfl⟩
theorem dX8_humSet_69 : Dc MX8_humSet 69 71 (.iload 5) 2 := ⟨by decide +kernel, rfl⟩
theorem dX8_humSet_71 : Dc MX8_humSet 71 72 (.aload_n 0) 1 := ⟨by decide +kernel, rfl⟩
theorem dX8_humSet_72 : Dc MX8_humSet 72 75 (.getfield 32) 3 := ⟨by decide +kernel, rfl⟩
theorem dX8_humSet_75 : Dc MX8_humSet 75 76 (.iconst 2) 1 := ⟨by decide +kernel, rfl⟩
theorem dX8_humSet_76 : Dc MX8_humSet 76 78 (.iload 4) 2 := ⟨by decide +kernel, rfl⟩
theorem dX8_humSet_78 : Dc MX8_humSet 78 79 (.imul) 1 := ⟨by decide +kernel, rfl⟩
theorem dX8_humSet_79 : Dc MX8_humSet 79 80 (.iaload) 1 := ⟨by decide +kernel, rfl⟩
theorem dX8_humSet_80 : Dc MX8_humSet 80 83 (.invokevirtual 78) 3 := ⟨by decide +kernel, rfl⟩
theorem dX8_humSet_83 : Dc MX8_humSet 83 86 (.ifCond .eq 23) 3 := ⟨by decide +kernel, rfl⟩
theorem dX8_humSet_86 : Dc MX8_humSet 86 87 (.aload_n 0) 1 := ⟨by decide +kernel, rfl⟩
theorem dX8_humSet_87 : Dc MX8_humSet 87 90 (.getfield 20) 3 := ⟨by decide +kernel, rfl⟩
theorem dX8_humSet_90 : Dc MX8_humSet 90 91 (.iload_n 2) 1 := ⟨by decide +kernel, rfl⟩
theorem dX8_humSet_91 : Dc MX8_humSet 91 92 (.iaload) 1 := ⟨by decide +kernel, rfl⟩
theorem dX8_humSet_92 : Dc MX8_humSet 92 93 (.aload_n 0) 1 := ⟨by decide +kernel, rfl⟩
theorem dX8_humSet_93 : Dc MX8_humSet 93 96 (.getfield 20) 3 := ⟨by decide +kernel, rfl⟩
theorem dX8_humSet_96 : Dc MX8_humSet 96 98 (.iload 5) 2 := ⟨by decide +kernel, rfl⟩
theorem dX8_humSet_98 : Dc MX8_humSet 98 99 (.iaload) 1 := ⟨by decide +kernel, rfl⟩
theorem dX8_humSet_99 : Dc MX8_humSet 99 102 (.if_icmp .ne 7) 3 := ⟨by decide +kernel, rfl⟩
theorem dX8_humSet_102 : Dc MX8_humSet 102 103 (.iconst 1) 1 := ⟨by decide +kernel, rfl⟩
theorem dX8_humSet_103 : Dc MX8_humSet 103 106 (.goto 4) 3 := ⟨by decide +kernel, rfl⟩
theorem dX8_humSet_106 : Dc MX8_humSet 106 107 (.iconst 0) 1 := ⟨by decide +kernel, rfl⟩
theorem dX8_humSet_107 : Dc MX8_humSet 107 108 (.istore_n 3) 1 := ⟨by decide +kernel, rfl⟩
theorem dX8_humSet_108 : Dc MX8_humSet 108 111 (.iinc 4 1) 3 := ⟨by decide +kernel, rfl⟩
theorem dX8_humSet_111 : Dc MX8_humSet 111 114 (.goto (-92)) 3 := ⟨by decide +kernel, rfl⟩
theorem dX8_humSet_114 : Dc MX8_humSet 114 115 (.iload_n 1) 1 := ⟨by decide +kernel, rfl⟩
theorem dX8_humSet_115 : Dc MX8_humSet 115 116 (.iload_n 3) 1 := ⟨by decide +kernel, rfl⟩
theorem dX8_humSet_116 : Dc MX8_humSet 116 119 (.ifCond .eq 9) 3 := ⟨by decide +kernel, rfl⟩
theorem dX8_humSet_119 : Dc MX8_humSet 119 120 (.iconst 1) 1 := ⟨by decide +kernel, rfl⟩
theorem dX8_humSet_120 : Dc MX8_humSet 120 121 (.iload_n 2) 1 := ⟨by decide +kernel, rfl⟩
theorem dX8_humSet_121 : Dc MX8_humSet 121 122 (.ishl) 1 := ⟨by decide +kernel, rfl⟩
theorem dX8_humSet_122 : Dc MX8_humSet 122 125 (.goto 4) 3 := ⟨by decide +kernel, rfl⟩
theorem dX8_humSet_125 : Dc MX8_humSet 125 126 (.iconst 0) 1 := ⟨by decide +kernel, rfl⟩
theorem dX8_humSet_126 : Dc MX8_humSet 126 127 (.ior) 1 := ⟨by decide +kernel, rfl⟩
theorem dX8_humSet_127 : Dc MX8_humSet 127 128 (.istore_n 1) 1 := ⟨by decide +kernel, rfl⟩
theorem dX8_humSet_128 : Dc MX8_humSet 128 131 (.iinc 2 1) 3 := ⟨by decide +kernel, rfl⟩
theorem dX8_humSet_131 : Dc MX8_humSet 131 134 (.goto (-127)) 3 := ⟨by decide +kernel, rfl⟩
theorem dX8_humSet_134 : Dc MX8_humSet 134 135 (.iload_n 1) 1 := ⟨by decide +kernel, rfl⟩
theorem dX8_humSet_135 : Dc MX8_humSet 135 136 (.ireturn) 1 := ⟨by decide +kernel, rfl⟩
theorem dX8_hum_0 : Dc MX8_hum 0 1 (.aload_n 0) 1 := ⟨by decide +kernel, rfl⟩
theorem dX8_hum_1 : Dc MX8_hum 1 4 (.invokevirtual 170) 3 := ⟨by decide +kernel, rfl⟩
theorem dX8_hum_4 : Dc MX8_hum 4 5 (.ireturn) 1 := ⟨by decide +kernel, rfl⟩
theorem dX8_watch_0 : Dc MX8_watch 0 1 (.iload_n 1) 1 := ⟨by decide +kernel, rfl⟩
theorem dX8_watch_1 : Dc MX8_watch 1 2 (.iconst 0) 1 := ⟨by decide +kernel, rfl⟩
theorem dX8_watch_2 : Dc MX8_watch 2 3 (.iconst 1) 1 := ⟨by decide +kernel, rfl⟩
theorem dX8_watch_3 : Dc MX8_watch 3 6 (.invokestatic 60) 3 := ⟨by decide +kernel, rfl⟩
theorem dX8_watch_6 : Dc MX8_watch 6 9 (.ifCond .ne 6) 3 := ⟨by decide +kernel, rfl⟩
theorem dX8_watch_9 : Dc MX8_watch 9 11 (.bipush (-2)) 2 := ⟨by decide +kernel, rfl⟩
theorem dX8_watch_11 : Dc MX8_watch 11 12 (.ireturn) 1 := ⟨by decide +kernel, rfl⟩
theorem dX8_watch_12 : Dc MX8_watch 12 13 (.aload_n 0) 1 := ⟨by decide +kernel, rfl⟩
theorem dX8_watch_13 : Dc MX8_watch 13 16 (.invokevirtual 170) 3 := ⟨by decide +kernel, rfl⟩
theorem dX8_watch_16 : Dc MX8_watch 16 17 (.istore_n 2) 1 := ⟨by decide +kernel, rfl⟩
theorem dX8_watch_17 : Dc MX8_watch 17 19 (.bipush (-6)) 2 := ⟨by decide +kernel, rfl⟩
theorem dX8_watch_19 : Dc MX8_watch 19 20 (.istore_n 3) 1 := ⟨by decide +kernel, rfl⟩
theorem dX8_watch_20 : Dc MX8_watch 20 22 (.ldc 173) 2 := ⟨by decide +kernel, rfl⟩
theorem dX8_watch_22 : Dc MX8_watch 22 24 (.istore 4) 2 := ⟨by decide +kernel, rfl⟩
theorem dX8_watch_24 : Dc MX8_watch 24 25 (.iconst 0) 1 := ⟨by decide +kernel, rfl⟩
theorem dX8_watch_25 : Dc MX8_watch 25 27 (.istore 5) 2 := ⟨by decide +kernel, rfl⟩
theorem dX8_watch_27 : Dc MX8_watch 27 29 (.iload 5) 2 := ⟨by decide +kernel, rfl⟩
theorem dX8_watch_29 : Dc MX8_watch 29 30 (.aload_n 0) 1 := ⟨by decide +kernel, rfl⟩
theorem dX8_watch_30 : Dc MX8_watch 30 33 (.getfield 7) 3 := ⟨by decide +kernel, rfl⟩
theorem dX8_watch_33 : Dc MX8_watch 33 36 (.if_icmp .ge 151) 3 := ⟨by decide +kernel, rfl⟩
theorem dX8_watch_36 : Dc MX8_watch 36 37 (.iload_n 2) 1 := ⟨by decide +kernel, rfl⟩
theorem dX8_watch_37 : Dc MX8_watch 37 40 (.ifCond .eq 147) 3 := ⟨by decide +kernel, rfl⟩
theorem dX8_watch_40 : Dc MX8_watch 40 41 (.iconst 0) 1 := ⟨by decide +kernel, rfl⟩
theorem dX8_watch_41 : Dc MX8_watch 41 43 (.istore 6) 2 := ⟨by decide +kernel, rfl⟩
theorem dX8_watch_43 : Dc MX8_watch 43 45 (.iload 6) 2 := ⟨by decide +kernel, rfl⟩
theorem dX8_watch_45 : Dc MX8_watch 45 46 (.iconst 3) 1 := ⟨by decide +kernel, rfl⟩
theorem dX8_watch_46 : Dc MX8_watch 46 49 (.if_icmp .ge 132) 3 := ⟨by decide +kernel, rfl⟩
theorem dX8_watch_49 : Dc MX8_watch 49 50 (.iconst 0) 1 := ⟨by decide +kernel, rfl⟩
theorem dX8_watch_50 : Dc MX8_watch 50 52 (.istore 7) 2 := ⟨by decide +kernel, rfl⟩
theorem dX8_watch_52 : Dc MX8_watch 52 53 (.iconst 0) 1 := ⟨by decide +kernel, rfl⟩
theorem dX8_watch_53 : Dc MX8_watch 53 55 (.istore 8) 2 := ⟨by decide +kernel, rfl⟩
theorem dX8_watch_55 : Dc MX8_watch 55 57 (.iload 8) 2 := ⟨by decide +kernel, rfl⟩
theorem dX8_watch_57 : Dc MX8_watch 57 59 (.bipush 6) 2 := ⟨by decide +kernel, rfl⟩
theorem dX8_watch_59 : Dc MX8_watch 59 62 (.if_icmp .ge 51) 3 := ⟨by decide +kernel, rfl⟩
theorem dX8_watch_62 : Dc MX8_watch 62 64 (.iload 7) 2 := ⟨by decide +kernel, rfl⟩
theorem dX8_watch_64 : Dc MX8_watch 64 65 (.iload_n 2) 1 := ⟨by decide +kernel, rfl⟩
theorem dX8_watch_65 : Dc MX8_watch 65 67 (.iload 8) 2 := ⟨by decide +kernel, rfl⟩
theorem dX8_watch_67 : Dc MX8_watch 67 70 (.invokestatic 110) 3 := ⟨by decide +kernel, rfl⟩
theorem dX8_watch_70 : Dc MX8_watch 70 73 (.ifCond .eq 30) 3 := ⟨by decide +kernel, rfl⟩
theorem dX8_watch_73 : Dc MX8_watch 73 74 (.aload_n 0) 1 := ⟨by decide +kernel, rfl⟩
theorem dX8_watch_74 : Dc MX8_watch 74 76 (.iload 8) 2 := ⟨by decide +kernel, rfl⟩
theorem dX8_watch_76 : Dc MX8_watch 76 78 (.iload 5) 2 := ⟨by decide +kernel, rfl⟩
theorem dX8_watch_78 : Dc MX8_watch 78 81 (.invokevirtual 78) 3 := ⟨by decide +kernel, rfl⟩
theorem dX8_watch_81 : Dc MX8_watch 81 84 (.ifCond .eq 19) 3 := ⟨by decide +kernel, rfl⟩
theorem dX8_watch_84 : Dc MX8_watch 84 85 (.aload_n 0) 1 := ⟨by decide +kernel, rfl⟩
theorem dX8_watch_85 : Dc MX8_watch 85 88 (.getfield 20) 3 := ⟨by decide +kernel, rfl⟩
theorem dX8_watch_88 : Dc MX8_watch 88 90 (.iload 8) 2 := ⟨by decide +kernel, rfl⟩
theorem dX8_watch_90 : Dc MX8_watch 90 91 (.iaload) 1 := ⟨by decide +kernel, rfl⟩
theorem dX8_watch_91 : Dc MX8_watch 91 93 (.iload 6) 2 := ⟨by decide +kernel, rfl⟩
theorem dX8_watch_93 : Dc MX8_watch 93 96 (.if_icmp .ne 7) 3 := ⟨by decide +kernel, rfl⟩
theorem dX8_watch_96 : Dc MX8_watch 96 97 (.iconst 1) 1 := ⟨by decide +kernel, rfl⟩
theorem dX8_watch_97 : Dc MX8_watch 97 100 (.goto 4) 3 := ⟨by decide +kernel, rfl⟩
theorem dX8_watch_100 : Dc MX8_watch 100 101 (.iconst 0) 1 := ⟨by decide +kernel, rfl⟩
theorem dX8_watch_101 : Dc MX8_watch 101 102 (.iadd) 1 := ⟨by decide +kernel, rfl⟩
theorem dX8_watch_102 : Dc MX8_watch 102 104 (.istore 7) 2 := ⟨by decide +kernel, rfl⟩
theorem dX8_watch_104 : Dc MX8_watch 104 107 (.iinc 8 1) 3 := ⟨by decide +kernel, rfl⟩
theorem dX8_watch_107 : Dc MX8_watch 107 110 (.goto (-52)) 3 := ⟨by decide +kernel, rfl⟩
theorem dX8_watch_110 : Dc MX8_watch 110 112 (.iload 7) 2 := ⟨by decide +kernel, rfl⟩
theorem dX8_watch_112 : Dc MX8_watch 112 113 (.iload_n 2) 1 := ⟨by decide +kernel, rfl⟩
theorem dX8_watch_113 : Dc MX8_watch 113 116 (.invokestatic 70) 3 := ⟨by decide +kernel, rfl⟩
theorem dX8_watch_116 : Dc MX8_watch 116 118 (.iload 7) 2 := ⟨by decide +kernel, rfl⟩
theorem dX8_watch_118 : Dc MX8_watch 118 119 (.isub) 1 := ⟨by decide +kernel, rfl⟩
theorem dX8_watch_119 : Dc MX8_watch 119 122 (.if_icmp .le 8) 3 := ⟨by decide +kernel, rfl⟩
theorem dX8_watch_122 : Dc MX8_watch 122 124 (.iload 7) 2 := ⟨by decide +kernel, rfl⟩
theorem dX8_watch_124 : Dc MX8_watch 124 127 (.goto 10) 3 := ⟨by decide +kernel, rfl⟩
theorem dX8_watch_127 : Dc MX8_watch 127 128 (.iload_n 2) 1 := ⟨by decide +kernel, rfl⟩
theorem dX8_watch_128 : Dc MX8_watch 128 131 (.invokestatic 70) 3 := ⟨by decide +kernel, rfl⟩
theorem dX8_watch_131 : Dc MX8_watch 131 133 (.iload 7) 2 := ⟨by decide +kernel, rfl⟩
theorem dX8_watch_133 : Dc MX8_watch 133 134 (.isub) 1 := ⟨by decide +kernel, rfl⟩
theorem dX8_watch_134 : Dc MX8_watch 134 136 (.istore 8) 2 := ⟨by decide +kernel, rfl⟩
theorem dX8_watch_136 : Dc MX8_watch 136 138 (.iload 8) 2 := ⟨by decide +kernel, rfl⟩
theorem dX8_watch_138 : Dc MX8_watch 138 140 (.iload 4) 2 := ⟨by decide +kernel, rfl⟩
theorem dX8_watch_140 : Dc MX8_watch 140 143 (.if_icmp .ge 14) 3 := ⟨by decide +kernel, rfl⟩
theorem dX8_watch_143 : Dc MX8_watch 143 145 (.bipush 10) 2 := ⟨by decide +kernel, rfl⟩
theorem dX8_watch_145 : Dc MX8_watch 145 147 (.iload 5) 2 := ⟨by decide +kernel, rfl⟩
theorem dX8_watch_147 : Dc MX8_watch 147 148 (.imul) 1 := ⟨by decide +kernel, rfl⟩
theorem dX8_watch_148 : Dc MX8_watch 148 150 (.iload 6) 2 := ⟨by decide +kernel, rfl⟩
theorem dX8_watch_150 : Dc MX8_watch 150 151 (.iadd) 1 := ⟨by decide +kernel, rfl⟩
theorem dX8_watch_151 : Dc MX8_watch 151 154 (.goto 4) 3 := ⟨by decide +kernel, rfl⟩
theorem dX8_watch_154 : Dc MX8_watch 154 155 (.iload_n 3) 1 := ⟨by decide +kernel, rfl⟩
theorem dX8_watch_155 : Dc MX8_watch 155 156 (.istore_n 3) 1 := ⟨by decide +kernel, rfl⟩
theorem dX8_watch_156 : Dc MX8_watch 156 158 (.iload 8) 2 := ⟨by decide +kernel, rfl⟩
theorem dX8_watch_158 : Dc MX8_watch 158 160 (.iload 4) 2 := ⟨by decide +kernel, rfl⟩
theorem dX8_watch_160 : Dc MX8_watch 160 163 (.if_icmp .ge 8) 3 := ⟨by decide +kernel, rfl⟩
theorem dX8_watch_163 : Dc MX8_watch 163 165 (.iload 8) 2 := ⟨by decide +kernel, rfl⟩
theorem dX8_watch_165 : Dc MX8_watch 165 168 (.goto 5) 3 := ⟨by decide +kernel, rfl⟩
theorem dX8_watch_168 : Dc MX8_watch 168 170 (.iload 4) 2 := ⟨by decide +kernel, rfl⟩
theorem dX8_watch_170 : Dc MX8_watch 170 172 (.istore 4) 2 := ⟨by decide +kernel, rfl⟩
theorem dX8_watch_172 : Dc MX8_watch 172 175 (.iinc 6 1) 3 := ⟨by decide +kernel, rfl⟩
theorem dX8_watch_175 : Dc MX8_watch 175 178 (.goto (-132)) 3 := ⟨by decide +kernel, rfl⟩
theorem dX8_watch_178 : Dc MX8_watch 178 181 (.iinc 5 1) 3 := ⟨by decide +kernel, rfl⟩
theorem dX8_watch_181 : Dc MX8_watch 181 184 (.goto (-154)) 3 := ⟨by decide +kernel, rfl⟩
theorem dX8_watch_184 : Dc MX8_watch 184 185 (.iload_n 3) 1 := ⟨by decide +kernel, rfl⟩
theorem dX8_watch_185 : Dc MX8_watch 185 188 (.ifCond .lt 7) 3 := ⟨by decide +kernel, rfl⟩
theorem dX8_watch_188 : Dc MX8_watch 188 189 (.iload_n 1) 1 := ⟨by decide +kernel, rfl⟩
theorem dX8_watch_189 : Dc MX8_watch 189 192 (.ifCond .ne 7) 3 := ⟨by decide +kernel, rfl⟩
theorem dX8_watch_192 : Dc MX8_watch 192 193 (.iload_n 3) 1 := ⟨by decide +kernel, rfl⟩
theorem dX8_watch_193 : Dc MX8_watch 193 196 (.goto 5) 3 := ⟨by decide +kernel, rfl⟩
theorem dX8_watch_196 : Dc MX8_watch 196 198 (.iload 4) 2 := ⟨by decide +kernel, rfl⟩
theorem dX8_watch_198 : Dc MX8_watch 198 199 (.ireturn) 1 := ⟨by decide +kernel, rfl⟩
theorem dX8_auction_0 : Dc MX8_auction 0 1 (.iload_n 1) 1 := ⟨by decide +kernel, rfl⟩
theorem dX8_auction_1 : Dc MX8_auction 1 2 (.iconst 0) 1 := ⟨by decide +kernel, rfl⟩
theorem dX8_auction_2 : Dc MX8_auction 2 4 (.bipush 20) 2 := ⟨by decide +kernel, rfl⟩
theorem dX8_auction_4 : Dc MX8_auction 4 7 (.invokestatic 60) 3 := ⟨by decide +kernel, rfl⟩
theorem dX8_auction_7 : Dc MX8_auction 7 10 (.ifCond .eq 22) 3 := ⟨by decide +kernel, rfl⟩
theorem dX8_auction_10 : Dc MX8_auction 10 11 (.iload_n 2) 1 := ⟨by decide +kernel, rfl⟩
theorem dX8_auction_11 : Dc MX8_auction 11 12 (.iconst 0) 1 := ⟨by decide +kernel, rfl⟩
theorem dX8_auction_12 : Dc MX8_auction 12 14 (.bipush 20) 2 := ⟨by decide +kernel, rfl⟩
theorem dX8_auction_14 : Dc MX8_auction 14 17 (.invokestatic 60) 3 := ⟨by decide +kernel, rfl⟩
theorem dX8_auction_17 : Dc MX8_auction 17 20 (.ifCond .eq 12) 3 := ⟨by decide +kernel, rfl⟩
theorem dX8_auction_20 : Dc MX8_auction 20 21 (.iload_n 3) 1 := ⟨by decide +kernel, rfl⟩
theorem dX8_auction_21 : Dc MX8_auction 21 22 (.iconst 0) 1 := ⟨by decide +kernel, rfl⟩
theorem dX8_auction_22 : Dc MX8_auction 22 23 (.iconst 1) 1 := ⟨by decide +kernel, rfl⟩
theorem dX8_auction_23 : Dc MX8_auction 23 26 (.invokestatic 60) 3 := ⟨by decide +kernel, rfl⟩
theorem dX8_auction_26 : Dc MX8_auction 26 29 (.ifCond .ne 6) 3 := ⟨by decide +kernel, rfl⟩
theorem dX8_auction_29 : Dc MX8_auction 29 31 (.bipush (-2)) 2 := ⟨by decide +kernel, rfl⟩
theorem dX8_auction_31 : Dc MX8_auction 31 32 (.ireturn) 1 := ⟨by decide +kernel, rfl⟩
theorem dX8_auction_32 : Dc MX8_auction 32 33 (.aload_n 0) 1 := ⟨by decide +kernel, rfl⟩
theorem dX8_auction_33 : Dc MX8_auction 33 36 (.getfield 50) 3 := ⟨by decide +kernel, rfl⟩
theorem dX8_auction_36 : Dc MX8_auction 36 38 (.bipush 20) 2 := ⟨by decide +kernel, rfl⟩
theorem dX8_auction_38 : Dc MX8_auction 38 40 (.bipush 20) 2 := ⟨by decide +kernel, rfl⟩
theorem dX8_auction_40 : Dc MX8_auction 40 41 (.iastore) 1 := ⟨by decide +kernel, rfl⟩
theorem dX8_auction_41 : Dc MX8_auction 41 43 (.bipush 19) 2 := ⟨by decide +kernel, rfl⟩
theorem dX8_auction_43 : Dc MX8_auction 43 45 (.istore 4) 2 := ⟨by decide +kernel, rfl⟩
theorem dX8_auction_45 : Dc MX8_auction 45 47 (.iload 4) 2 := ⟨by decide +kernel, rfl⟩
theorem dX8_auction_47 : Dc MX8_auction 47 50 (.ifCond .lt 109) 3 := ⟨by decide +kernel, rfl⟩
theorem dX8_auction_50 : Dc MX8_auction 50 52 (.iload 4) 2 := ⟨by decide +kernel, rfl⟩
theorem dX8_auction_52 : Dc MX8_auction 52 53 (.iconst 2) 1 := ⟨by decide +kernel, rfl⟩
theorem dX8_auction_53 : Dc MX8_auction 53 54 (.irem) 1 := ⟨by decide +kernel, rfl⟩
theorem dX8_auction_54 : Dc MX8_auction 54 57 (.ifCond .ne 7) 3 := ⟨by decide +kernel, rfl⟩
theorem dX8_auction_57 : Dc MX8_auction 57 58 (.iload_n 1) 1 := ⟨by decide +kernel, rfl⟩
theorem dX8_auction_58 : Dc MX8_auction 58 61 (.goto 4) 3 := ⟨by decide +kernel, rfl⟩
theorem dX8_auction_61 : Dc MX8_auction 61 62 (.iload_n 2) 1 := ⟨by decide +kernel, rfl⟩
theorem dX8_auction_62 : Dc MX8_auction 62 64 (.istore 5) 2 := ⟨by decide +kernel, rfl⟩
theorem dX8_auction_64 : Dc MX8_auction 64 65 (.aload_n 0) 1 := ⟨by decide +kernel, rfl⟩
theorem dX8_auction_65 : Dc MX8_auction 65 68 (.getfield 50) 3 := ⟨by decide +kernel, rfl⟩
theorem dX8_auction_68 : Dc MX8_auction 68 70 (.iload 4) 2 := ⟨by decide +kernel, rfl⟩
theorem dX8_auction_70 : Dc MX8_auction 70 71 (.iconst 1) 1 := ⟨by decide +kernel, rfl⟩
theorem dX8_auction_71 : Dc MX8_auction 71 72 (.iadd) 1 := ⟨by decide +kernel, rfl⟩
theorem dX8_auction_72 : Dc MX8_auction 72 73 (.iaload) 1 := ⟨by decide +kernel, rfl⟩
theorem dX8_auction_73 : Dc MX8_auction 73 75 (.istore 6) 2 := ⟨by decide +kernel, rfl⟩
theorem dX8_auction_75 : Dc MX8_auction 75 77 (.iload 6) 2 := ⟨by decide +kernel, rfl⟩
theorem dX8_auction_77 : Dc MX8_auction 77 78 (.iconst 2) 1 := ⟨by decide +kernel, rfl⟩
theorem dX8_auction_78 : Dc MX8_auction 78 79 (.irem) 1 := ⟨by decide +kernel, rfl⟩
theorem dX8_auction_79 : Dc MX8_auction 79 81 (.iload 4) 2 := ⟨by decide +kernel, rfl⟩
theorem dX8_auction_81 : Dc MX8_auction 81 82 (.iconst 1) 1 := ⟨by decide +kernel, rfl⟩
theorem dX8_auction_82 : Dc MX8_auction 82 83 (.iadd) 1 := ⟨by decide +kernel, rfl⟩
theorem dX8_auction_83 : Dc MX8_auction 83 84 (.iconst 2) 1 := ⟨by decide +kernel, rfl⟩
theorem dX8_auction_84 : Dc MX8_auction 84 85 (.irem) 1 := ⟨by decide +kernel, rfl⟩
theorem dX8_auction_85 : Dc MX8_auction 85 88 (.if_icmp .ne 7) 3 := ⟨by decide +kernel, rfl⟩
theorem dX8_auction_88 : Dc MX8_auction 88 89 (.iconst 1) 1 := ⟨by decide +kernel, rfl⟩
theorem dX8_auction_89 : Dc MX8_auction 89 92 (.goto 4) 3 := ⟨by decide +kernel, rfl⟩
theorem dX8_auction_92 : Dc MX8_auction 92 93 (.iconst 0) 1 := ⟨by decide +kernel, rfl⟩
theorem dX8_auction_93 : Dc MX8_auction 93 95 (.istore 7) 2 := ⟨by decide +kernel, rfl⟩
theorem dX8_auction_95 : Dc MX8_auction 95 97 (.iload 7) 2 := ⟨by decide +kernel, rfl⟩
theorem dX8_auction_97 : Dc MX8_auction 97 100 (.ifCond .eq 11) 3 := ⟨by decide +kernel, rfl⟩
theorem dX8_auction_100 : Dc MX8_auction 100 102 (.iload 5) 2 := ⟨by decide +kernel, rfl⟩
theorem dX8_auction_102 : Dc MX8_auction 102 104 (.iload 6) 2 := ⟨by decide +kernel, rfl⟩
theorem dX8_auction_104 : Dc MX8_auction 104 105 (.isub) 1 := ⟨by decide +kernel, rfl⟩
theorem dX8_auction_105 : Dc MX8_auction 105 108 (.goto 7) 3 := ⟨by decide +kernel, rfl⟩
theorem dX8_auction_108 : Dc MX8_auction 108 109 (.iconst 1) 1 := ⟨by decide +kernel, rfl⟩
theorem dX8_auction_109 : Dc MX8_auction 109 111 (.iload 6) 2 := ⟨by decide +kernel, rfl⟩
theorem dX8_auction_111 : Dc MX8_auction 111 112 (.isub) 1 := ⟨by decide +kernel, rfl⟩
theorem dX8_auction_112 : Dc MX8_auction 112 114 (.istore 8) 2 := ⟨by decide +kernel, rfl⟩
theorem dX8_auction_114 : Dc MX8_auction 114 116 (.iload 4) 2 := ⟨by decide +kernel, rfl⟩
theorem dX8_auction_116 : Dc MX8_auction 116 119 (.ifCond .ne 7) 3 := ⟨by decide +kernel, rfl⟩
theorem dX8_auction_119 : Dc MX8_auction 119 120 (.iconst 0) 1 := ⟨by decide +kernel, rfl⟩
theorem dX8_auction_120 : Dc MX8_auction 120 123 (.goto 7) 3 := ⟨by decide +kernel, rfl⟩
theorem dX8_auction_123 : Dc MX8_auction 123 124 (.iconst 1) 1 := ⟨by decide +kernel, rfl⟩
theorem dX8_auction_124 : Dc MX8_auction 124 126 (.iload 4) 2 := ⟨by decide +kernel, rfl⟩
theorem dX8_auction_126 : Dc MX8_auction 126 127 (.isub) 1 := ⟨by decide +kernel, rfl⟩
theorem dX8_auction_127 : Dc MX8_auction 127 129 (.istore 9) 2 := ⟨by decide +kernel, rfl⟩
theorem dX8_auction_129 : Dc MX8_auction 129 130 (.aload_n 0) 1 := ⟨by decide +kernel, rfl⟩
theorem dX8_auction_130 : Dc MX8_auction 130 133 (.getfield 50) 3 := ⟨by decide +kernel, rfl⟩
theorem dX8_auction_133 : Dc MX8_auction 133 135 (.iload 4) 2 := ⟨by decide +kernel, rfl⟩
theorem dX8_auction_135 : Dc MX8_auction 135 137 (.iload 8) 2 := ⟨by decide +kernel, rfl⟩
theorem dX8_auction_137 : Dc MX8_auction 137 139 (.iload 9) 2 := ⟨by decide +kernel, rfl⟩
theorem dX8_auction_139 : Dc MX8_auction 139 142 (.if_icmp .le 8) 3 := ⟨by decide +kernel, rfl⟩
theorem dX8_auction_142 : Dc MX8_auction 142 144 (.iload 6) 2 := ⟨by decide +kernel, rfl⟩
theorem dX8_auction_144 : Dc MX8_auction 144 147 (.goto 5) 3 := ⟨by decide +kernel, rfl⟩
theorem dX8_auction_147 : Dc MX8_auction 147 149 (.iload 4) 2 := ⟨by decide +kernel, rfl⟩
theorem dX8_auction_149 : Dc MX8_auction 149 150 (.iastore) 1 := ⟨by decide +kernel, rfl⟩
theorem dX8_auction_150 : Dc MX8_auction 150 153 (.iinc 4 (-1)) 3 := ⟨by decide +kernel, rfl⟩
theorem dX8_auction_153 : Dc MX8_auction 153 156 (.goto (-108)) 3 := ⟨by decide +kernel, rfl⟩
theorem dX8_auction_156 : Dc MX8_auction 156 157 (.aload_n 0) 1 := ⟨by decide +kernel, rfl⟩
theorem dX8_auction_157 : Dc MX8_auction 157 160 (.getfield 50) 3 := ⟨by decide +kernel, rfl⟩
theorem dX8_auction_160 : Dc MX8_auction 160 161 (.iconst 0) 1 := ⟨by decide +kernel, rfl⟩
theorem dX8_auction_161 : Dc MX8_auction 161 162 (.iaload) 1 := ⟨by decide +kernel, rfl⟩
theorem dX8_auction_162 : Dc MX8_auction 162 165 (.ifCond .ne 8) 3 := ⟨by decide +kernel, rfl⟩
theorem dX8_auction_165 : Dc MX8_auction 165 167 (.bipush (-6)) 2 := ⟨by decide +kernel, rfl⟩
theorem dX8_auction_167 : Dc MX8_auction 167 170 (.goto 34) 3 := ⟨by decide +kernel, rfl⟩
theorem dX8_auction_170 : Dc MX8_auction 170 171 (.iload_n 3) 1 := ⟨by decide +kernel, rfl⟩
theorem dX8_auction_171 : Dc MX8_auction 171 172 (.iconst 1) 1 := ⟨by decide +kernel, rfl⟩
theorem dX8_auction_172 : Dc MX8_auction 172 175 (.if_icmp .ne 12) 3 := ⟨by decide +kernel, rfl⟩
theorem dX8_auction_175 : Dc MX8_auction 175 176 (.aload_n 0) 1 := ⟨by decide +kernel, rfl⟩
theorem dX8_auction_176 : Dc MX8_auction 176 179 (.getfield 50) 3 := ⟨by decide +kernel, rfl⟩
theorem dX8_auction_179 : Dc MX8_auction 179 180 (.iconst 0) 1 := ⟨by decide +kernel, rfl⟩
theorem dX8_auction_180 : Dc MX8_auction 180 181 (.iaload) 1 := ⟨by decide +kernel, rfl⟩
theorem dX8_auction_181 : Dc MX8_auction 181 184 (.goto 20) 3 := ⟨by decide +kernel, rfl⟩
theorem dX8_auction_184 : Dc MX8_auction 184 185 (.aload_n 0) 1 := ⟨by decide +kernel, rfl⟩
theorem dX8_auction_185 : Dc MX8_auction 185 188 (.getfield 50) 3 := ⟨by decide +kernel, rfl⟩
theorem dX8_auction_188 : Dc MX8_auction 188 189 (.iconst 0) 1 := ⟨by decide +kernel, rfl⟩
theorem dX8_auction_189 : Dc MX8_auction 189 190 (.iaload) 1 := ⟨by decide +kernel, rfl⟩
theorem dX8_auction_190 : Dc MX8_auction 190 191 (.iconst 2) 1 := ⟨by decide +kernel, rfl⟩
theorem dX8_auction_191 : Dc MX8_auction 191 192 (.irem) 1 := ⟨by decide +kernel, rfl⟩
theorem dX8_auction_192 : Dc MX8_auction 192 193 (.iconst 1) 1 := ⟨by decide +kernel, rfl⟩
theorem dX8_auction_193 : Dc MX8_auction 193 196 (.if_icmp .ne 7) 3 := ⟨by decide +kernel, rfl⟩
theorem dX8_auction_196 : Dc MX8_auction 196 197 (.iconst 0) 1 := ⟨by decide +kernel, rfl⟩
theorem dX8_auction_197 : Dc MX8_auction 197 200 (.goto 4) 3 := ⟨by decide +kernel, rfl⟩
theorem dX8_auction_200 : Dc MX8_auction 200 201 (.iconst 1) 1 := ⟨by decide +kernel, rfl⟩
theorem dX8_auction_201 : Dc MX8_auction 201 202 (.ireturn) 1 := ⟨by decide +kernel, rfl⟩
theorem dX8_coughs_0 : Dc MX8_coughs 0 1 (.iload_n 1) 1 := ⟨by decide +kernel, rfl⟩
theorem dX8_coughs_1 : Dc MX8_coughs 1 4 (.invokestatic 82) 3 := ⟨by decide +kernel, rfl⟩
theorem dX8_coughs_4 : Dc MX8_coughs 4 7 (.ifCond .ne 7) 3 := ⟨by decide +kernel, rfl⟩
theorem dX8_coughs_7 : Dc MX8_coughs 7 10 (.ldc2_w 174) 3 := ⟨by decide +kernel, rfl⟩
theorem dX8_coughs_10 : Dc MX8_coughs 10 11 (.lreturn) 1 := ⟨by decide +kernel, rfl⟩
theorem dX8_coughs_11 : Dc MX8_coughs 11 12 (.iload_n 2) 1 := ⟨by decide +kernel, rfl⟩
theorem dX8_coughs_12 : Dc MX8_coughs 12 13 (.iconst 0) 1 := ⟨by decide +kernel, rfl⟩
theorem dX8_coughs_13 : Dc MX8_coughs 13 15 (.bipush 10) 2 := ⟨by decide +kernel, rfl⟩
theorem dX8_coughs_15 : Dc MX8_coughs 15 18 (.invokestatic 60) 3 := ⟨by decide +kernel, rfl⟩
theorem dX8_coughs_18 : Dc MX8_coughs 18 21 (.ifCond .eq 12) 3 := ⟨by decide +kernel, rfl⟩
theorem dX8_coughs_21 : Dc MX8_coughs 21 22 (.iload_n 3) 1 := ⟨by decide +kernel, rfl⟩
theorem dX8_coughs_22 : Dc MX8_coughs 22 23 (.iconst 0) 1 := ⟨by decide +kernel, rfl⟩
theorem dX8_coughs_23 : Dc MX8_coughs 23 24 (.iconst 1) 1 := ⟨by decide +kernel, rfl⟩
theorem dX8_coughs_24 : Dc MX8_coughs 24 27 (.invokestatic 60) 3 := ⟨by decide +kernel, rfl⟩
theorem dX8_coughs_27 : Dc MX8_coughs 27 30 (.ifCond .ne 7) 3 := ⟨by decide +kernel, rfl⟩
theorem dX8_coughs_30 : Dc MX8_coughs 30 33 (.ldc2_w 176) 3 := ⟨by decide +kernel, rfl⟩
theorem dX8_coughs_33 : Dc MX8_coughs 33 34 (.lreturn) 1 := ⟨by decide +kernel, rfl⟩
theorem dX8_coughs_34 : Dc MX8_coughs 34 35 (.aload_n 0) 1 := ⟨by decide +kernel, rfl⟩
theorem dX8_coughs_35 : Dc MX8_coughs 35 38 (.invokevirtual 125) 3 := ⟨by decide +kernel, rfl⟩
theorem dX8_coughs_38 : Dc MX8_coughs 38 39 (.lconst 0) 1 := ⟨by decide +kernel, rfl⟩
theorem dX8_coughs_39 : Dc MX8_coughs 39 41 (.lstore 4) 2 := ⟨by decide +kernel, rfl⟩
theorem dX8_coughs_41 : Dc MX8_coughs 41 42 (.aload_n 0) 1 := ⟨by decide +kernel, rfl⟩
theorem dX8_coughs_42 : Dc MX8_coughs 42 45 (.getfield 98) 3 := ⟨by decide +kernel, rfl⟩
theorem dX8_coughs_45 : Dc MX8_coughs 45 46 (.aload_n 0) 1 := ⟨by decide +kernel, rfl⟩
theorem dX8_coughs_46 : Dc MX8_coughs 46 49 (.getfield 7) 3 := ⟨by decide +kernel, rfl⟩
theorem dX8_coughs_49 : Dc MX8_coughs 49 52 (.if_icmp .ge 81) 3 := ⟨by decide +kernel, rfl⟩
theorem dX8_coughs_52 : Dc MX8_coughs 52 53 (.aload_n 0) 1 := ⟨by decide +kernel, rfl⟩
theorem dX8_coughs_53 : Dc MX8_coughs 53 54 (.iload_n 1) 1 := ⟨by decide +kernel, rfl⟩
theorem dX8_coughs_54 : Dc MX8_coughs 54 57 (.invokevirtual 116) 3 := ⟨by decide +kernel, rfl⟩
theorem dX8_coughs_57 : Dc MX8_coughs 57 59 (.istore 6) 2 := ⟨by decide +kernel, rfl⟩
theorem dX8_coughs_59 : Dc MX8_coughs 59 60 (.iconst 0) 1 := ⟨by decide +kernel, rfl⟩
theorem dX8_coughs_60 : Dc MX8_coughs 60 62 (.istore 7) 2 := ⟨by decide +kernel, rfl⟩
theorem dX8_coughs_62 : Dc MX8_coughs 62 64 (.iload 7) 2 := ⟨by decide +kernel, rfl⟩
theorem dX8_coughs_64 : Dc MX8_coughs 64 66 (.bipush 6) 2 := ⟨by decide +kernel, rfl⟩
theorem dX8_coughs_66 : Dc MX8_coughs 66 69 (.if_icmp .ge 57) 3 := ⟨by decide +kernel, rfl⟩
theorem dX8_coughs_69 : Dc MX8_coughs 69 71 (.iload 6) 2 := ⟨by decide +kernel, rfl⟩
theorem dX8_coughs_71 : Dc MX8_coughs 71 74 (.ifCond .lt 52) 3 := ⟨by decide +kernel, rfl⟩
theorem dX8_coughs_74 : Dc MX8_coughs 74 76 (.lload 4) 2 := ⟨by decide +kernel, rfl⟩
theorem dX8_coughs_76 : Dc MX8_coughs 76 78 (.iload 7) 2 := ⟨by decide +kernel, rfl⟩
theorem dX8_coughs_78 : Dc MX8_coughs 78 80 (.iload 6) 2 := ⟨by decide +kernel, rfl⟩
theorem dX8_coughs_80 : Dc MX8_coughs 80 83 (.if_icmp .eq 33) 3 := ⟨by decide +kernel, rfl⟩
theorem dX8_coughs_83 : Dc MX8_coughs 83 84 (.aload_n 0) 1 := ⟨by decide +kernel, rfl⟩
theorem dX8_coughs_84 : Dc MX8_coughs 84 86 (.iload 7) 2 := ⟨by decide +kernel, rfl⟩
theorem dX8_coughs_86 : Dc MX8_coughs 86 89 (.invokevirtual 119) 3 := ⟨by decide +kernel, rfl⟩
theorem dX8_coughs_89 : Dc MX8_coughs 89 92 (.ifCond .eq 24) 3 := ⟨by decide +kernel, rfl⟩
theorem dX8_coughs_92 : Dc MX8_coughs 92 93 (.aload_n 0) 1 := ⟨by decide +kernel, rfl⟩
theorem dX8_coughs_93 : Dc MX8_coughs 93 96 (.getfield 20) 3 := ⟨by decide +kernel, rfl⟩
theorem dX8_coughs_96 : Dc MX8_coughs 96 98 (.iload 7) 2 := ⟨by decide +kernel, rfl⟩
theorem dX8_coughs_98 : Dc MX8_coughs 98 99 (.iaload) 1 := ⟨by decide +kernel, rfl⟩
theorem dX8_coughs_99 : Dc MX8_coughs 99 100 (.iload_n 1) 1 := ⟨by decide +kernel, rfl⟩
theorem dX8_coughs_100 : Dc MX8_coughs 100 103 (.if_icmp .ne 13) 3 := ⟨by decide +kernel, rfl⟩
theorem dX8_coughs_103 : Dc MX8_coughs 103 104 (.aload_n 0) 1 := ⟨by decide +kernel, rfl⟩
theorem dX8_coughs_104 : Dc MX8_coughs 104 107 (.getfield 29) 3 := ⟨by decide +kernel, rfl⟩
theorem dX8_coughs_107 : Dc MX8_coughs 107 108 (.iload_n 2) 1 := ⟨by decide +kernel, rfl⟩
theorem dX8_coughs_108 : Dc MX8_coughs 108 109 (.imul) 1 := ⟨by decide +kernel, rfl⟩
theorem dX8_coughs_109 : Dc MX8_coughs 109 110 (.i2l) 1 := ⟨by decide +kernel, rfl⟩
theorem dX8_coughs_110 : Dc MX8_coughs 110 113 (.goto 4) 3 := ⟨by decide +kernel, rfl⟩
theorem dX8_coughs_113 : Dc MX8_coughs 113 114 (.lconst 0) 1 := ⟨by decide +kernel, rfl⟩
theorem dX8_coughs_114 : Dc MX8_coughs 114 115 (.ladd) 1 := ⟨by decide +kernel, rfl⟩
theorem dX8_coughs_115 : Dc MX8_coughs 115 117 (.lstore 4) 2 := ⟨by decide +kernel, rfl⟩
theorem dX8_coughs_117 : Dc MX8_coughs 117 120 (.iinc 7 1) 3 := ⟨by decide +kernel, rfl⟩
theorem dX8_coughs_120 : Dc MX8_coughs 120 123 (.goto (-58)) 3 := ⟨by decide +kernel, rfl⟩
theorem dX8_coughs_123 : Dc MX8_coughs 123 124 (.aload_n 0) 1 := ⟨by decide +kernel, rfl⟩
theorem dX8_coughs_124 : Dc MX8_coughs 124 127 (.invokevirtual 134) 3 := ⟨by decide +kernel, rfl⟩
theorem dX8_coughs_127 : Dc MX8_coughs 127 130 (.goto (-86)) 3 := ⟨by decide +kernel, rfl⟩
theorem dX8_coughs_130 : Dc MX8_coughs 130 132 (.lload 4) 2 := ⟨by decide +kernel, rfl⟩
theorem dX8_coughs_132 : Dc MX8_coughs 132 134 (.lstore 6) 2 := ⟨by decide +kernel, rfl⟩
theorem dX8_coughs_134 : Dc MX8_coughs 134 137 (.ldc2_w 178) 3 := ⟨by decide +kernel, rfl⟩
theorem dX8_coughs_137 : Dc MX8_coughs 137 139 (.lstore 8) 2 := ⟨by decide +kernel, rfl⟩
theorem dX8_coughs_139 : Dc MX8_coughs 139 141 (.lload 8) 2 := ⟨by decide +kernel, rfl⟩
theorem dX8_coughs_141 : Dc MX8_coughs 141 142 (.lconst 0) 1 := ⟨by decide +kernel, rfl⟩
theorem dX8_coughs_142 : Dc MX8_coughs 142 143 (.lcmp) 1 := ⟨by decide +kernel, rfl⟩
theorem dX8_coughs_143 : Dc MX8_coughs 143 146 (.ifCond .eq 21) 3 := ⟨by decide +kernel, rfl⟩
theorem dX8_coughs_146 : Dc MX8_coughs 146 148 (.lload 6) 2 := ⟨by decide +kernel, rfl⟩
theorem dX8_coughs_148 : Dc MX8_coughs 148 150 (.lload 8) 2 := ⟨by decide +kernel, rfl⟩
theorem dX8_coughs_150 : Dc MX8_coughs 150 151 (.lrem) 1 := ⟨by decide +kernel, rfl⟩
theorem dX8_coughs_151 : Dc MX8_coughs 151 153 (.lstore 10) 2 := ⟨by decide +kernel, rfl⟩
theorem dX8_coughs_153 : Dc MX8_coughs 153 155 (.lload 8) 2 := ⟨by decide +kernel, rfl⟩
theorem dX8_coughs_155 : Dc MX8_coughs 155 157 (.lstore 6) 2 := ⟨by decide +kernel, rfl⟩
theorem dX8_coughs_157 : Dc MX8_coughs 157 159 (.lload 10) 2 := ⟨by decide +kernel, rfl⟩
theorem dX8_coughs_159 : Dc MX8_coughs 159 161 (.lstore 8) 2 := ⟨by decide +kernel, rfl⟩
theorem dX8_coughs_161 : Dc MX8_coughs 161 164 (.goto (-22)) 3 := ⟨by decide +kernel, rfl⟩
theorem dX8_coughs_164 : Dc MX8_coughs 164 165 (.iload_n 3) 1 := ⟨by decide +kernel, rfl⟩
theorem dX8_coughs_165 : Dc MX8_coughs 165 168 (.ifCond .ne 11) 3 := ⟨by decide +kernel, rfl⟩
theorem dX8_coughs_168 : Dc MX8_coughs 168 170 (.lload 4) 2 := ⟨by decide +kernel, rfl⟩
theorem dX8_coughs_170 : Dc MX8_coughs 170 172 (.lload 6) 2 := ⟨by decide +kernel, rfl⟩
theorem dX8_coughs_172 : Dc MX8_coughs 172 173 (.ldiv) 1 := ⟨by decide +kernel, rfl⟩
theorem dX8_coughs_173 : Dc MX8_coughs 173 176 (.goto 9) 3 := ⟨by decide +kernel, rfl⟩
theorem dX8_coughs_176 : Dc MX8_coughs 176 179 (.ldc2_w 178) 3 := ⟨by decide +kernel, rfl⟩
theorem dX8_coughs_179 : Dc MX8_coughs 179 181 (.lload 6) 2 := ⟨by decide +kernel, rfl⟩
theorem dX8_coughs_181 : Dc MX8_coughs 181 182 (.ldiv) 1 := ⟨by decide +kernel, rfl⟩
theorem dX8_coughs_182 : Dc MX8_coughs 182 183 (.lreturn) 1 := ⟨by decide +kernel, rfl⟩
theorem dX8_year_0 : Dc MX8_year 0 1 (.iload_n 1) 1 := ⟨by decide +kernel, rfl⟩
theorem dX8_year_1 : Dc MX8_year 1 2 (.iconst 0) 1 := ⟨by decide +kernel, rfl⟩
theorem dX8_year_2 : Dc MX8_year 2 5 (.sipush 9999) 3 := ⟨by decide +kernel, rfl⟩
theorem dX8_year_5 : Dc MX8_year 5 8 (.invokestatic 60) 3 := ⟨by decide +kernel, rfl⟩
theorem dX8_year_8 : Dc MX8_year 8 11 (.ifCond .eq 22) 3 := ⟨by decide +kernel, rfl⟩
theorem dX8_year_11 : Dc MX8_year 11 12 (.iload_n 2) 1 := ⟨by decide +kernel, rfl⟩
theorem dX8_year_12 : Dc MX8_year 12 13 (.iconst 1) 1 := ⟨by decide +kernel, rfl⟩
theorem dX8_year_13 : Dc MX8_year 13 15 (.bipush 99) 2 := ⟨by decide +kernel, rfl⟩
theorem dX8_year_15 : Dc MX8_year 15 18 (.invokestatic 60) 3 := ⟨by decide +kernel, rfl⟩
theorem dX8_year_18 : Dc MX8_year 18 21 (.ifCond .eq 12) 3 := ⟨by decide +kernel, rfl⟩
theorem dX8_year_21 : Dc MX8_year 21 22 (.iload_n 3) 1 := ⟨by decide +kernel, rfl⟩
theorem dX8_year_22 : Dc MX8_year 22 23 (.iconst 0) 1 := ⟨by decide +kernel, rfl⟩
theorem dX8_year_23 : Dc MX8_year 23 24 (.iconst 2) 1 := ⟨by decide +kernel, rfl⟩
theorem dX8_year_24 : Dc MX8_year 24 27 (.invokestatic 60) 3 := ⟨by decide +kernel, rfl⟩
theorem dX8_year_27 : Dc MX8_year 27 30 (.ifCond .ne 6) 3 := ⟨by decide +kernel, rfl⟩
theorem dX8_year_30 : Dc MX8_year 30 32 (.bipush (-2)) 2 := ⟨by decide +kernel, rfl⟩
theorem dX8_year_32 : Dc MX8_year 32 33 (.ireturn) 1 := ⟨by decide +kernel, rfl⟩
theorem dX8_year_33 : Dc MX8_year 33 34 (.aload_n 0) 1 := ⟨by decide +kernel, rfl⟩
theorem dX8_year_34 : Dc MX8_year 34 37 (.invokevirtual 125) 3 := ⟨by decide +kernel, rfl⟩
theorem dX8_year_37 : Dc MX8_year 37 38 (.iload_n 1) 1 := ⟨by decide +kernel, rfl⟩
theorem dX8_year_38 : Dc MX8_year 38 40 (.istore 4) 2 := ⟨by decide +kernel, rfl⟩
theorem dX8_year_40 : Dc MX8_year 40 41 (.iconst 0) 1 := ⟨by decide +kernel, rfl⟩
theorem dX8_year_41 : Dc MX8_year 41 43 (.istore 5) 2 := ⟨by decide +kernel, rfl⟩
theorem dX8_year_43 : Dc MX8_year 43 45 (.iload 5) 2 := ⟨by decide +kernel, rfl⟩
theorem dX8_year_45 : Dc MX8_year 45 46 (.iload_n 2) 1 := ⟨by decide +kernel, rfl⟩
theorem dX8_year_46 : Dc MX8_year 46 49 (.if_icmp .ge 102) 3 := ⟨by decide +kernel, rfl⟩
theorem dX8_year_49 : Dc MX8_year 49 51 (.bipush 75) 2 := ⟨by decide +kernel, rfl⟩
theorem dX8_year_51 : Dc MX8_year 51 53 (.iload 4) 2 := ⟨by decide +kernel, rfl⟩
theorem dX8_year_53 : Dc MX8_year 53 54 (.imul) 1 := ⟨by decide +kernel, rfl⟩
theorem dX8_year_54 : Dc MX8_year 54 56 (.bipush 74) 2 := ⟨by decide +kernel, rfl⟩
theorem dX8_year_56 : Dc MX8_year 56 57 (.iadd) 1 := ⟨by decide +kernel, rfl⟩
theorem dX8_year_57 : Dc MX8_year 57 59 (.ldc 180) 2 := ⟨by decide +kernel, rfl⟩
theorem dX8_year_59 : Dc MX8_year 59 60 (.irem) 1 := ⟨by decide +kernel, rfl⟩
theorem dX8_year_60 : Dc MX8_year 60 62 (.istore 4) 2 := ⟨by decide +kernel, rfl⟩
theorem dX8_year_62 : Dc MX8_year 62 64 (.iload 4) 2 := ⟨by decide +kernel, rfl⟩
theorem dX8_year_64 : Dc MX8_year 64 66 (.bipush 8) 2 := ⟨by decide +kernel, rfl⟩
theorem dX8_year_66 : Dc MX8_year 66 67 (.irem) 1 := ⟨by decide +kernel, rfl⟩
theorem dX8_year_67 : Dc MX8_year 67 69 (.istore 6) 2 := ⟨by decide +kernel, rfl⟩
theorem dX8_year_69 : Dc MX8_year 69 71 (.iload 4) 2 := ⟨by decide +kernel, rfl⟩
theorem dX8_year_71 : Dc MX8_year 71 73 (.bipush 8) 2 := ⟨by decide +kernel, rfl⟩
theorem dX8_year_73 : Dc MX8_year 73 74 (.idiv) 1 := ⟨by decide +kernel, rfl⟩
theorem dX8_year_74 : Dc MX8_year 74 76 (.bipush 6) 2 := ⟨by decide +kernel, rfl⟩
theorem dX8_year_76 : Dc MX8_year 76 77 (.irem) 1 := ⟨by decide +kernel, rfl⟩
theorem dX8_year_77 : Dc MX8_year 77 79 (.istore 7) 2 := ⟨by decide +kernel, rfl⟩
theorem dX8_year_79 : Dc MX8_year 79 81 (.iload 6) 2 := ⟨by decide +kernel, rfl⟩
theorem dX8_year_81 : Dc MX8_year 81 82 (.iconst 2) 1 := ⟨by decide +kernel, rfl⟩
theorem dX8_year_82 : Dc MX8_year 82 85 (.if_icmp .ge 21) 3 := ⟨by decide +kernel, rfl⟩
theorem dX8_year_85 : Dc MX8_year 85 86 (.aload_n 0) 1 := ⟨by decide +kernel, rfl⟩
theorem dX8_year_86 : Dc MX8_year 86 89 (.getfield 98) 3 := ⟨by decide +kernel, rfl⟩
theorem dX8_year_89 : Dc MX8_year 89 90 (.aload_n 0) 1 := ⟨by decide +kernel, rfl⟩
theorem dX8_year_90 : Dc MX8_year 90 93 (.getfield 7) 3 := ⟨by decide +kernel, rfl⟩
theorem dX8_year_93 : Dc MX8_year 93 96 (.if_icmp .ge 49) 3 := ⟨by decide +kernel, rfl⟩
theorem dX8_year_96 : Dc MX8_year 96 97 (.aload_n 0) 1 := ⟨by decide +kernel, rfl⟩
theorem dX8_year_97 : Dc MX8_year 97 100 (.invokevirtual 134) 3 := ⟨by decide +kernel, rfl⟩
theorem dX8_year_100 : Dc MX8_year 100 103 (.goto 42) 3 := ⟨by decide +kernel, rfl⟩
theorem dX8_year_103 : Dc MX8_year 103 105 (.iload 6) 2 := ⟨by decide +kernel, rfl⟩
theorem dX8_year_105 : Dc MX8_year 105 106 (.iconst 5) 1 := ⟨by decide +kernel, rfl⟩
theorem dX8_year_106 : Dc MX8_year 106 109 (.if_icmp .ge 21) 3 := ⟨by decide +kernel, rfl⟩
theorem dX8_year_109 : Dc MX8_year 109 110 (.aload_n 0) 1 := ⟨by decide +kernel, rfl⟩
theorem dX8_year_110 : Dc MX8_year 110 113 (.getfield 41) 3 := ⟨by decide +kernel, rfl⟩
theorem dX8_year_113 : Dc MX8_year 113 115 (.iload 7) 2 := ⟨by decide +kernel, rfl⟩
theorem dX8_year_115 : Dc MX8_year 115 117 (.iload 4) 2 := ⟨by decide +kernel, rfl⟩
theorem dX8_year_117 : Dc MX8_year 117 119 (.bipush 64) 2 := ⟨by decide +kernel, rfl⟩
theorem dX8_year_119 : Dc MX8_year 119 120 (.idiv) 1 := ⟨by decide +kernel, rfl⟩
theorem dX8_year_120 : Dc MX8_year 120 122 (.bipush 20) 2 := ⟨by decide +kernel, rfl⟩
theorem dX8_year_122 : Dc MX8_year 122 123 (.irem) 1 := ⟨by decide +kernel, rfl⟩
theorem dX8_year_123 : Dc MX8_year 123 124 (.iastore) 1 := ⟨by decide +kernel, rfl⟩
theorem dX8_year_124 : Dc MX8_year 124 127 (.goto 18) 3 := ⟨by decide +kernel, rfl⟩
theorem dX8_year_127 : Dc MX8_year 127 128 (.aload_n 0) 1 := ⟨by decide +kernel, rfl⟩
theorem dX8_year_128 : Dc MX8_year 128 130 (.iload 7) 2 := ⟨by decide +kernel, rfl⟩
theorem dX8_year_130 : Dc MX8_year 130 133 (.invokevirtual 119) 3 := ⟨by decide +kernel, rfl⟩
theorem dX8_year_133 : Dc MX8_year 133 136 (.ifCond .eq 9) 3 := ⟨by decide +kernel, rfl⟩
theorem dX8_year_136 : Dc MX8_year 136 137 (.aload_n 0) 1 := ⟨by decide +kernel, rfl⟩
theorem dX8_year_137 : Dc MX8_year 137 139 (.iload 7) 2 := ⟨by decide +kernel, rfl⟩
theorem dX8_year_139 : Dc MX8_year 139 142 (.invokevirtual 141) 3 := ⟨by decide +kernel, rfl⟩
theorem dX8_year_142 : Dc MX8_year 142 145 (.iinc 5 1) 3 := ⟨by decide +kernel, rfl⟩
theorem dX8_year_145 : Dc MX8_year 145 148 (.goto (-102)) 3 := ⟨by decide +kernel, rfl⟩
theorem dX8_year_148 : Dc MX8_year 148 149 (.iload_n 3) 1 := ⟨by decide +kernel, rfl⟩
theorem dX8_year_149 : Dc MX8_year 149 152 (.ifCond .ne 15) 3 := ⟨by decide +kernel, rfl⟩
theorem dX8_year_152 : Dc MX8_year 152 153 (.aload_n 0) 1 := ⟨by decide +kernel, rfl⟩
theorem dX8_year_153 : Dc MX8_year 153 156 (.getfield 104) 3 := ⟨by decide +kernel, rfl⟩
theorem dX8_year_156 : Dc MX8_year 156 157 (.aload_n 0) 1 := ⟨by decide +kernel, rfl⟩
theorem dX8_year_157 : Dc MX8_year 157 160 (.getfield 101) 3 := ⟨by decide +kernel, rfl⟩
theorem dX8_year_160 : Dc MX8_year 160 161 (.isub) 1 := ⟨by decide +kernel, rfl⟩
theorem dX8_year_161 : Dc MX8_year 161 164 (.goto 19) 3 := ⟨by decide +kernel, rfl⟩
theorem dX8_year_164 : Dc MX8_year 164 165 (.iload_n 3) 1 := ⟨by decide +kernel, rfl⟩
theorem dX8_year_165 : Dc MX8_year 165 166 (.iconst 1) 1 := ⟨by decide +kernel, rfl⟩
theorem dX8_year_166 : Dc MX8_year 166 169 (.if_icmp .ne 10) 3 := ⟨by decide +kernel, rfl⟩
theorem dX8_year_169 : Dc MX8_year 169 170 (.aload_n 0) 1 := ⟨by decide +kernel, rfl⟩
theorem dX8_year_170 : Dc MX8_year 170 173 (.getfield 107) 3 := ⟨by decide +kernel, rfl⟩
theorem dX8_year_173 : Dc MX8_year 173 176 (.goto 7) 3 := ⟨by decide +kernel, rfl⟩
theorem dX8_year_176 : Dc MX8_year 176 177 (.aload_n 0) 1 := ⟨by decide +kernel, rfl⟩
theorem dX8_year_177 : Dc MX8_year 177 180 (.getfield 98) 3 := ⟨by decide +kernel, rfl⟩
theorem dX8_year_180 : Dc MX8_year 180 181 (.ireturn) 1 := ⟨by decide +kernel, rfl⟩
theorem dX8_image_0 : Dc MX8_image 0 1 (.iload_n 1) 1 := ⟨by decide +kernel, rfl⟩
theorem dX8_image_1 : Dc MX8_image 1 2 (.iconst 0) 1 := ⟨by decide +kernel, rfl⟩
theorem dX8_image_2 : Dc MX8_image 2 3 (.iconst 1) 1 := ⟨by decide +kernel, rfl⟩
theorem dX8_image_3 : Dc MX8_image 3 6 (.invokestatic 60) 3 := ⟨by decide +kernel, rfl⟩
theorem dX8_image_6 : Dc MX8_image 6 9 (.ifCond .ne 6) 3 := ⟨by decide +kernel, rfl⟩
theorem dX8_image_9 : Dc MX8_image 9 11 (.bipush (-2)) 2 := ⟨by decide +kernel, rfl⟩
theorem dX8_image_11 : Dc MX8_image 11 12 (.ireturn) 1 := ⟨by decide +kernel, rfl⟩
theorem dX8_image_12 : Dc MX8_image 12 14 (.bipush 70) 2 := ⟨by decide +kernel, rfl⟩
theorem dX8_image_14 : Dc MX8_image 14 15 (.iload_n 1) 1 := ⟨by decide +kernel, rfl⟩
theorem dX8_image_15 : Dc MX8_image 15 16 (.imul) 1 := ⟨by decide +kernel, rfl⟩
theorem dX8_image_16 : Dc MX8_image 16 17 (.istore_n 2) 1 := ⟨by decide +kernel, rfl⟩
theorem dX8_image_17 : Dc MX8_image 17 18 (.iconst 0) 1 := ⟨by decide +kernel, rfl⟩
theorem dX8_image_18 : Dc MX8_image 18 19 (.istore_n 3) 1 := ⟨by decide +kernel, rfl⟩
theorem dX8_image_19 : Dc MX8_image 19 20 (.iload_n 3) 1 := ⟨by decide +kernel, rfl⟩
theorem dX8_image_20 : Dc MX8_image 20 22 (.bipush 6) 2 := ⟨by decide +kernel, rfl⟩
theorem dX8_image_22 : Dc MX8_image 22 25 (.if_icmp .ge 91) 3 := ⟨by decide +kernel, rfl⟩
theorem dX8_image_25 : Dc MX8_image 25 26 (.aload_n 0) 1 := ⟨by decide +kernel, rfl⟩
theorem dX8_image_26 : Dc MX8_image 26 29 (.getfield 53) 3 := ⟨by decide +kernel, rfl⟩
theorem dX8_image_29 : Dc MX8_image 29 30 (.iload_n 2) 1 := ⟨by decide +kernel, rfl⟩
theorem dX8_image_30 : Dc MX8_image 30 31 (.iload_n 3) 1 := ⟨by decide +kernel, rfl⟩
theorem dX8_image_31 : Dc MX8_image 31 32 (.iadd) 1 := ⟨by decide +kernel, rfl⟩
theorem dX8_image_32 : Dc MX8_image 32 33 (.aload_n 0) 1 := ⟨by decide +kernel, rfl⟩
theorem dX8_image_33 : Dc MX8_image 33 36 (.getfield 13) 3 := ⟨by decide +kernel, rfl⟩
theorem dX8_image_36 : Dc MX8_image 36 37 (.iload_n 3) 1 := ⟨by decide +kernel, rfl⟩
theorem dX8_image_37 : Dc MX8_image 37 38 (.iaload) 1 := ⟨by decide +kernel, rfl⟩
theorem dX8_image_38 : Dc MX8_image 38 39 (.iastore) 1 := ⟨by decide +kernel, rfl⟩
theorem dX8_image_39 : Dc MX8_image 39 40 (.aload_n 0) 1 := ⟨by decide +kernel, rfl⟩
theorem dX8_image_40 : Dc MX8_image 40 43 (.getfield 53) 3 := ⟨by decide +kernel, rfl⟩
theorem dX8_image_43 : Dc MX8_image 43 44 (.iload_n 2) 1 := ⟨by decide +kernel, rfl⟩
theorem dX8_image_44 : Dc MX8_image 44 46 (.bipush 6) 2 := ⟨by decide +kernel, rfl⟩
theorem dX8_image_46 : Dc MX8_image 46 47 (.iadd) 1 := ⟨by decide +kernel, rfl⟩
theorem dX8_image_47 : Dc MX8_image 47 48 (.iload_n 3) 1 := ⟨by decide +kernel, rfl⟩
theorem dX8_image_48 : Dc MX8_image 48 49 (.iadd) 1 := ⟨by decide +kernel, rfl⟩
theorem dX8_image_49 : Dc MX8_image 49 50 (.aload_n 0) 1 := ⟨by decide +kernel, rfl⟩
theorem dX8_image_50 : Dc MX8_image 50 53 (.getfield 17) 3 := ⟨by decide +kernel, rfl⟩
theorem dX8_image_53 : Dc MX8_image 53 54 (.iload_n 3) 1 := ⟨by decide +kernel, rfl⟩
theorem dX8_image_54 : Dc MX8_image 54 55 (.iaload) 1 := ⟨by decide +kernel, rfl⟩
theorem dX8_image_55 : Dc MX8_image 55 56 (.iastore) 1 := ⟨by decide +kernel, rfl⟩
theorem dX8_image_56 : Dc MX8_image 56 57 (.aload_n 0) 1 := ⟨by decide +kernel, rfl⟩
theorem dX8_image_57 : Dc MX8_image 57 60 (.getfield 53) 3 := ⟨by decide +kernel, rfl⟩
theorem dX8_image_60 : Dc MX8_image 60 61 (.iload_n 2) 1 := ⟨by decide +kernel, rfl⟩
theorem dX8_image_61 : Dc MX8_image 61 63 (.bipush 12) 2 := ⟨by decide +kernel, rfl⟩
theorem dX8_image_63 : Dc MX8_image 63 64 (.iadd) 1 := ⟨by decide +kernel, rfl⟩
theorem dX8_image_64 : Dc MX8_image 64 65 (.iload_n 3) 1 := ⟨by decide +kernel, rfl⟩
theorem dX8_image_65 : Dc MX8_image 65 66 (.iadd) 1 := ⟨by decide +kernel, rfl⟩
theorem dX8_image_66 : Dc MX8_image 66 67 (.aload_n 0) 1 := ⟨by decide +kernel, rfl⟩
theorem dX8_image_67 : Dc MX8_image 67 70 (.getfield 20) 3 := ⟨by decide +kernel, rfl⟩
theorem dX8_image_70 : Dc MX8_image 70 71 (.iload_n 3) 1 := ⟨by decide +kernel, rfl⟩
theorem dX8_image_71 : Dc MX8_image 71 72 (.iaload) 1 := ⟨by decide +kernel, rfl⟩
theorem dX8_image_72 : Dc MX8_image 72 73 (.iastore) 1 := ⟨by decide +kernel, rfl⟩
theorem dX8_image_73 : Dc MX8_image 73 74 (.aload_n 0) 1 := ⟨by decide +kernel, rfl⟩
theorem dX8_image_74 : Dc MX8_image 74 77 (.getfield 53) 3 := ⟨by decide +kernel, rfl⟩
theorem dX8_image_77 : Dc MX8_image 77 78 (.iload_n 2) 1 := ⟨by decide +kernel, rfl⟩
theorem dX8_image_78 : Dc MX8_image 78 80 (.bipush 18) 2 := ⟨by decide +kernel, rfl⟩
theorem dX8_image_80 : Dc MX8_image 80 81 (.iadd) 1 := ⟨by decide +kernel, rfl⟩
theorem dX8_image_81 : Dc MX8_image 81 82 (.iload_n 3) 1 := ⟨by decide +kernel, rfl⟩
theorem dX8_image_82 : Dc MX8_image 82 83 (.iadd) 1 := ⟨by decide +kernel, rfl⟩
theorem dX8_image_83 : Dc MX8_image 83 84 (.aload_n 0) 1 := ⟨by decide +kernel, rfl⟩
theorem dX8_image_84 : Dc MX8_image 84 87 (.getfield 23) 3 := ⟨by decide +kernel, rfl⟩
theorem dX8_image_87 : Dc MX8_image 87 88 (.iload_n 3) 1 := ⟨by decide +kernel, rfl⟩
theorem dX8_image_88 : Dc MX8_image 88 89 (.iaload) 1 := ⟨by decide +kernel, rfl⟩
theorem dX8_image_89 : Dc MX8_image 89 90 (.iastore) 1 := ⟨by decide +kernel, rfl⟩
theorem dX8_image_90 : Dc MX8_image 90 91 (.aload_n 0) 1 := ⟨by decide +kernel, rfl⟩
theorem dX8_image_91 : Dc MX8_image 91 94 (.getfield 53) 3 := ⟨by decide +kernel, rfl⟩
theorem dX8_image_94 : Dc MX8_image 94 95 (.iload_n 2) 1 := ⟨by decide +kernel, rfl⟩
theorem dX8_image_95 : Dc MX8_image 95 97 (.bipush 24) 2 := ⟨by decide +kernel, rfl⟩
theorem dX8_image_97 : Dc MX8_image 97 98 (.iadd) 1 := ⟨by decide +kernel, rfl⟩
theorem dX8_image_98 : Dc MX8_image 98 99 (.iload_n 3) 1 := ⟨by decide +kernel, rfl⟩
theorem dX8_image_99 : Dc MX8_image 99 100 (.iadd) 1 := ⟨by decide +kernel, rfl⟩
theorem dX8_image_100 : Dc MX8_image 100 101 (.aload_n 0) 1 := ⟨by decide +kernel, rfl⟩
theorem dX8_image_101 : Dc MX8_image 101 104 (.getfield 26) 3 := ⟨by decide +kernel, rfl⟩
theorem dX8_image_104 : Dc MX8_image 104 105 (.iload_n 3) 1 := ⟨by decide +kernel, rfl⟩
theorem dX8_image_105 : Dc MX8_image 105 106 (.iaload) 1 := ⟨by decide +kernel, rfl⟩
theorem dX8_image_106 : Dc MX8_image 106 107 (.iastore) 1 := ⟨by decide +kernel, rfl⟩
theorem dX8_image_107 : Dc MX8_image 107 110 (.iinc 3 1) 3 := ⟨by decide +kernel, rfl⟩
theorem dX8_image_110 : Dc MX8_image 110 113 (.goto (-91)) 3 := ⟨by decide +kernel, rfl⟩
theorem dX8_image_113 : Dc MX8_image 113 114 (.iconst 0) 1 := ⟨by decide +kernel, rfl⟩
theorem dX8_image_114 : Dc MX8_image 114 115 (.istore_n 3) 1 := ⟨by decide +kernel, rfl⟩
theorem dX8_image_115 : Dc MX8_image 115 116 (.iload_n 3) 1 := ⟨by decide +kernel, rfl⟩
theorem dX8_image_116 : Dc MX8_image 116 118 (.bipush 16) 2 := ⟨by decide +kernel, rfl⟩
theorem dX8_image_118 : Dc MX8_image 118 121 (.if_icmp .ge 26) 3 := ⟨by decide +kernel, rfl⟩
theorem dX8_image_121 : Dc MX8_image 121 122 (.aload_n 0) 1 := ⟨by decide +kernel, rfl⟩
theorem dX8_image_122 : Dc MX8_image 122 125 (.getfield 53) 3 := ⟨by decide +kernel, rfl⟩
theorem dX8_image_125 : Dc MX8_image 125 126 (.iload_n 2) 1 := ⟨by decide +kernel, rfl⟩
theorem dX8_image_126 : Dc MX8_image 126 128 (.bipush 30) 2 := ⟨by decide +kernel, rfl⟩
theorem dX8_image_128 : Dc MX8_image 128 129 (.iadd) 1 := ⟨by decide +kernel, rfl⟩
theorem dX8_image_129 : Dc MX8_image 129 130 (.iload_n 3) 1 := ⟨by decide +kernel, rfl⟩
theorem dX8_image_130 : Dc MX8_image 130 131 (.iadd) 1 := ⟨by decide +kernel, rfl⟩
theorem dX8_image_131 : Dc MX8_image 131 132 (.aload_n 0) 1 := ⟨by decide +kernel, rfl⟩
theorem dX8_image_132 : Dc MX8_image 132 135 (.getfield 32) 3 := ⟨by decide +kernel, rfl⟩
theorem dX8_image_135 : Dc MX8_image 135 136 (.iload_n 3) 1 := ⟨by decide +kernel, rfl⟩
theorem dX8_image_136 : Dc MX8_image 136 137 (.iaload) 1 := ⟨by decide +kernel, rfl⟩
theorem dX8_image_137 : Dc MX8_image 137 138 (.iastore) 1 := ⟨by decide +kernel, rfl⟩
theorem dX8_image_138 : Dc MX8_image 138 141 (.iinc 3 1) 3 := ⟨by decide +kernel, rfl⟩
theorem dX8_image_141 : Dc MX8_image 141 144 (.goto (-26)) 3 := ⟨by decide +kernel, rfl⟩
theorem dX8_image_144 : Dc MX8_image 144 145 (.aload_n 0) 1 := ⟨by decide +kernel, rfl⟩
theorem dX8_image_145 : Dc MX8_image 145 148 (.getfield 53) 3 := ⟨by decide +kernel, rfl⟩
theorem dX8_image_148 : Dc MX8_image 148 149 (.iload_n 2) 1 := ⟨by decide +kernel, rfl⟩
theorem dX8_image_149 : Dc MX8_image 149 151 (.bipush 50) 2 := ⟨by decide +kernel, rfl⟩
theorem dX8_image_151 : Dc MX8_image 151 152 (.iadd) 1 := ⟨by decide +kernel, rfl⟩
theorem dX8_image_152 : Dc MX8_image 152 153 (.aload_n 0) 1 := ⟨by decide +kernel, rfl⟩
theorem dX8_image_153 : Dc MX8_image 153 156 (.getfield 7) 3 := ⟨by decide +kernel, rfl⟩
theorem dX8_image_156 : Dc MX8_image 156 157 (.iastore) 1 := ⟨by decide +kernel, rfl⟩
theorem dX8_image_157 : Dc MX8_image 157 158 (.aload_n 0) 1 := ⟨by decide +kernel, rfl⟩
theorem dX8_image_158 : Dc MX8_image 158 161 (.getfield 53) 3 := ⟨by decide +kernel, rfl⟩
theorem dX8_image_161 : Dc MX8_image 161 162 (.iload_n 2) 1 := ⟨by decide +kernel, rfl⟩
theorem dX8_image_162 : Dc MX8_image 162 164 (.bipush 51) 2 := ⟨by decide +kernel, rfl⟩
theorem dX8_image_164 : Dc MX8_image 164 165 (.iadd) 1 := ⟨by decide +kernel, rfl⟩
theorem dX8_image_165 : Dc MX8_image 165 166 (.aload_n 0) 1 := ⟨by decide +kernel, rfl⟩
theorem dX8_image_166 : Dc MX8_image 166 169 (.getfield 67) 3 := ⟨by decide +kernel, rfl⟩
theorem dX8_image_169 : Dc MX8_image 169 170 (.iastore) 1 := ⟨by decide +kernel, rfl⟩
theorem dX8_image_170 : Dc MX8_image 170 171 (.aload_n 0) 1 := ⟨by decide +kernel, rfl⟩
theorem dX8_image_171 : Dc MX8_image 171 174 (.getfield 53) 3 := ⟨by decide +kernel, rfl⟩
theorem dX8_image_174 : Dc MX8_image 174 175 (.iload_n 2) 1 := ⟨by decide +kernel, rfl⟩
theorem dX8_image_175 : Dc MX8_image 175 177 (.bipush 52) 2 := ⟨by decide +kernel, rfl⟩
theorem dX8_image_177 : Dc MX8_image 177 178 (.iadd) 1 := ⟨by decide +kernel, rfl⟩
theorem dX8_image_178 : Dc MX8_image 178 179 (.aload_n 0) 1 := ⟨by decide +kernel, rfl⟩
theorem dX8_image_179 : Dc MX8_image 179 182 (.getfield 29) 3 := ⟨by decide +kernel, rfl⟩
theorem dX8_image_182 : Dc MX8_image 182 183 (.iastore) 1 := ⟨by decide +kernel, rfl⟩
theorem dX8_image_183 : Dc MX8_image 183 184 (.aload_n 0) 1 := ⟨by decide +kernel, rfl⟩
theorem dX8_image_184 : Dc MX8_image 184 187 (.getfield 53) 3 := ⟨by decide +kernel, rfl⟩
theorem dX8_image_187 : Dc MX8_image 187 188 (.iload_n 2) 1 := ⟨by decide +kernel, rfl⟩
theorem dX8_image_188 : Dc MX8_image 188 190 (.bipush 53) 2 := ⟨by decide +kernel, rfl⟩
theorem dX8_image_190 : Dc MX8_image 190 191 (.iadd) 1 := ⟨by decide +kernel, rfl⟩
theorem dX8_image_191 : Dc MX8_image 191 192 (.aload_n 0) 1 := ⟨by decide +kernel, rfl⟩
theorem dX8_image_192 : Dc MX8_image 192 195 (.getfield 64) 3 := ⟨by decide +kernel, rfl⟩
theorem dX8_image_195 : Dc MX8_image 195 196 (.iastore) 1 := ⟨by decide +kernel, rfl⟩
theorem dX8_image_196 : Dc MX8_image 196 197 (.aload_n 0) 1 := ⟨by decide +kernel, rfl⟩
theorem dX8_image_197 : Dc MX8_image 197 200 (.getfield 53) 3 := ⟨by decide +kernel, rfl⟩
theorem dX8_image_200 : Dc MX8_image 200 201 (.iload_n 2) 1 := ⟨by decide +kernel, rfl⟩
theorem dX8_image_201 : Dc MX8_image 201 203 (.bipush 54) 2 := ⟨by decide +kernel, rfl⟩
theorem dX8_image_203 : Dc MX8_image 203 204 (.iadd) 1 := ⟨by decide +kernel, rfl⟩
theorem dX8_image_204 : Dc MX8_image 204 205 (.aload_n 0) 1 := ⟨by decide +kernel, rfl⟩
theorem dX8_image_205 : Dc MX8_image 205 208 (.getfield 101) 3 := ⟨by decide +kernel, rfl⟩
theorem dX8_image_208 : Dc MX8_image 208 209 (.iastore) 1 := ⟨by decide +kernel, rfl⟩
theorem dX8_image_209 : Dc MX8_image 209 210 (.aload_n 0) 1 := ⟨by decide +kernel, rfl⟩
theorem dX8_image_210 : Dc MX8_image 210 213 (.getfield 53) 3 := ⟨by decide +kernel, rfl⟩
theorem dX8_image_213 : Dc MX8_image 213 214 (.iload_n 2) 1 := ⟨by decide +kernel, rfl⟩
theorem dX8_image_214 : Dc MX8_image 214 216 (.bipush 55) 2 := ⟨by decide +kernel, rfl⟩
theorem dX8_image_216 : Dc MX8_image 216 217 (.iadd) 1 := ⟨by decide +kernel, rfl⟩
theorem dX8_image_217 : Dc MX8_image 217 218 (.aload_n 0) 1 := ⟨by decide +kernel, rfl⟩
theorem dX8_image_218 : Dc MX8_image 218 221 (.getfield 167) 3 := ⟨by decide +kernel, rfl⟩
theorem dX8_image_221 : Dc MX8_image 221 222 (.iastore) 1 := ⟨by decide +kernel, rfl⟩
theorem dX8_image_222 : Dc MX8_image 222 223 (.aload_n 0) 1 := ⟨by decide +kernel, rfl⟩
theorem dX8_image_223 : Dc MX8_image 223 226 (.getfield 56) 3 := ⟨by decide +kernel, rfl⟩
theorem dX8_image_226 : Dc MX8_image 226 227 (.iload_n 1) 1 := ⟨by decide +kernel, rfl⟩
theorem dX8_image_227 : Dc MX8_image 227 228 (.iconst 1) 1 := ⟨by decide +kernel, rfl⟩
theorem dX8_image_228 : Dc MX8_image 228 229 (.bastore) 1 := ⟨by decide +kernel, rfl⟩
theorem dX8_image_229 : Dc MX8_image 229 230 (.iconst 1) 1 := ⟨by decide +kernel, rfl⟩
theorem dX8_image_230 : Dc MX8_image 230 231 (.ireturn) 1 := ⟨by decide +kernel, rfl⟩
theorem dX8_restore_0 : Dc MX8_restore 0 1 (.iload_n 1) 1 := ⟨by decide +kernel, rfl⟩
theorem dX8_restore_1 : Dc MX8_restore 1 2 (.iconst 0) 1 := ⟨by decide +kernel, rfl⟩
theorem dX8_restore_2 : Dc MX8_restore 2 3 (.iconst 1) 1 := ⟨by decide +kernel, rfl⟩
theorem dX8_restore_3 : Dc MX8_restore 3 6 (.invokestatic 60) 3 := ⟨by decide +kernel, rfl⟩
theorem dX8_restore_6 : Dc MX8_restore 6 9 (.ifCond .ne 6) 3 := ⟨by decide +kernel, rfl⟩
theorem dX8_restore_9 : Dc MX8_restore 9 11 (.bipush (-2)) 2 := ⟨by decide +kernel, rfl⟩
theorem dX8_restore_11 : Dc MX8_restore 11 12 (.ireturn) 1 := ⟨by decide +kernel, rfl⟩
theorem dX8_restore_12 : Dc MX8_restore 12 13 (.aload_n 0) 1 := ⟨by decide +kernel, rfl⟩
theorem dX8_restore_13 : Dc MX8_restore 13 16 (.getfield 56) 3 := ⟨by decide +kernel, rfl⟩
theorem dX8_restore_16 : Dc MX8_restore 16 17 (.iload_n 1) 1 := ⟨by decide +kernel, rfl⟩
theorem dX8_restore_17 : Dc MX8_restore 17 18 (.baload) 1 := ⟨by decide +kernel, rfl⟩
theorem dX8_restore_18 : Dc MX8_restore 18 21 (.ifCond .ne 6) 3 := ⟨by decide +kernel, rfl⟩
theorem dX8_restore_21 : Dc MX8_restore 21 23 (.bipush (-3)) 2 := ⟨by decide +kernel, rfl⟩
theorem dX8_restore_23 : Dc MX8_restore 23 24 (.ireturn) 1 := ⟨by decide +kernel, rfl⟩
theorem dX8_restore_24 : Dc MX8_restore 24 26 (.bipush 70) 2 := ⟨by decide +kernel, rfl⟩
theorem dX8_restore_26 : Dc MX8_restore 26 27 (.iload_n 1) 1 := ⟨by decide +kernel, rfl⟩
theorem dX8_restore_27 : Dc MX8_restore 27 28 (.imul) 1 := ⟨by decide +kernel, rfl⟩
theorem dX8_restore_28 : Dc MX8_restore 28 29 (.istore_n 2) 1 := ⟨by decide +kernel, rfl⟩
theorem dX8_restore_29 : Dc MX8_restore 29 30 (.iconst 0) 1 := ⟨by decide +kernel, rfl⟩
theorem dX8_restore_30 : Dc MX8_restore 30 31 (.istore_n 3) 1 := ⟨by decide +kernel, rfl⟩
theorem dX8_restore_31 : Dc MX8_restore 31 32 (.iload_n 3) 1 := ⟨by decide +kernel, rfl⟩
theorem dX8_restore_32 : Dc MX8_restore 32 34 (.bipush 6) 2 := ⟨by decide +kernel, rfl⟩
theorem dX8_restore_34 : Dc MX8_restore 34 37 (.if_icmp .ge 91) 3 := ⟨by decide +kernel, rfl⟩
theorem dX8_restore_37 : Dc MX8_restore 37 38 (.aload_n 0) 1 := ⟨by decide +kernel, rfl⟩
theorem dX8_restore_38 : Dc MX8_restore 38 41 (.getfield 13) 3 := ⟨by decide +kernel, rfl⟩
theorem dX8_restore_41 : Dc MX8_restore 41 42 (.iload_n 3) 1 := ⟨by decide +kernel, rfl⟩
theorem dX8_restore_42 : Dc MX8_restore 42 43 (.aload_n 0) 1 := ⟨by decide +kernel, rfl⟩
theorem dX8_restore_43 : Dc MX8_restore 43 46 (.getfield 53) 3 := ⟨by decide +kernel, rfl⟩
theorem dX8_restore_46 : Dc MX8_restore 46 47 (.iload_n 2) 1 := ⟨by decide +kernel, rfl⟩
theorem dX8_restore_47 : Dc MX8_restore 47 48 (.iload_n 3) 1 := ⟨by decide +kernel, rfl⟩
theorem dX8_restore_48 : Dc MX8_restore 48 49 (.iadd) 1 := ⟨by decide +kernel, rfl⟩
theorem dX8_restore_49 : Dc MX8_restore 49 50 (.iaload) 1 := ⟨by decide +kernel, rfl⟩
theorem dX8_restore_50 : Dc MX8_restore 50 51 (.iastore) 1 := ⟨by decide +kernel, rfl⟩
theorem dX8_restore_51 : Dc MX8_restore 51 52 (.aload_n 0) 1 := ⟨by decide +kernel, rfl⟩
theorem dX8_restore_52 : Dc MX8_restore 52 55 (.getfield 17) 3 := ⟨by decide +kernel, rfl⟩
theorem dX8_restore_55 : Dc MX8_restore 55 56 (.iload_n 3) 1 := ⟨by decide +kernel, rfl⟩
theorem dX8_restore_56 : Dc MX8_restore 56 57 (.aload_n 0) 1 := ⟨by decide +kernel, rfl⟩
theorem dX8_restore_57 : Dc MX8_restore 57 60 (.getfield 53) 3 := ⟨by decide +kernel, rfl⟩
theorem dX8_restore_60 : Dc MX8_restore 60 61 (.iload_n 2) 1 := ⟨by decide +kernel, rfl⟩
theorem dX8_restore_61 : Dc MX8_restore 61 63 (.bipush 6) 2 := ⟨by decide +kernel, rfl⟩
theorem dX8_restore_63 : Dc MX8_restore 63 64 (.iadd) 1 := ⟨by decide +kernel, rfl⟩
theorem dX8_restore_64 : Dc MX8_restore 64 65 (.iload_n 3) 1 := ⟨by decide +kernel, rfl⟩
theorem dX8_restore_65 : Dc MX8_restore 65 66 (.iadd) 1 := ⟨by decide +kernel, rfl⟩
theorem dX8_restore_66 : Dc MX8_restore 66 67 (.iaload) 1 := ⟨by decide +kernel, rfl⟩
theorem dX8_restore_67 : Dc MX8_restore 67 68 (.iastore) 1 := ⟨by decide +kernel, rfl⟩
theorem dX8_restore_68 : Dc MX8_restore 68 69 (.aload_n 0) 1 := ⟨by decide +kernel, rfl⟩
theorem dX8_restore_69 : Dc MX8_restore 69 72 (.getfield 20) 3 := ⟨by decide +kernel, rfl⟩
theorem dX8_restore_72 : Dc MX8_restore 72 73 (.iload_n 3) 1 := ⟨by decide +kernel, rfl⟩
theorem dX8_restore_73 : Dc MX8_restore 73 74 (.aload_n 0) 1 := ⟨by decide +kernel, rfl⟩
theorem dX8_restore_74 : Dc MX8_restore 74 77 (.getfield 53) 3 := ⟨by decide +kernel, rfl⟩
theorem dX8_restore_77 : Dc MX8_restore 77 78 (.iload_n 2) 1 := ⟨by decide +kernel, rfl⟩
theorem dX8_restore_78 : Dc MX8_restore 78 80 (.bipush 12) 2 := ⟨by decide +kernel, rfl⟩
theorem dX8_restore_80 : Dc MX8_restore 80 81 (.iadd) 1 := ⟨by decide +kernel, rfl⟩
theorem dX8_restore_81 : Dc MX8_restore 81 82 (.iload_n 3) 1 := ⟨by decide +kernel, rfl⟩
theorem dX8_restore_82 : Dc MX8_restore 82 83 (.iadd) 1 := ⟨by decide +kernel, rfl⟩
theorem dX8_restore_83 : Dc MX8_restore 83 84 (.iaload) 1 := ⟨by decide +kernel, rfl⟩
theorem dX8_restore_84 : Dc MX8_restore 84 85 (.iastore) 1 := ⟨by decide +kernel, rfl⟩
theorem dX8_restore_85 : Dc MX8_restore 85 86 (.aload_n 0) 1 := ⟨by decide +kernel, rfl⟩
theorem dX8_restore_86 : Dc MX8_restore 86 89 (.getfield 23) 3 := ⟨by decide +kernel, rfl⟩
theorem dX8_restore_89 : Dc MX8_restore 89 90 (.iload_n 3) 1 := ⟨by decide +kernel, rfl⟩
theorem dX8_restore_90 : Dc MX8_restore 90 91 (.aload_n 0) 1 := ⟨by decide +kernel, rfl⟩
theorem dX8_restore_91 : Dc MX8_restore 91 94 (.getfield 53) 3 := ⟨by decide +kernel, rfl⟩
theorem dX8_restore_94 : Dc MX8_restore 94 95 (.iload_n 2) 1 := ⟨by decide +kernel, rfl⟩
theorem dX8_restore_95 : Dc MX8_restore 95 97 (.bipush 18) 2 := ⟨by decide +kernel, rfl⟩
theorem dX8_restore_97 : Dc MX8_restore 97 98 (.iadd) 1 := ⟨by decide +kernel, rfl⟩
theorem dX8_restore_98 : Dc MX8_restore 98 99 (.iload_n 3) 1 := ⟨by decide +kernel, rfl⟩
theorem dX8_restore_99 : Dc MX8_restore 99 100 (.iadd) 1 := ⟨by decide +kernel, rfl⟩
theorem dX8_restore_100 : Dc MX8_restore 100 101 (.iaload) 1 := ⟨by decide +kernel, rfl⟩
theorem dX8_restore_101 : Dc MX8_restore 101 102 (.iastore) 1 := ⟨by decide +kernel, rfl⟩
theorem dX8_restore_102 : Dc MX8_restore 102 103 (.aload_n 0) 1 := ⟨by decide +kernel, rfl⟩
theorem dX8_restore_103 : Dc MX8_restore 103 106 (.getfield 26) 3 := ⟨by decide +kernel, rfl⟩
theorem dX8_restore_106 : Dc MX8_restore 106 107 (.iload_n 3) 1 := ⟨by decide +kernel, rfl⟩
theorem dX8_restore_107 : Dc MX8_restore 107 108 (.aload_n 0) 1 := ⟨by decide +kernel, rfl⟩
theorem dX8_restore_108 : Dc MX8_restore 108 111 (.getfield 53) 3 := ⟨by decide +kernel, rfl⟩
theorem dX8_restore_111 : Dc MX8_restore 111 112 (.iload_n 2) 1 := ⟨by decide +kernel, rfl⟩
theorem dX8_restore_112 : Dc MX8_restore 112 114 (.bipush 24) 2 := ⟨by decide +kernel, rfl⟩
theorem dX8_restore_114 : Dc MX8_restore 114 115 (.iadd) 1 := ⟨by decide +kernel, rfl⟩
theorem dX8_restore_115 : Dc MX8_restore 115 116 (.iload_n 3) 1 := ⟨by decide +kernel, rfl⟩
theorem dX8_restore_116 : Dc MX8_restore 116 117 (.iadd) 1 := ⟨by decide +kernel, rfl⟩
theorem dX8_restore_117 : Dc MX8_restore 117 118 (.iaload) 1 := ⟨by decide +kernel, rfl⟩
theorem dX8_restore_118 : Dc MX8_restore 118 119 (.iastore) 1 := ⟨by decide +kernel, rfl⟩
theorem dX8_restore_119 : Dc MX8_restore 119 122 (.iinc 3 1) 3 := ⟨by decide +kernel, rfl⟩
theorem dX8_restore_122 : Dc MX8_restore 122 125 (.goto (-91)) 3 := ⟨by decide +kernel, rfl⟩
theorem dX8_restore_125 : Dc MX8_restore 125 126 (.iconst 0) 1 := ⟨by decide +kernel, rfl⟩
theorem dX8_restore_126 : Dc MX8_restore 126 127 (.istore_n 3) 1 := ⟨by decide +kernel, rfl⟩
theorem dX8_restore_127 : Dc MX8_restore 127 128 (.iload_n 3) 1 := ⟨by decide +kernel, rfl⟩
theorem dX8_restore_128 : Dc MX8_restore 128 130 (.bipush 16) 2 := ⟨by decide +kernel, rfl⟩
theorem dX8_restore_130 : Dc MX8_restore 130 133 (.if_icmp .ge 26) 3 := ⟨by decide +kernel, rfl⟩
theorem dX8_restore_133 : Dc MX8_restore 133 134 (.aload_n 0) 1 := ⟨by decide +kernel, rfl⟩
theorem dX8_restore_134 : Dc MX8_restore 134 137 (.getfield 32) 3 := ⟨by decide +kernel, rfl⟩
theorem dX8_restore_137 : Dc MX8_restore 137 138 (.iload_n 3) 1 := ⟨by decide +kernel, rfl⟩
theorem dX8_restore_138 : Dc MX8_restore 138 139 (.aload_n 0) 1 := ⟨by decide +kernel, rfl⟩
theorem dX8_restore_139 : Dc MX8_restore 139 142 (.getfield 53) 3 := ⟨by decide +kernel, rfl⟩
theorem dX8_restore_142 : Dc MX8_restore 142 143 (.iload_n 2) 1 := ⟨by decide +kernel, rfl⟩
theorem dX8_restore_143 : Dc MX8_restore 143 145 (.bipush 30) 2 := ⟨by decide +kernel, rfl⟩
theorem dX8_restore_145 : Dc MX8_restore 145 146 (.iadd) 1 := ⟨by decide +kernel, rfl⟩
theorem dX8_restore_146 : Dc MX8_restore 146 147 (.iload_n 3) 1 := ⟨by decide +kernel, rfl⟩
theorem dX8_restore_147 : Dc MX8_restore 147 148 (.iadd) 1 := ⟨by decide +kernel, rfl⟩
theorem dX8_restore_148 : Dc MX8_restore 148 149 (.iaload) 1 := ⟨by decide +kernel, rfl⟩
theorem dX8_restore_149 : Dc MX8_restore 149 150 (.iastore) 1 := ⟨by decide +kernel, rfl⟩
theorem dX8_restore_150 : Dc MX8_restore 150 153 (.iinc 3 1) 3 := ⟨by decide +kernel, rfl⟩
theorem dX8_restore_153 : Dc MX8_restore 153 156 (.goto (-26)) 3 := ⟨by decide +kernel, rfl⟩
theorem dX8_restore_156 : Dc MX8_restore 156 157 (.aload_n 0) 1 := ⟨by decide +kernel, rfl⟩
theorem dX8_restore_157 : Dc MX8_restore 157 158 (.aload_n 0) 1 := ⟨by decide +kernel, rfl⟩
theorem dX8_restore_158 : Dc MX8_restore 158 161 (.getfield 53) 3 := ⟨by decide +kernel, rfl⟩
theorem dX8_restore_161 : Dc MX8_restore 161 162 (.iload_n 2) 1 := ⟨by decide +kernel, rfl⟩
theorem dX8_restore_162 : Dc MX8_restore 162 164 (.bipush 50) 2 := ⟨by decide +kernel, rfl⟩
theorem dX8_restore_164 : Dc MX8_restore 164 165 (.iadd) 1 := ⟨by decide +kernel, rfl⟩
theorem dX8_restore_165 : Dc MX8_restore 165 166 (.iaload) 1 := ⟨by decide +kernel, rfl⟩
theorem dX8_restore_166 : Dc MX8_restore 166 169 (.putfield 7) 3 := ⟨by decide +kernel, rfl⟩
theorem dX8_restore_169 : Dc MX8_restore 169 170 (.aload_n 0) 1 := ⟨by decide +kernel, rfl⟩
theorem dX8_restore_170 : Dc MX8_restore 170 171 (.aload_n 0) 1 := ⟨by decide +kernel, rfl⟩
theorem dX8_restore_171 : Dc MX8_restore 171 174 (.getfield 53) 3 := ⟨by decide +kernel, rfl⟩
theorem dX8_restore_174 : Dc MX8_restore 174 175 (.iload_n 2) 1 := ⟨by decide +kernel, rfl⟩
theorem dX8_restore_175 : Dc MX8_restore 175 177 (.bipush 51) 2 := ⟨by decide +kernel, rfl⟩
theorem dX8_restore_177 : Dc MX8_restore 177 178 (.iadd) 1 := ⟨by decide +kernel, rfl⟩
theorem dX8_restore_178 : Dc MX8_restore 178 179 (.iaload) 1 := ⟨by decide +kernel, rfl⟩
theorem dX8_restore_179 : Dc MX8_restore 179 182 (.putfield 67) 3 := ⟨by decide +kernel, rfl⟩
theorem dX8_restore_182 : Dc MX8_restore 182 183 (.aload_n 0) 1 := ⟨by decide +kernel, rfl⟩
theorem dX8_restore_183 : Dc MX8_restore 183 184 (.aload_n 0) 1 := ⟨by decide +kernel, rfl⟩
theorem dX8_restore_184 : Dc MX8_restore 184 187 (.getfield 53) 3 := ⟨by decide +kernel, rfl⟩
theorem dX8_restore_187 : Dc MX8_restore 187 188 (.iload_n 2) 1 := ⟨by decide +kernel, rfl⟩
theorem dX8_restore_188 : Dc MX8_restore 188 190 (.bipush 52) 2 := ⟨by decide +kernel, rfl⟩
theorem dX8_restore_190 : Dc MX8_restore 190 191 (.iadd) 1 := ⟨by decide +kernel, rfl⟩
theorem dX8_restore_191 : Dc MX8_restore 191 192 (.iaload) 1 := ⟨by decide +kernel, rfl⟩
theorem dX8_restore_192 : Dc MX8_restore 192 195 (.putfield 29) 3 := ⟨by decide +kernel, rfl⟩
theorem dX8_restore_195 : Dc MX8_restore 195 196 (.aload_n 0) 1 := ⟨by decide +kernel, rfl⟩
theorem dX8_restore_196 : Dc MX8_restore 196 197 (.aload_n 0) 1 := ⟨by decide +kernel, rfl⟩
theorem dX8_restore_197 : Dc MX8_restore 197 200 (.getfield 53) 3 := ⟨by decide +kernel, rfl⟩
theorem dX8_restore_200 : Dc MX8_restore 200 201 (.iload_n 2) 1 := ⟨by decide +kernel, rfl⟩
theorem dX8_restore_201 : Dc MX8_restore 201 203 (.bipush 53) 2 := ⟨by decide +kernel, rfl⟩
theorem dX8_restore_203 : Dc MX8_restore 203 204 (.iadd) 1 := ⟨by decide +kernel, rfl⟩
theorem dX8_restore_204 : Dc MX8_restore 204 205 (.iaload) 1 := ⟨by decide +kernel, rfl⟩
theorem dX8_restore_205 : Dc MX8_restore 205 208 (.putfield 64) 3 := ⟨by decide +kernel, rfl⟩
theorem dX8_restore_208 : Dc MX8_restore 208 209 (.aload_n 0) 1 := ⟨by decide +kernel, rfl⟩
theorem dX8_restore_209 : Dc MX8_restore 209 210 (.aload_n 0) 1 := ⟨by decide +kernel, rfl⟩
theorem dX8_restore_210 : Dc MX8_restore 210 213 (.getfield 53) 3 := ⟨by decide +kernel, rfl⟩
theorem dX8_restore_213 : Dc MX8_restore 213 214 (.iload_n 2) 1 := ⟨by decide +kernel, rfl⟩
theorem dX8_restore_214 : Dc MX8_restore 214 216 (.bipush 54) 2 := ⟨by decide +kernel, rfl⟩
theorem dX8_restore_216 : Dc MX8_restore 216 217 (.iadd) 1 := ⟨by decide +kernel, rfl⟩
theorem dX8_restore_217 : Dc MX8_restore 217 218 (.iaload) 1 := ⟨by decide +kernel, rfl⟩
theorem dX8_restore_218 : Dc MX8_restore 218 221 (.putfield 101) 3 := ⟨by decide +kernel, rfl⟩
theorem dX8_restore_221 : Dc MX8_restore 221 222 (.aload_n 0) 1 := ⟨by decide +kernel, rfl⟩
theorem dX8_restore_222 : Dc MX8_restore 222 223 (.aload_n 0) 1 := ⟨by decide +kernel, rfl⟩
theorem dX8_restore_223 : Dc MX8_restore 223 226 (.getfield 53) 3 := ⟨by decide +kernel, rfl⟩
theorem dX8_restore_226 : Dc MX8_restore 226 227 (.iload_n 2) 1 := ⟨by decide +kernel, rfl⟩
theorem dX8_restore_227 : Dc MX8_restore 227 229 (.bipush 55) 2 := ⟨by decide +kernel, rfl⟩
theorem dX8_restore_229 : Dc MX8_restore 229 230 (.iadd) 1 := ⟨by decide +kernel, rfl⟩
theorem dX8_restore_230 : Dc MX8_restore 230 231 (.iaload) 1 := ⟨by decide +kernel, rfl⟩
theorem dX8_restore_231 : Dc MX8_restore 231 234 (.putfield 167) 3 := ⟨by decide +kernel, rfl⟩
theorem dX8_restore_234 : Dc MX8_restore 234 235 (.iconst 1) 1 := ⟨by decide +kernel, rfl⟩
theorem dX8_restore_235 : Dc MX8_restore 235 236 (.ireturn) 1 := ⟨by decide +kernel, rfl⟩
theorem dX8_told_0 : Dc MX8_told 0 1 (.iload_n 1) 1 := ⟨by decide +kernel, rfl⟩
theorem dX8_told_1 : Dc MX8_told 1 3 (.bipush 10) 2 := ⟨by decide +kernel, rfl⟩
theorem dX8_told_3 : Dc MX8_told 3 6 (.if_icmp .lt 101) 3 := ⟨by decide +kernel, rfl⟩
theorem dX8_told_6 : Dc MX8_told 6 7 (.iload_n 1) 1 := ⟨by decide +kernel, rfl⟩
theorem dX8_told_7 : Dc MX8_told 7 9 (.bipush 10) 2 := ⟨by decide +kernel, rfl⟩
theorem dX8_told_9 : Dc MX8_told 9 10 (.idiv) 1 := ⟨by decide +kernel, rfl⟩
theorem dX8_told_10 : Dc MX8_told 10 11 (.iconst 1) 1 := ⟨by decide +kernel, rfl⟩
theorem dX8_told_11 : Dc MX8_told 11 12 (.isub) 1 := ⟨by decide +kernel, rfl⟩
theorem dX8_told_12 : Dc MX8_told 12 13 (.istore_n 2) 1 := ⟨by decide +kernel, rfl⟩
theorem dX8_told_13 : Dc MX8_told 13 14 (.iload_n 2) 1 := ⟨by decide +kernel, rfl⟩
theorem dX8_told_14 : Dc MX8_told 14 17 (.invokestatic 74) 3 := ⟨by decide +kernel, rfl⟩
theorem dX8_told_17 : Dc MX8_told 17 20 (.ifCond .ne 6) 3 := ⟨by decide +kernel, rfl⟩
theorem dX8_told_20 : Dc MX8_told 20 22 (.bipush (-2)) 2 := ⟨by decide +kernel, rfl⟩
theorem dX8_told_22 : Dc MX8_told 22 23 (.ireturn) 1 := ⟨by decide +kernel, rfl⟩
theorem dX8_told_23 : Dc MX8_told 23 24 (.iload_n 1) 1 := ⟨by decide +kernel, rfl⟩
theorem dX8_told_24 : Dc MX8_told 24 26 (.bipush 10) 2 := ⟨by decide +kernel, rfl⟩
theorem dX8_told_26 : Dc MX8_told 26 27 (.irem) 1 := ⟨by decide +kernel, rfl⟩
theorem dX8_told_27 : Dc MX8_told 27 56 (.tableswitch 57 0 3 #[29, 36, 43, 50]) 29 := ⟨by decide +kernel, rfl⟩
theorem dX8_told_56 : Dc MX8_told 56 57 (.aload_n 0) 1 := ⟨by decide +kernel, rfl⟩
theorem dX8_told_57 : Dc MX8_told 57 60 (.getfield 13) 3 := ⟨by decide +kernel, rfl⟩
theorem dX8_told_60 : Dc MX8_told 60 61 (.iload_n 2) 1 := ⟨by decide +kernel, rfl⟩
theorem dX8_told_61 : Dc MX8_told 61 62 (.iaload) 1 := ⟨by decide +kernel, rfl⟩
theorem dX8_told_62 : Dc MX8_told 62 63 (.ireturn) 1 := ⟨by decide +kernel, rfl⟩
theorem dX8_told_63 : Dc MX8_told 63 64 (.aload_n 0) 1 := ⟨by decide +kernel, rfl⟩
theorem dX8_told_64 : Dc MX8_told 64 67 (.getfield 17) 3 := ⟨by decide +kernel, rfl⟩
theorem dX8_told_67 : Dc MX8_told 67 68 (.iload_n 2) 1 := ⟨by decide +kernel, rfl⟩
theorem dX8_told_68 : Dc MX8_told 68 69 (.iaload) 1 := ⟨by decide +kernel, rfl⟩
theorem dX8_told_69 : Dc MX8_told 69 70 (.ireturn) 1 := ⟨by decide +kernel, rfl⟩
theorem dX8_told_70 : Dc MX8_told 70 71 (.aload_n 0) 1 := ⟨by decide +kernel, rfl⟩
theorem dX8_told_71 : Dc MX8_told 71 74 (.getfield 20) 3 := ⟨by decide +kernel, rfl⟩
theorem dX8_told_74 : Dc MX8_told 74 75 (.iload_n 2) 1 := ⟨by decide +kernel, rfl⟩
theorem dX8_told_75 : Dc MX8_told 75 76 (.iaload) 1 := ⟨by decide +kernel, rfl⟩
theorem dX8_told_76 : Dc MX8_told 76 77 (.ireturn) 1 := ⟨by decide +kernel, rfl⟩
theorem dX8_told_77 : Dc MX8_told 77 78 (.aload_n 0) 1 := ⟨by decide +kernel, rfl⟩
theorem dX8_told_78 : Dc MX8_told 78 81 (.getfield 23) 3 := ⟨by decide +kernel, rfl⟩
theorem dX8_told_81 : Dc MX8_told 81 82 (.iload_n 2) 1 := ⟨by decide +kernel, rfl⟩
theorem dX8_told_82 : Dc MX8_told 82 83 (.iaload) 1 := ⟨by decide +kernel, rfl⟩
theorem dX8_told_83 : Dc MX8_told 83 84 (.ireturn) 1 := ⟨by decide +kernel, rfl⟩
theorem dX8_told_84 : Dc MX8_told 84 85 (.iload_n 1) 1 := ⟨by decide +kernel, rfl⟩
theorem dX8_told_85 : Dc MX8_told 85 87 (.bipush 10) 2 := ⟨by decide +kernel, rfl⟩
theorem dX8_told_87 : Dc MX8_told 87 88 (.irem) 1 := ⟨by decide +kernel, rfl⟩
theorem dX8_told_88 : Dc MX8_told 88 89 (.iconst 4) 1 := ⟨by decide +kernel, rfl⟩
theorem dX8_told_89 : Dc MX8_told 89 92 (.if_icmp .ne 12) 3 := ⟨by decide +kernel, rfl⟩
theorem dX8_told_92 : Dc MX8_told 92 93 (.aload_n 0) 1 := ⟨by decide +kernel, rfl⟩
theorem dX8_told_93 : Dc MX8_told 93 96 (.getfield 26) 3 := ⟨by decide +kernel, rfl⟩
theorem dX8_told_96 : Dc MX8_told 96 97 (.iload_n 2) 1 := ⟨by decide +kernel, rfl⟩
theorem dX8_told_97 : Dc MX8_told 97 98 (.iaload) 1 := ⟨by decide +kernel, rfl⟩
theorem dX8_told_98 : Dc MX8_told 98 101 (.goto 5) 3 := ⟨by decide +kernel, rfl⟩
theorem dX8_told_101 : Dc MX8_told 101 103 (.bipush (-2)) 2 := ⟨by decide +kernel, rfl⟩
theorem dX8_told_103 : Dc MX8_told 103 104 (.ireturn) 1 := ⟨by decide +kernel, rfl⟩
theorem dX8_told_104 : Dc MX8_told 104 105 (.iload_n 1) 1 := ⟨by decide +kernel, rfl⟩
theorem dX8_told_105 : Dc MX8_told 105 144 (.tableswitch 69 0 5 #[39, 44, 49, 54, 59, 64]) 39 := ⟨by decide +kernel, rfl⟩
theorem dX8_told_144 : Dc MX8_told 144 145 (.aload_n 0) 1 := ⟨by decide +kernel, rfl⟩
theorem dX8_told_145 : Dc MX8_told 145 148 (.getfield 85) 3 := ⟨by decide +kernel, rfl⟩
theorem dX8_told_148 : Dc MX8_told 148 149 (.ireturn) 1 := ⟨by decide +kernel, rfl⟩
theorem dX8_told_149 : Dc MX8_told 149 150 (.aload_n 0) 1 := ⟨by decide +kernel, rfl⟩
theorem dX8_told_150 : Dc MX8_told 150 153 (.getfield 7) 3 := ⟨by decide +kernel, rfl⟩
theorem dX8_told_153 : Dc MX8_told 153 154 (.ireturn) 1 := ⟨by decide +kernel, rfl⟩
theorem dX8_told_154 : Dc MX8_told 154 155 (.aload_n 0) 1 := ⟨by decide +kernel, rfl⟩
theorem dX8_told_155 : Dc MX8_told 155 158 (.getfield 64) 3 := ⟨by decide +kernel, rfl⟩
theorem dX8_told_158 : Dc MX8_told 158 159 (.ireturn) 1 := ⟨by decide +kernel, rfl⟩
theorem dX8_told_159 : Dc MX8_told 159 160 (.aload_n 0) 1 := ⟨by decide +kernel, rfl⟩
theorem dX8_told_160 : Dc MX8_told 160 163 (.getfield 101) 3 := ⟨by decide +kernel, rfl⟩
theorem dX8_told_163 : Dc MX8_told 163 164 (.ireturn) 1 := ⟨by decide +kernel, rfl⟩
theorem dX8_told_164 : Dc MX8_told 164 165 (.aload_n 0) 1 := ⟨by decide +kernel, rfl⟩
theorem dX8_told_165 : Dc MX8_told 165 168 (.getfield 29) 3 := ⟨by decide +kernel, rfl⟩
theorem dX8_told_168 : Dc MX8_told 168 169 (.ireturn) 1 := ⟨by decide +kernel, rfl⟩
theorem dX8_told_169 : Dc MX8_told 169 170 (.aload_n 0) 1 := ⟨by decide +kernel, rfl⟩
theorem dX8_told_170 : Dc MX8_told 170 173 (.getfield 167) 3 := ⟨by decide +kernel, rfl⟩
theorem dX8_told_173 : Dc MX8_told 173 174 (.ireturn) 1 := ⟨by decide +kernel, rfl⟩
theorem dX8_told_174 : Dc MX8_told 174 175 (.iload_n 1) 1 := ⟨by decide +kernel, rfl⟩
theorem dX8_told_175 : Dc MX8_told 175 177 (.bipush 6) 2 := ⟨by decide +kernel, rfl⟩
theorem dX8_told_177 : Dc MX8_told 177 180 (.if_icmp .ne 10) 3 := ⟨by decide +kernel, rfl⟩
theorem dX8_told_180 : Dc MX8_told 180 181 (.aload_n 0) 1 := ⟨by decide +kernel, rfl⟩
theorem dX8_told_181 : Dc MX8_told 181 184 (.getfield 67) 3 := ⟨by decide +kernel, rfl⟩
theorem dX8_told_184 : Dc MX8_told 184 187 (.goto 5) 3 := ⟨by decide +kernel, rfl⟩
theorem dX8_told_187 : Dc MX8_told 187 189 (.bipush (-2)) 2 := ⟨by decide +kernel, rfl⟩
theorem dX8_told_189 : Dc MX8_told 189 190 (.ireturn) 1 := ⟨by decide +kernel, rfl⟩
end
section
def bI (b : Bool) : Int32 := if b then 1 else 0
theorem bI_t : bI true = 1 := rfl
theorem bI_f : bI false = 0 := rfl
/-! contracts -/
def ctP (D : va_G) (ad : Nat → Nat) (cA : Nat → ClassId) (σ : St) (sz : Nat) (as : List Value) : Array Value → State → Prop := va_Pc (as.map (cv ad)) (fun U => U.heap.size = sz ∧ va_P D cls (wl ad cA σ) U.heap ∧ va_K D cls (tyl cA) U ∧ va_D (fun _ => True) (wl ad cA σ) ∧ Nst U)
def ctQ (D : va_G) (ad : Nat → Nat) (cA : Nat → ClassId) (σ : St) (sz : Nat) (v : Option Value) (σ' : St) : Array Value → State → Outcome → State → Prop := fun _ st oc t => (oc = .returned (v.map (cv ad)) ∧ va_P D cls (wl ad cA σ') t.heap ∧ va_D (va_A (wl ad cA σ) sz) (wl ad cA σ')) ∧ va_F (va_A (wl ad cA σ) sz) st t
/-- method M, called with as in the world σ, answers v and leaves the world σ' -/
def Ct (M : Mt) (as : List Value) (σ : St) (v : Option Value) (σ' : St) : Prop := ∀ (l : Launch) (D : va_G) (ad : Nat → Nat) (cA : Nat → ClassId) (sz : Nat), Met l (mY M) (mWs M) (mRm M) (ctP D ad cA σ sz as) (ctQ D ad cA σ sz v σ') 0 0 (va_A (wl ad cA σ) sz)
def FnZ (g : Gt) (M : Mt) (v : Option Value) (σ' : St) : Prop := match g with
  | ((p, l, e, R, s, m, args, below, meth, c), D, ad, cA, A, (kc, ks), Q) => ∃ σ0 : St, Q = MQ below (ctQ D ad cA σ0 s.heap.size v σ') args s kc ks (va_A (wl ad cA σ0) s.heap.size) ∧ A = va_A (wl ad cA σ0) s.heap.size ∧ meth.locks = false ∧ meth.sig.returnType = mR M
theorem nst_on : ∀ w ∈ nst, w.onTables = true := by decide +kernel
theorem nst_same {u U : State} (h : u.vm = U.vm) (hN : Nst u) : Nst U := fun w hw => va_Nw.same (nst_on w hw) h (hN w hw)
theorem nst_warm {s U : State} (hW : s.WarmedH U.vm) (hN : Nst s) : Nst U := by
  intro w hw
  have h := hN w hw
  simp only [nst, List.mem_cons, List.not_mem_nil, or_false] at hw
  rcases hw with rfl | rfl
  · exact va_Nw.warmM hW h
  · exact va_Nw.warmM hW h
theorem ctP_blind {D : va_G} {ad : Nat → Nat} {cA : Nat → ClassId} {σ : St} {sz : Nat} {as : List Value} : FrameBlind (ctP D ad cA σ sz as) := by
  intro a U g mk q
  obtain ⟨q0, q1, qP, qK, qD, qN⟩ := q
  exact ⟨q0, q1, qP, va_K.moved (u := U) (U := U.calling g mk a) (Vm.Alike.refl U.vm) qK, qD, nst_same (u := U) (U := U.calling g mk a) rfl qN⟩
theorem lvl_args {ad : Nat → Nat} {n : Nat} : ∀ (as : List Value) (i : Nat), (as.all (fun v => v.category == 1)) = true → ∀ q ∈ lvl ad i (as.map some ++ List.replicate n none), q ∈ lv_args i (as.map (cv ad))
  | [], i, _, q, hq => by
    obtain ⟨k, v, h1, -⟩ := lvl_mem hq
    rw [List.map_nil, List.nil_append, List.getElem?_replicate] at h1
    split at h1 <;> cases h1
  | a :: as, i, h, q, hq => by
    simp only [List.all_cons, Bool.and_eq_true, beq_iff_eq] at h
    simp only [List.map_cons, List.cons_append, lvl] at hq
    simp only [List.map_cons, lv_args, cv_cat, h.1]
    rcases List.mem_cons.mp hq with hq | hq
    · rw [hq]; exact List.mem_cons_self
    · exact List.mem_cons_of_mem _ (lvl_args as (i + 1) h.2 q hq)
theorem lg_sl_len {ad : Nat → Nat} : ∀ (as : List Value), (as.all (fun v => v.category == 1)) = true → (lg_sl (as.map (cv ad))).length = as.length
  | [], _ => rfl
  | a :: as, h => by
    simp only [List.all_cons, Bool.and_eq_true, beq_iff_eq] at h
    have := lg_sl_len (ad := ad) as h.2
    simp only [lg_sl, List.map_cons, List.flatMap_cons, cv_cat, h.1, List.length_append] at this ⊢
    simp [this]; omega
theorem ct_of {M : Mt} {n : Nat} {as : List Value} {σ σ' : St} {v : Option Value} {ls0 : List (Option Value)} (ok : mOk M n) (hc : (as.all (fun v => v.category == 1)) = true) (hl : as.length ≤ mL M) (hls : as.map some ++ List.replicate (mL M - as.length) none = ls0)
    (body : ∀ g : Gt, CX g M → FnZ g M v σ' → ZW g 0 ls0 [] σ) : Ct M as σ v σ' := by
  intro l D ad cA sz
  refine Met.ofW (cc := mC M) (maxL := mL M) (ret := mR M) ok.2.2.2 rfl ?_
  intro p e s m args below meth c s₁ B hml hv
  obtain ⟨rfl, hsz, hP, hK, hD0, hN⟩ := hv
  subst hsz
  have hts := atoms_spec (ws := mWs M) B.pre
  have hl1 := lv_entry (as.map (cv ad)) (n := mL M) (by rw [lg_sl_len as hc]; exact hl)
  rw [lg_entry_eq]
  generalize (lg_sl (as.map (cv ad)) ++ List.replicate (mL M - (lg_sl (as.map (cv ad))).length) Slot.unset).toArray = lsa at hl1 ⊢
  subst hls
  refine body ((p, l, e, mRm M, s, m, (as.map (cv ad)).toArray, below, meth, c), D, ad, cA, va_A (wl ad cA σ) s.heap.size, (0, 0), _) ⟨B.exec, B.bytes, hml, findClass_of_methodNamed B.named, fun w hw => hts w (List.mem_cons_of_mem _ hw), hN, hK, fun q h => Or.inr h, ⟨Nat.le_refl _, Nat.le_refl _⟩, ⟨Nat.le_refl _, Nat.le_refl _⟩⟩ ⟨σ, rfl, rfl, B.notSynchronized, B.returns⟩ s.heap [] lsa hP hD0.self va_S.rf ?_ ?_
  · rw [hml]; simp; omega
  · rw [hml]; exact lv_mono hl1 (lvl_args as 0 hc)
section ZC
variable {g : Gt} {M : Mt} {pc pc1 : Nat} {ls : List (Option Value)} {st : List Value} {σ : St}
theorem zw_iret {x y : Int32} {σ' : St} (X : CX g M) (F : FnZ g M (some (.int y)) σ') (d : Dc M pc pc1 .ireturn 1) (hr : mR M = some .int) (hxy : x = y) (hσ : σ = σ') : ZW g pc ls [.int x] σ := by
  obtain ⟨⟨p, l, e, R, s, m, args, below, meth, c⟩, D, ad, cA, A, ⟨kc, ks⟩, Q⟩ := g
  obtain ⟨hx, hb, hml, hown, hts, hN, hK, hA, hR, hRc⟩ := X
  obtain ⟨d1, rfl⟩ := d
  intro H locs lsa hP hD hS hn hh
  subst hxy; subst hσ
  obtain ⟨σ0, rfl, rfl, hlk, hrt⟩ := F
  exact W.iret (v := x) hx hb (hrt.trans hr) (fun t ht hW => ⟨⟨rfl, by rw [ht]; exact hP, hD⟩, hS.F ht⟩) hS.2.2 d1 hlk
theorem zw_zret {x : Int32} {y : Bool} {σ' : St} (X : CX g M) (F : FnZ g M (some (.int (bI y))) σ') (d : Dc M pc pc1 .ireturn 1) (hr : mR M = some .boolean) (hxy : x = bI y) (hσ : σ = σ') : ZW g pc ls [.int x] σ := by
  obtain ⟨⟨p, l, e, R, s, m, args, below, meth, c⟩, D, ad, cA, A, ⟨kc, ks⟩, Q⟩ := g
  obtain ⟨hx, hb, hml, hown, hts, hN, hK, hA, hR, hRc⟩ := X
  obtain ⟨d1, rfl⟩ := d
  intro H locs lsa hP hD hS hn hh
  subst hxy; subst hσ
  obtain ⟨σ0, rfl, rfl, hlk, hrt⟩ := F
  exact W.zret (v := bI y) hx hb (hrt.trans hr) (by cases y <;> decide) (fun t ht hW => ⟨⟨rfl, by rw [ht]; exact hP, hD⟩, hS.F ht⟩) hS.2.2 d1 hlk
theorem zw_vret {σ' : St} (X : CX g M) (F : FnZ g M none σ') (d : Dc M pc pc1 .return_ 1) (hr : mR M = none) (hσ : σ = σ') : ZW g pc ls [] σ := by
  obtain ⟨⟨p, l, e, R, s, m, args, below, meth, c⟩, D, ad, cA, A, ⟨kc, ks⟩, Q⟩ := g
  obtain ⟨hx, hb, hml, hown, hts, hN, hK, hA, hR, hRc⟩ := X
  obtain ⟨d1, rfl⟩ := d
  intro H locs lsa hP hD hS hn hh
  subst hσ
  obtain ⟨σ0, rfl, rfl, hlk, hrt⟩ := F
  exact W.vret hx hb (hrt.trans hr) (fun t ht hW => ⟨⟨rfl, by rw [ht]; exact hP, hD⟩, hS.F ht⟩) hS.2.2 d1 hlk
theorem zw_lret {x y : Int64} {σ' : St} (X : CX g M) (F : FnZ g M (some (.long y)) σ') (d : Dc M pc pc1 .lreturn 1) (hr : mR M = some .long) (hxy : x = y) (hσ : σ = σ') : ZW g pc ls [.long x] σ := by
  obtain ⟨⟨p, l, e, R, s, m, args, below, meth, c⟩, D, ad, cA, A, ⟨kc, ks⟩, Q⟩ := g
  obtain ⟨hx, hb, hml, hown, hts, hN, hK, hA, hR, hRc⟩ := X
  obtain ⟨d1, rfl⟩ := d
  intro H locs lsa hP hD hS hn hh
  subst hxy; subst hσ
  obtain ⟨σ0, rfl, rfl, hlk, hrt⟩ := F
  exact W.lret (v := x) hx hb (hrt.trans hr) (fun t ht hW => ⟨⟨rfl, by rw [ht]; exact hP, hD⟩, hS.F ht⟩) hS.2.2 d1 hlk
theorem zw_aret {x : Nat} {C : String} {σ' : St} (X : CX g M) (F : FnZ g M (some (.ref x)) σ') (d : Dc M pc pc1 .areturn 1) (hr : mR M = some (.object C)) (hσ : σ = σ') : ZW g pc ls [.ref x] σ := by
  obtain ⟨⟨p, l, e, R, s, m, args, below, meth, c⟩, D, ad, cA, A, ⟨kc, ks⟩, Q⟩ := g
  obtain ⟨hx, hb, hml, hown, hts, hN, hK, hA, hR, hRc⟩ := X
  obtain ⟨d1, rfl⟩ := d
  intro H locs lsa hP hD hS hn hh
  subst hσ
  obtain ⟨σ0, rfl, rfl, hlk, hrt⟩ := F
  exact W.aret (v := .ref (ad x)) hx hb (hrt.trans hr) (Or.inl ⟨_, rfl⟩) (Or.inr ⟨_, rfl⟩) (fun t ht hW => ⟨⟨rfl, by rw [ht]; exact hP, hD⟩, hS.F ht⟩) hS.2.2 d1 hlk
end ZC
/-- behind a call -/
theorem zw_back {p : Program} {l : Launch} {e : Env} {R : Room} {s : State} {m : MethodId} {args : Array Value} {below : List Frame} {meth : Method} {c : Code} {H : Heap} {locs : List Loc} {kc ks pc : Nat} {Q : State → Prop} {D : va_G} {ad : Nat → Nat} {cA : Nat → ClassId} {A : Nat → Prop} {σ σ' : St} {v : Option Value} {lsa : Array Slot} {st0 rest : List Value} {a : Array Value}
    (hr : va_Run p l e R s m args below meth c H locs kc ks 0 0 (F0 m pc lsa st0) rest (ctQ D ad cA σ H.size v σ' a) (va_A (wl ad cA σ) H.size)) (hD : va_D A (wl ad cA σ)) (hS : va_S A s.heap H locs) (hA : ∀ q, s.heap.size ≤ q → A q)
    (kk : ∀ (H1 : Heap) (locs1 : List Loc), va_P D cls (wl ad cA σ') H1 → va_D A (wl ad cA σ') → va_S A s.heap H1 locs1 → W p l e R s m args below meth c H1 locs1 kc ks Q (F0 m (pc + 3) lsa ((v.map (cv ad)).toList ++ rest))) : W p l e R s m args below meth c H locs kc ks Q (F0 m pc lsa st0) := by
  intro T hT X
  obtain ⟨v', st₀, t, T', L, h0, X', hL, e1, e2, ⟨⟨hv, hP1, hD1⟩, hz, hk⟩, stp⟩ := hr T hT X
  cases hv
  rw [h0] at hz hk
  have hF : ∀ q, va_A (wl ad cA σ) H.size q → A q := by
    intro q h
    rcases h with ⟨k, ee, h⟩ | h
    · exact hD.2 k (q, ee) h
    · exact hA q (Nat.le_trans hS.1 h)
  obtain ⟨t2, a1, b1⟩ := kk T'.heap (locs ++ L) (by rw [e1]; exact hP1) (hD1.weaken (fun _ _ _ h => hF _ h)) ⟨Nat.le_trans hS.1 (by rw [e1]; exact hz), fun q h1 h2 => by rw [e1, hk q (Nat.lt_of_lt_of_le h1 hS.1) (fun z => h2 (hF q z))]; exact hS.2.1 q h1 h2, fun q hq => by
      rcases List.mem_append.mp hq with h | h
      · exact hS.2.2 q h
      · exact hF _ (hL q h)⟩ T' rfl X'
  exact ⟨t2, stp t2 a1, b1⟩
def rmOk (M M1 : Mt) : Prop := mF M1 + 1 ≤ mF M ∧ 8 + (mL M1 + 11) + mO M1 ≤ mO M
theorem gd_in {M : Mt} {n : Nat} (ok : mOk M n) : GoodIn lw_gd (mWs M) := by
  intro w hw
  rcases List.mem_cons.mp hw with h | h
  · rw [h]; exact ⟨ok.1, gd_good _ ok.1⟩
  · exact ⟨h, gd_good _ h⟩
theorem cat_map (ad : Nat → Nat) (st : List Value) : ((st.map (cv ad)).map fun v => v.category) = st.map fun v => v.category := by
  rw [List.map_map]
  exact List.map_congr_left (fun v _ => cv_cat ad v)
theorem ct_pre {D : va_G} {ad : Nat → Nat} {cA : Nat → ClassId} {σ : St} {as : List Value} {s : State} {H : Heap} {A : Nat → Prop} (hP : va_P D cls (wl ad cA σ) H) (hD : va_D A (wl ad cA σ)) (hK : va_K D cls (tyl cA) s) (hN : Nst s) : ∀ U : State, U.heap = H → s.WarmedH U.vm → ctP D ad cA σ H.size as (as.map (cv ad)).toArray U := by
  intro U hU hW
  exact ⟨rfl, by rw [hU], by rw [hU]; exact hP, va_K.moved hW.alike hK, hD.weaken (fun _ _ _ _ => trivial), nst_warm hW hN⟩
section ZD
variable {g : Gt} {M M1 : Mt} {pc pc1 idx n : Nat} {ls : List (Option Value)} {st : List Value} {σ σ' : St} {v : Option Value}
theorem zw_callV {b ci : Nat} {kd : List (Option Nat)} {As stk : List Value} (X : CX g M) (d : Dc M pc pc1 (.invokevirtual idx) 3) (lk : mLk (mY M).cls idx M1) (ok : mOk M1 n) (vi : mVirt M1) (hrm : rmOk M M1) (hs : sh b = .inl (ci, kd)) (hcl : (cls[ci]?).map (fun q => q.1) = some (mY M1).cls) (hn0 : As.length = n) (hst : stk = As.reverse ++ .ref b :: st) (hcat : (st.map fun v => v.category).sum ≤ 8) (ct : Ct M1 (.ref b :: As) σ v σ')
    (k : ZW g pc1 ls (v.toList ++ st) σ') : ZW g pc ls stk σ := by
  obtain ⟨⟨p, l, e, R, s, m, args, below, meth, c⟩, D, ad, cA, A, ⟨kc, ks⟩, Q⟩ := g
  obtain ⟨hx, hb, hml, hown, hts, hN, hK, hA, hR, hRc⟩ := X
  obtain ⟨d1, rfl⟩ := d
  intro H locs lsa hP hD hS hn hh
  subst hst
  obtain ⟨q, hq1, hq2⟩ : ∃ q, cls[ci]? = some q ∧ q.1 = (mY M1).cls := by
    cases hq : cls[ci]? with
    | none => rw [hq] at hcl; cases hcl
    | some q => rw [hq] at hcl; exact ⟨q, rfl, Option.some.inj hcl⟩
  have cb : CallB R s args (mY M).cls idx (mY M1) (mC M1) (mL M1) (mR M1) (mWs M1) (mRm M1) 0 0 n := callB_of n hts (gd_in ok) rfl rfl rfl (hts _ ok.2.1) (hts _ lk) ok.2.2.1 ⟨Nat.le_trans hrm.1 hR.1, Nat.le_trans hrm.2 hR.2⟩
  refine zw_back (v := v) (va_runV (C := (mY M1).cls) (b := ad b) (As := As.map (cv ad)) (rest := st.map (cv ad)) (g := F0 m pc lsa ((As.reverse ++ .ref b :: st).map (cv ad))) ⟨hx, hb, rfl, hown, hts⟩ (ct l D ad cA H.size) ⟨cb, hts _ vi.1, hts _ vi.2⟩ ⟨ctP_blind, ?_, ct_pre (as := .ref b :: As) hP hD hK hN⟩ rfl (by rw [List.length_map]; exact hn0) hh.1 (by simp [cv]) (by show 2 * 0 + _ ≤ 8; rw [cat_map]; omega) d1 ⟨hRc.1, hRc.2⟩) hD hS hA (fun H1 locs1 hP1 hD1 hS1 => ?_)
  · rw [← hq2]; exact va_recv hK hP hq1 (wl_obj hs)
  · have h1 := k H1 locs1 lsa hP1 hD1 hS1 hn hh
    rw [List.map_append] at h1
    cases v with
    | none => exact h1
    | some w => exact h1
theorem zw_callS {As stk : List Value} (X : CX g M) (d : Dc M pc pc1 (.invokestatic idx) 3) (lk : mLk (mY M).cls idx M1) (ok : mOk M1 n) (hstt : mStat M1) (hrm : rmOk M M1) (hn0 : As.length = n) (hst : stk = As.reverse ++ st) (hcat : (st.map fun v => v.category).sum ≤ 8) (ct : Ct M1 As σ v σ')
    (k : ZW g pc1 ls (v.toList ++ st) σ') : ZW g pc ls stk σ := by
  obtain ⟨⟨p, l, e, R, s, m, args, below, meth, c⟩, D, ad, cA, A, ⟨kc, ks⟩, Q⟩ := g
  obtain ⟨hx, hb, hml, hown, hts, hN, hK, hA, hR, hRc⟩ := X
  obtain ⟨d1, rfl⟩ := d
  intro H locs lsa hP hD hS hn hh
  subst hst
  have cb : CallB R s args (mY M).cls idx (mY M1) (mC M1) (mL M1) (mR M1) (mWs M1) (mRm M1) 0 0 n := callB_of n hts (gd_in ok) rfl rfl rfl (hts _ ok.2.1) (hts _ lk) ok.2.2.1 ⟨Nat.le_trans hrm.1 hR.1, Nat.le_trans hrm.2 hR.2⟩
  refine zw_back (v := v) (va_runS (As := As.map (cv ad)) (rest := st.map (cv ad)) (g := F0 m pc lsa ((As.reverse ++ st).map (cv ad))) ⟨hx, hb, rfl, hown, hts⟩ (ct l D ad cA H.size) ⟨cb, hts _ hstt⟩ ⟨ctP_blind, ct_pre (as := As) hP hD hK hN⟩ rfl (by rw [List.length_map]; exact hn0) hh.1 (by simp) (by show 2 * 0 + _ ≤ 8; rw [cat_map]; omega) d1 ⟨hRc.1, hRc.2⟩) hD hS hA (fun H1 locs1 hP1 hD1 hS1 => ?_)
  have h1 := k H1 locs1 lsa hP1 hD1 hS1 hn hh
  rw [List.map_append] at h1
  cases v with
  | none => exact h1
  | some w => exact h1
theorem zw_callSN {host : String} {As stk : List Value} (X : CX g M) (d : Dc M pc pc1 (.invokestatic idx) 3) (lk : Cond.methodLinkNest (mY M).cls idx (mY M1) host ∈ nst) (ok : mOk M1 n) (hstt : mStat M1) (hrm : rmOk M M1) (hn0 : As.length = n) (hst : stk = As.reverse ++ st) (hcat : (st.map fun v => v.category).sum ≤ 8) (ct : Ct M1 As σ v σ')
    (k : ZW g pc1 ls (v.toList ++ st) σ') : ZW g pc ls stk σ := by
  obtain ⟨⟨p, l, e, R, s, m, args, below, meth, c⟩, D, ad, cA, A, ⟨kc, ks⟩, Q⟩ := g
  obtain ⟨hx, hb, hml, hown, hts, hN, hK, hA, hR, hRc⟩ := X
  obtain ⟨d1, rfl⟩ := d
  intro H locs lsa hP hD hS hn hh
  subst hst
  have cb : va_CN R s args (mY M).cls idx (mY M1) host (mC M1) (mL M1) (mR M1) (mWs M1) (mRm M1) 0 0 n := va_cnB n hts (gd_in ok) rfl rfl rfl (hN _ lk) (hts _ ok.2.1) ok.2.2.1 ⟨Nat.le_trans hrm.1 hR.1, Nat.le_trans hrm.2 hR.2⟩
  refine zw_back (v := v) (va_runSN (host := host) (As := As.map (cv ad)) (rest := st.map (cv ad)) (g := F0 m pc lsa ((As.reverse ++ st).map (cv ad))) ⟨hx, hb, rfl, hown, hts⟩ (ct l D ad cA H.size) ⟨cb, hts _ hstt, trivial⟩ ⟨ctP_blind, ct_pre (as := As) hP hD hK hN⟩ rfl (by rw [List.length_map]; exact hn0) hh.1 (by simp) (by show 2 * 0 + _ ≤ 8; rw [cat_map]; omega) d1 ⟨hRc.1, hRc.2⟩) hD hS hA (fun H1 locs1 hP1 hD1 hS1 => ?_)
  have h1 := k H1 locs1 lsa hP1 hD1 hS1 hn hh
  rw [List.map_append] at h1
  cases v with
  | none => exact h1
  | some w => exact h1
theorem zw_max {x y : Int32} (X : CX g M) (d : Dc M pc pc1 (.invokestatic idx) 3) (lk : Cond.methodLink (mY M).cls idx Lib.Math.max.name ∈ lw_gd) (w1 : Cond.static Lib.Math.max.name ∈ lw_gd) (w2 : Cond.initialized "java/lang/Math" ∈ lw_gd) (w3 : Cond.code Lib.Math.max.name Lib.Math.max.code 2 (some .int) ∈ lw_gd) (hrm : 1 ≤ mF M ∧ 21 ≤ mO M) (hcat : (st.map fun v => v.category).sum ≤ 8) (k : ZW g pc1 ls (.int (if x < y then y else x) :: st) σ) : ZW g pc ls (.int y :: .int x :: st) σ := by
  obtain ⟨⟨p, l, e, R, s, m, args, below, meth, c⟩, D, ad, cA, A, ⟨kc, ks⟩, Q⟩ := g
  obtain ⟨hx, hb, hml, hown, hts, hN, hK, hA, hR, hRc⟩ := X
  obtain ⟨d1, rfl⟩ := d
  intro H locs lsa hP hD hS hn hh
  exact va_mmax hx hb hh.1.symm hown (hts _ lk) (hts _ w1) (hts _ w2) (hts _ w3) (Nat.le_trans hrm.1 hR.1) (by rw [cat_map]; have := hR.2; omega) hRc.1 hRc.2 d1 (k H locs lsa hP hD hS hn hh)
theorem zw_min {x y : Int32} (X : CX g M) (d : Dc M pc pc1 (.invokestatic idx) 3) (lk : Cond.methodLink (mY M).cls idx Lib.Math.min.name ∈ lw_gd) (w1 : Cond.static Lib.Math.min.name ∈ lw_gd) (w2 : Cond.initialized "java/lang/Math" ∈ lw_gd) (w3 : Cond.code Lib.Math.min.name Lib.Math.min.code 2 (some .int) ∈ lw_gd) (hrm : 1 ≤ mF M ∧ 21 ≤ mO M) (hcat : (st.map fun v => v.category).sum ≤ 8) (k : ZW g pc1 ls (.int (if y < x then y else x) :: st) σ) : ZW g pc ls (.int y :: .int x :: st) σ := by
  obtain ⟨⟨p, l, e, R, s, m, args, below, meth, c⟩, D, ad, cA, A, ⟨kc, ks⟩, Q⟩ := g
  obtain ⟨hx, hb, hml, hown, hts, hN, hK, hA, hR, hRc⟩ := X
  obtain ⟨d1, rfl⟩ := d
  intro H locs lsa hP hD hS hn hh
  exact va_mmin hx hb hh.1.symm hown (hts _ lk) (hts _ w1) (hts _ w2) (hts _ w3) (Nat.le_trans hrm.1 hR.1) (by rw [cat_map]; have := hR.2; omega) hRc.1 hRc.2 d1 (k H locs lsa hP hD hS hn hh)
/-- another way to write what is on top -/
theorem zw_top {x y : Int32} (h : x = y) (k : ZW g pc ls (.int y :: st) σ) : ZW g pc ls (.int x :: st) σ := by subst h; exact k
theorem zw_wld (h : σ = σ') (k : ZW g pc ls st σ') : ZW g pc ls st σ := by subst h; exact k
theorem zw_ls {ls' : List (Option Value)} (h : ls = ls') (k : ZW g pc ls' st σ) : ZW g pc ls st σ := by subst h; exact k
theorem zw_bif (b : Bool) {x : Int32} (h : x = bI b) (kt : b = true → ZW g pc ls (.int 1 :: st) σ) (kf : b = false → ZW g pc ls (.int 0 :: st) σ) : ZW g pc ls (.int x :: st) σ := by
  subst h; cases b
  · exact kf rfl
  · exact kt rfl
theorem zw_ifeqB {b : Bool} {off : Int} {tgt : Nat} (X : CX g M) (d : Dc M pc pc1 (.ifCond .eq off) 3) (ht : (pc : Int) + off = (tgt : Int)) (kt : b = false → ZW g tgt ls st σ) (kf : b = true → ZW g pc1 ls st σ) : ZW g pc ls (.int (bI b) :: st) σ :=
  zw_ifeq X d ht (fun h => kt (by cases b; rfl; exact absurd h (by decide))) (fun h => kf (by cases b; exact absurd rfl h; rfl))
theorem zw_ifneB {b : Bool} {off : Int} {tgt : Nat} (X : CX g M) (d : Dc M pc pc1 (.ifCond .ne off) 3) (ht : (pc : Int) + off = (tgt : Int)) (kt : b = true → ZW g tgt ls st σ) (kf : b = false → ZW g pc1 ls st σ) : ZW g pc ls (.int (bI b) :: st) σ :=
  zw_ifne X d ht (fun h => kt (by cases b; exact absurd rfl h; rfl)) (fun h => kf (by cases b; rfl; exact absurd h (by decide)))
end ZD
theorem zw_cN_ii {g : Gt} {M M1 : Mt} {pc pc1 idx : Nat} {host : String} {ls : List (Option Value)} {st : List Value} {σ σ1 : St} {x1 : Int32} {r : Int32} (X : CX g M) (d : Dc M pc pc1 (.invokestatic idx) 3) (lk : Cond.methodLinkNest (mY M).cls idx (mY M1) host ∈ nst) (ok : mOk M1 1) (hstt : mStat M1) (hrm : rmOk M M1) (hcat : (st.map fun v => v.category).sum ≤ 8) (ct : Ct M1 [.int x1] σ (some (.int r)) σ1) (k : ZW g pc1 ls (.int r :: st) σ1) : ZW g pc ls (.int x1 :: st) σ := zw_callSN (As := [.int x1]) X d lk ok hstt hrm rfl rfl hcat ct k
theorem zw_cN_iiii {g : Gt} {M M1 : Mt} {pc pc1 idx : Nat} {host : String} {ls : List (Option Value)} {st : List Value} {σ σ1 : St} {x1 : Int32} {x2 : Int32} {x3 : Int32} {r : Int32} (X : CX g M) (d : Dc M pc pc1 (.invokestatic idx) 3) (lk : Cond.methodLinkNest (mY M).cls idx (mY M1) host ∈ nst) (ok : mOk M1 3) (hstt : mStat M1) (hrm : rmOk M M1) (hcat : (st.map fun v => v.category).sum ≤ 8) (ct : Ct M1 [.int x1, .int x2, .int x3] σ (some (.int r)) σ1) (k : ZW g pc1 ls (.int r :: st) σ1) : ZW g pc ls (.int x3 :: .int x2 :: .int x1 :: st) σ := zw_callSN (As := [.int x1, .int x2, .int x3]) X d lk ok hstt hrm rfl rfl hcat ct k
theorem zw_cS_ii {g : Gt} {M M1 : Mt} {pc pc1 idx : Nat} {ls : List (Option Value)} {st : List Value} {σ σ1 : St} {x1 : Int32} {r : Int32} (X : CX g M) (d : Dc M pc pc1 (.invokestatic idx) 3) (lk : mLk (mY M).cls idx M1) (ok : mOk M1 1) (hstt : mStat M1) (hrm : rmOk M M1) (hcat : (st.map fun v => v.category).sum ≤ 8) (ct : Ct M1 [.int x1] σ (some (.int r)) σ1) (k : ZW g pc1 ls (.int r :: st) σ1) : ZW g pc ls (.int x1 :: st) σ := zw_callS (As := [.int x1]) X d lk ok hstt hrm rfl rfl hcat ct k
theorem zw_cS_iii {g : Gt} {M M1 : Mt} {pc pc1 idx : Nat} {ls : List (Option Value)} {st : List Value} {σ σ1 : St} {x1 : Int32} {x2 : Int32} {r : Int32} (X : CX g M) (d : Dc M pc pc1 (.invokestatic idx) 3) (lk : mLk (mY M).cls idx M1) (ok : mOk M1 2) (hstt : mStat M1) (hrm : rmOk M M1) (hcat : (st.map fun v => v.category).sum ≤ 8) (ct : Ct M1 [.int x1, .int x2] σ (some (.int r)) σ1) (k : ZW g pc1 ls (.int r :: st) σ1) : ZW g pc ls (.int x2 :: .int x1 :: st) σ := zw_callS (As := [.int x1, .int x2]) X d lk ok hstt hrm rfl rfl hcat ct k
theorem zw_cS_iiii {g : Gt} {M M1 : Mt} {pc pc1 idx : Nat} {ls : List (Option Value)} {st : List Value} {σ σ1 : St} {x1 : Int32} {x2 : Int32} {x3 : Int32} {r : Int32} (X : CX g M) (d : Dc M pc pc1 (.invokestatic idx) 3) (lk : mLk (mY M).cls idx M1) (ok : mOk M1 3) (hstt : mStat M1) (hrm : rmOk M M1) (hcat : (st.map fun v => v.category).sum ≤ 8) (ct : Ct M1 [.int x1, .int x2, .int x3] σ (some (.int r)) σ1) (k : ZW g pc1 ls (.int r :: st) σ1) : ZW g pc ls (.int x3 :: .int x2 :: .int x1 :: st) σ := zw_callS (As := [.int x1, .int x2, .int x3]) X d lk ok hstt hrm rfl rfl hcat ct k
theorem zw_cS_ri {g : Gt} {M M1 : Mt} {pc pc1 idx : Nat} {ls : List (Option Value)} {st : List Value} {σ σ1 : St} {x1 : Nat} {r : Int32} (X : CX g M) (d : Dc M pc pc1 (.invokestatic idx) 3) (lk : mLk (mY M).cls idx M1) (ok : mOk M1 1) (hstt : mStat M1) (hrm : rmOk M M1) (hcat : (st.map fun v => v.category).sum ≤ 8) (ct : Ct M1 [.ref x1] σ (some (.int r)) σ1) (k : ZW g pc1 ls (.int r :: st) σ1) : ZW g pc ls (.ref x1 :: st) σ := zw_callS (As := [.ref x1]) X d lk ok hstt hrm rfl rfl hcat ct k
theorem zw_cS_riri {g : Gt} {M M1 : Mt} {pc pc1 idx : Nat} {ls : List (Option Value)} {st : List Value} {σ σ1 : St} {x1 : Nat} {x2 : Int32} {x3 : Nat} {r : Int32} (X : CX g M) (d : Dc M pc pc1 (.invokestatic idx) 3) (lk : mLk (mY M).cls idx M1) (ok : mOk M1 3) (hstt : mStat M1) (hrm : rmOk M M1) (hcat : (st.map fun v => v.category).sum ≤ 8) (ct : Ct M1 [.ref x1, .int x2, .ref x3] σ (some (.int r)) σ1) (k : ZW g pc1 ls (.int r :: st) σ1) : ZW g pc ls (.ref x3 :: .int x2 :: .ref x1 :: st) σ := zw_callS (As := [.ref x1, .int x2, .ref x3]) X d lk ok hstt hrm rfl rfl hcat ct k
theorem zw_cV_ni {g : Gt} {M M1 : Mt} {pc pc1 idx b ci : Nat} {kd : List (Option Nat)} {ls : List (Option Value)} {st : List Value} {σ σ1 : St} {r : Int32} (X : CX g M) (d : Dc M pc pc1 (.invokevirtual idx) 3) (lk : mLk (mY M).cls idx M1) (ok : mOk M1 0) (vi : mVirt M1) (hrm : rmOk M M1) (hs : sh b = .inl (ci, kd)) (hcl : (cls[ci]?).map (fun q => q.1) = some (mY M1).cls) (hcat : (st.map fun v => v.category).sum ≤ 8) (ct : Ct M1 (.ref b :: []) σ (some (.int r)) σ1) (k : ZW g pc1 ls (.int r :: st) σ1) : ZW g pc ls (.ref b :: st) σ := zw_callV (As := []) X d lk ok vi hrm hs hcl rfl rfl hcat ct k
theorem zw_cV_nv {g : Gt} {M M1 : Mt} {pc pc1 idx b ci : Nat} {kd : List (Option Nat)} {ls : List (Option Value)} {st : List Value} {σ σ1 : St} (X : CX g M) (d : Dc M pc pc1 (.invokevirtual idx) 3) (lk : mLk (mY M).cls idx M1) (ok : mOk M1 0) (vi : mVirt M1) (hrm : rmOk M M1) (hs : sh b = .inl (ci, kd)) (hcl : (cls[ci]?).map (fun q => q.1) = some (mY M1).cls) (hcat : (st.map fun v => v.category).sum ≤ 8) (ct : Ct M1 (.ref b :: []) σ none σ1) (k : ZW g pc1 ls (st) σ1) : ZW g pc ls (.ref b :: st) σ := zw_callV (As := []) X d lk ok vi hrm hs hcl rfl rfl hcat ct k
theorem zw_cV_ii {g : Gt} {M M1 : Mt} {pc pc1 idx b ci : Nat} {kd : List (Option Nat)} {ls : List (Option Value)} {st : List Value} {σ σ1 : St} {x1 : Int32} {r : Int32} (X : CX g M) (d : Dc M pc pc1 (.invokevirtual idx) 3) (lk : mLk (mY M).cls idx M1) (ok : mOk M1 1) (vi : mVirt M1) (hrm : rmOk M M1) (hs : sh b = .inl (ci, kd)) (hcl : (cls[ci]?).map (fun q => q.1) = some (mY M1).cls) (hcat : (st.map fun v => v.category).sum ≤ 8) (ct : Ct M1 (.ref b :: [.int x1]) σ (some (.int r)) σ1) (k : ZW g pc1 ls (.int r :: st) σ1) : ZW g pc ls (.int x1 :: .ref b :: st) σ := zw_callV (As := [.int x1]) X d lk ok vi hrm hs hcl rfl rfl hcat ct k
theorem zw_cV_ir {g : Gt} {M M1 : Mt} {pc pc1 idx b ci : Nat} {kd : List (Option Nat)} {ls : List (Option Value)} {st : List Value} {σ σ1 : St} {x1 : Int32} {r : Nat} (X : CX g M) (d : Dc M pc pc1 (.invokevirtual idx) 3) (lk : mLk (mY M).cls idx M1) (ok : mOk M1 1) (vi : mVirt M1) (hrm : rmOk M M1) (hs : sh b = .inl (ci, kd)) (hcl : (cls[ci]?).map (fun q => q.1) = some (mY M1).cls) (hcat : (st.map fun v => v.category).sum ≤ 8) (ct : Ct M1 (.ref b :: [.int x1]) σ (some (.ref r)) σ1) (k : ZW g pc1 ls (.ref r :: st) σ1) : ZW g pc ls (.int x1 :: .ref b :: st) σ := zw_callV (As := [.int x1]) X d lk ok vi hrm hs hcl rfl rfl hcat ct k
theorem zw_cV_iv {g : Gt} {M M1 : Mt} {pc pc1 idx b ci : Nat} {kd : List (Option Nat)} {ls : List (Option Value)} {st : List Value} {σ σ1 : St} {x1 : Int32} (X : CX g M) (d : Dc M pc pc1 (.invokevirtual idx) 3) (lk : mLk (mY M).cls idx M1) (ok : mOk M1 1) (vi : mVirt M1) (hrm : rmOk M M1) (hs : sh b = .inl (ci, kd)) (hcl : (cls[ci]?).map (fun q => q.1) = some (mY M1).cls) (hcat : (st.map fun v => v.category).sum ≤ 8) (ct : Ct M1 (.ref b :: [.int x1]) σ none σ1) (k : ZW g pc1 ls (st) σ1) : ZW g pc ls (.int x1 :: .ref b :: st) σ := zw_callV (As := [.int x1]) X d lk ok vi hrm hs hcl rfl rfl hcat ct k
theorem zw_cV_iii {g : Gt} {M M1 : Mt} {pc pc1 idx b ci : Nat} {kd : List (Option Nat)} {ls : List (Option Value)} {st : List Value} {σ σ1 : St} {x1 : Int32} {x2 : Int32} {r : Int32} (X : CX g M) (d : Dc M pc pc1 (.invokevirtual idx) 3) (lk : mLk (mY M).cls idx M1) (ok : mOk M1 2) (vi : mVirt M1) (hrm : rmOk M M1) (hs : sh b = .inl (ci, kd)) (hcl : (cls[ci]?).map (fun q => q.1) = some (mY M1).cls) (hcat : (st.map fun v => v.category).sum ≤ 8) (ct : Ct M1 (.ref b :: [.int x1, .int x2]) σ (some (.int r)) σ1) (k : ZW g pc1 ls (.int r :: st) σ1) : ZW g pc ls (.int x2 :: .int x1 :: .ref b :: st) σ := zw_callV (As := [.int x1, .int x2]) X d lk ok vi hrm hs hcl rfl rfl hcat ct k
theorem zw_cV_iiv {g : Gt} {M M1 : Mt} {pc pc1 idx b ci : Nat} {kd : List (Option Nat)} {ls : List (Option Value)} {st : List Value} {σ σ1 : St} {x1 : Int32} {x2 : Int32} (X : CX g M) (d : Dc M pc pc1 (.invokevirtual idx) 3) (lk : mLk (mY M).cls idx M1) (ok : mOk M1 2) (vi : mVirt M1) (hrm : rmOk M M1) (hs : sh b = .inl (ci, kd)) (hcl : (cls[ci]?).map (fun q => q.1) = some (mY M1).cls) (hcat : (st.map fun v => v.category).sum ≤ 8) (ct : Ct M1 (.ref b :: [.int x1, .int x2]) σ none σ1) (k : ZW g pc1 ls (st) σ1) : ZW g pc ls (.int x2 :: .int x1 :: .ref b :: st) σ := zw_callV (As := [.int x1, .int x2]) X d lk ok vi hrm hs hcl rfl rfl hcat ct k
theorem zw_cV_iiii {g : Gt} {M M1 : Mt} {pc pc1 idx b ci : Nat} {kd : List (Option Nat)} {ls : List (Option Value)} {st : List Value} {σ σ1 : St} {x1 : Int32} {x2 : Int32} {x3 : Int32} {r : Int32} (X : CX g M) (d : Dc M pc pc1 (.invokevirtual idx) 3) (lk : mLk (mY M).cls idx M1) (ok : mOk M1 3) (vi : mVirt M1) (hrm : rmOk M M1) (hs : sh b = .inl (ci, kd)) (hcl : (cls[ci]?).map (fun q => q.1) = some (mY M1).cls) (hcat : (st.map fun v => v.category).sum ≤ 8) (ct : Ct M1 (.ref b :: [.int x1, .int x2, .int x3]) σ (some (.int r)) σ1) (k : ZW g pc1 ls (.int r :: st) σ1) : ZW g pc ls (.int x3 :: .int x2 :: .int x1 :: .ref b :: st) σ := zw_callV (As := [.int x1, .int x2, .int x3]) X d lk ok vi hrm hs hcl rfl rfl hcat ct k
theorem zw_cV_iiiv {g : Gt} {M M1 : Mt} {pc pc1 idx b ci : Nat} {kd : List (Option Nat)} {ls : List (Option Value)} {st : List Value} {σ σ1 : St} {x1 : Int32} {x2 : Int32} {x3 : Int32} (X : CX g M) (d : Dc M pc pc1 (.invokevirtual idx) 3) (lk : mLk (mY M).cls idx M1) (ok : mOk M1 3) (vi : mVirt M1) (hrm : rmOk M M1) (hs : sh b = .inl (ci, kd)) (hcl : (cls[ci]?).map (fun q => q.1) = some (mY M1).cls) (hcat : (st.map fun v => v.category).sum ≤ 8) (ct : Ct M1 (.ref b :: [.int x1, .int x2, .int x3]) σ none σ1) (k : ZW g pc1 ls (st) σ1) : ZW g pc ls (.int x3 :: .int x2 :: .int x1 :: .ref b :: st) σ := zw_callV (As := [.int x1, .int x2, .int x3]) X d lk ok vi hrm hs hcl rfl rfl hcat ct k
theorem zw_cV_ri {g : Gt} {M M1 : Mt} {pc pc1 idx b ci : Nat} {kd : List (Option Nat)} {ls : List (Option Value)} {st : List Value} {σ σ1 : St} {x1 : Nat} {r : Int32} (X : CX g M) (d : Dc M pc pc1 (.invokevirtual idx) 3) (lk : mLk (mY M).cls idx M1) (ok : mOk M1 1) (vi : mVirt M1) (hrm : rmOk M M1) (hs : sh b = .inl (ci, kd)) (hcl : (cls[ci]?).map (fun q => q.1) = some (mY M1).cls) (hcat : (st.map fun v => v.category).sum ≤ 8) (ct : Ct M1 (.ref b :: [.ref x1]) σ (some (.int r)) σ1) (k : ZW g pc1 ls (.int r :: st) σ1) : ZW g pc ls (.ref x1 :: .ref b :: st) σ := zw_callV (As := [.ref x1]) X d lk ok vi hrm hs hcl rfl rfl hcat ct k
theorem zw_cV_rv {g : Gt} {M M1 : Mt} {pc pc1 idx b ci : Nat} {kd : List (Option Nat)} {ls : List (Option Value)} {st : List Value} {σ σ1 : St} {x1 : Nat} (X : CX g M) (d : Dc M pc pc1 (.invokevirtual idx) 3) (lk : mLk (mY M).cls idx M1) (ok : mOk M1 1) (vi : mVirt M1) (hrm : rmOk M M1) (hs : sh b = .inl (ci, kd)) (hcl : (cls[ci]?).map (fun q => q.1) = some (mY M1).cls) (hcat : (st.map fun v => v.category).sum ≤ 8) (ct : Ct M1 (.ref b :: [.ref x1]) σ none σ1) (k : ZW g pc1 ls (st) σ1) : ZW g pc ls (.ref x1 :: .ref b :: st) σ := zw_callV (As := [.ref x1]) X d lk ok vi hrm hs hcl rfl rfl hcat ct k
theorem zw_cV_riiv {g : Gt} {M M1 : Mt} {pc pc1 idx b ci : Nat} {kd : List (Option Nat)} {ls : List (Option Value)} {st : List Value} {σ σ1 : St} {x1 : Nat} {x2 : Int32} {x3 : Int32} (X : CX g M) (d : Dc M pc pc1 (.invokevirtual idx) 3) (lk : mLk (mY M).cls idx M1) (ok : mOk M1 3) (vi : mVirt M1) (hrm : rmOk M M1) (hs : sh b = .inl (ci, kd)) (hcl : (cls[ci]?).map (fun q => q.1) = some (mY M1).cls) (hcat : (st.map fun v => v.category).sum ≤ 8) (ct : Ct M1 (.ref b :: [.ref x1, .int x2, .int x3]) σ none σ1) (k : ZW g pc1 ls (st) σ1) : ZW g pc ls (.int x3 :: .int x2 :: .ref x1 :: .ref b :: st) σ := zw_callV (As := [.ref x1, .int x2, .int x3]) X d lk ok vi hrm hs hcl rfl rfl hcat ct k
theorem zw_cV_rri {g : Gt} {M M1 : Mt} {pc pc1 idx b ci : Nat} {kd : List (Option Nat)} {ls : List (Option Value)} {st : List Value} {σ σ1 : St} {x1 : Nat} {x2 : Nat} {r : Int32} (X : CX g M) (d : Dc M pc pc1 (.invokevirtual idx) 3) (lk : mLk (mY M).cls idx M1) (ok : mOk M1 2) (vi : mVirt M1) (hrm : rmOk M M1) (hs : sh b = .inl (ci, kd)) (hcl : (cls[ci]?).map (fun q => q.1) = some (mY M1).cls) (hcat : (st.map fun v => v.category).sum ≤ 8) (ct : Ct M1 (.ref b :: [.ref x1, .ref x2]) σ (some (.int r)) σ1) (k : ZW g pc1 ls (.int r :: st) σ1) : ZW g pc ls (.ref x2 :: .ref x1 :: .ref b :: st) σ := zw_callV (As := [.ref x1, .ref x2]) X d lk ok vi hrm hs hcl rfl rfl hcat ct k
theorem zw_cV_rrv {g : Gt} {M M1 : Mt} {pc pc1 idx b ci : Nat} {kd : List (Option Nat)} {ls : List (Option Value)} {st : List Value} {σ σ1 : St} {x1 : Nat} {x2 : Nat} (X : CX g M) (d : Dc M pc pc1 (.invokevirtual idx) 3) (lk : mLk (mY M).cls idx M1) (ok : mOk M1 2) (vi : mVirt M1) (hrm : rmOk M M1) (hs : sh b = .inl (ci, kd)) (hcl : (cls[ci]?).map (fun q => q.1) = some (mY M1).cls) (hcat : (st.map fun v => v.category).sum ≤ 8) (ct : Ct M1 (.ref b :: [.ref x1, .ref x2]) σ none σ1) (k : ZW g pc1 ls (st) σ1) : ZW g pc ls (.ref x2 :: .ref x1 :: .ref b :: st) σ := zw_callV (As := [.ref x1, .ref x2]) X d lk ok vi hrm hs hcl rfl rfl hcat ct k
end
section
/-! pure words shared by the walks -/
def itr {α : Type} (f : Nat → α → α) : Nat → α → α
  | 0, a => a
  | n + 1, a => f n (itr f n a)
theorem zloop {α : Type} {S : Nat → α → Prop} {N : Nat} {f : Nat → α → α} {a0 : α} (hs : ∀ n a, n < N → a = itr f n a0 → S (n + 1) (f n a) → S n a) (hN : ∀ a, a = itr f N a0 → S N a) : S 0 a0 := by
  have key : ∀ j, j ≤ N → S (N - j) (itr f (N - j) a0) := by
    intro j
    induction j with
    | zero => intro _; exact hN _ rfl
    | succ j ih =>
      intro h
      refine hs (N - (j + 1)) _ (by omega) rfl ?_
      have e : f (N - (j + 1)) (itr f (N - (j + 1)) a0) = itr f (N - (j + 1) + 1) a0 := rfl
      rw [e, show N - (j + 1) + 1 = N - j by omega]
      exact ih (by omega)
  have := key N (Nat.le_refl N)
  rw [Nat.sub_self] at this
  exact this
/-- is there one below n -/
def exB (P : Nat → Bool) : Nat → Bool
  | 0 => false
  | n + 1 => exB P n || P n
theorem exB_f {P : Nat → Bool} : ∀ {n : Nat}, exB P n = false ↔ ∀ i, i < n → P i = false
  | 0 => ⟨fun _ i h => absurd h (Nat.not_lt_zero i), fun _ => rfl⟩
  | n + 1 => by
    simp only [exB, Bool.or_eq_false_iff, exB_f (n := n)]
    constructor
    · intro h i hi
      rcases Nat.lt_or_ge i n with q | q
      · exact h.1 i q
      · rw [show i = n by omega]; exact h.2
    · intro h
      exact ⟨fun i hi => h i (by omega), h n (by omega)⟩
theorem exB_t {P : Nat → Bool} {n i : Nat} (h : i < n) (hP : P i = true) : exB P n = true := by
  cases he : exB P n with
  | true => rfl
  | false => rw [exB_f.mp he i h] at hP; cases hP
/-- an early end: S j is the loop's head with j passed and none found -/
theorem zfind {S : Nat → Prop} {P : Nat → Bool} {N : Nat} (hs : ∀ j, j < N → (P j = false → S (j + 1)) → (∀ i, i < j → P i = false) → S j) (hN : (∀ i, i < N → P i = false) → S N) : S 0 := by
  have key : ∀ d j, j + d = N → (∀ i, i < j → P i = false) → S j := by
    intro d
    induction d with
    | zero => intro j hj h; subst hj; exact hN h
    | succ d ih =>
      intro j hj h
      refine hs j (by omega) (fun hp => ih (j + 1) (by omega) (fun i hi => ?_)) h
      rcases Nat.lt_or_ge i j with q | q
      · exact h i q
      · rw [show i = j by omega]; exact hp
  exact key N 0 (Nat.zero_add N) (fun i h => absurd h (Nat.not_lt_zero i))
/-- how many steps from a up to L -/
def cnt (a L : Int32) : Nat := (L.toInt - a.toInt).toNat
theorem bmod32 {z : Int} (h1 : -2147483648 ≤ z) (h2 : z < 2147483648) : z.bmod (2 ^ 32) = z := by
  rw [Int.bmod_def]; split <;> omega
theorem i32_rng (x : Int32) : -2147483648 ≤ x.toInt ∧ x.toInt < 2147483648 := ⟨Int32.minValue_le_toInt x, by have := Int32.toInt_lt x; omega⟩
theorem cnt_lt {a L : Int32} {j : Nat} (h : j ≤ cnt a L) : a + nI j < L ↔ j < cnt a L := by
  unfold cnt at h ⊢
  have ha := i32_rng a
  have hL := i32_rng L
  rcases Nat.eq_zero_or_pos j with h0 | h0
  · subst h0
    rw [nI_0, Int32.add_zero, Int32.lt_iff_toInt_lt]
    omega
  · by_cases hs : j < 2 ^ 31
    · rw [Int32.lt_iff_toInt_lt, Int32.toInt_add, nI_toInt hs, bmod32 (by omega) (by omega)]
      omega
    · have hj : nI j = Int32.ofInt (j : Int) := rfl
      have : (a + nI j).toInt = a.toInt + j := by
        rw [Int32.toInt_add, hj, Int32.toInt_ofInt, Int.add_bmod_bmod, bmod32 (by omega) (by omega)]
      rw [Int32.lt_iff_toInt_lt, this]
      omega
def clN (L : Int32) : Nat := L.toNatClampNeg
theorem clN_lt {L : Int32} {n : Nat} (h : n ≤ clN L) : nI n < L ↔ n < clN L := by
  have h1 : clN L = cnt 0 L := by
    show L.toInt.toNat = (L.toInt - (0 : Int32).toInt).toNat
    rw [show (0 : Int32).toInt = 0 from rfl, Int.sub_zero]
  rw [h1] at h ⊢
  have := cnt_lt h
  rwa [Int32.zero_add] at this
theorem clN_small (L : Int32) : clN L < 2 ^ 31 := by
  have := i32_rng L
  simp only [clN, Int32.toNatClampNeg]
  omega
theorem add_nI (a : Int32) (j : Nat) : a + nI j + 1 = a + nI (j + 1) := by rw [nI_succ, Int32.add_assoc]
def isTr (t : Int32) : Bool := !decide (t < 0) && decide (t < 6)
def isCo (t : Int32) : Bool := !decide (t < 0) && decide (t < 3)
def isMi (t : Int32) : Bool := !decide (t < 0) && decide (t < 30)
def wth (v a b : Int32) : Bool := !decide (v < a) && !decide (b < v)
theorem isTr_in {t : Int32} (h : isTr t = true) : vp_in t 6 := by
  simp only [isTr, Bool.and_eq_true, Bool.not_eq_true', decide_eq_false_iff_not, decide_eq_true_eq] at h
  rw [vp_in_iff]
  have h1 := Int32.not_lt.mp h.1
  rw [Int32.le_iff_toInt_le] at h1
  have h2 := h.2
  rw [Int32.lt_iff_toInt_lt] at h2
  exact ⟨h1, h2⟩
theorem isTr_of {t : Int32} (h1 : ¬ t < 0) (h2 : t < 6) : isTr t = true := by simp [isTr, h1, h2]
theorem isTr_nI {n : Nat} (h : n < 6) : isTr (nI n) = true := by
  have : ∀ n : Fin 6, isTr (nI n.val) = true := by decide
  exact this ⟨n, h⟩
theorem isCo_nI {n : Nat} (h : n < 3) : isCo (nI n) = true := by
  have : ∀ n : Fin 3, isCo (nI n.val) = true := by decide
  exact this ⟨n, h⟩
abbrev ix (t : Int32) : Nat := t.toNatClampNeg
/-- rides at m: of one below six, in a minute of the line -/
def rd (fr to : Nat → Int32) (len t m : Int32) : Bool := isTr t && (!decide (m < 0) && (decide (m < len) && (!decide (fr (ix t) < 0) && (!decide (m < fr (ix t)) && !decide (to (ix t) < m)))))
def ri (fr to se : Nat → Int32) (len t c m : Int32) : Bool := rd fr to len t m && decide (se (ix t) = c)
def tn (tun m : Int32) : Bool := !decide (m < 0) && (decide (m < 30) && !decide (tun &&& ((1 : Int32) <<< (m &&& 31)) = 0))
def cntB (P : Nat → Bool) (N : Nat) : Int32 := itr (fun n c => if P n then c + 1 else c) N 0
def setB (P : Nat → Bool) (N : Nat) : Int32 := itr (fun n c => if P n then c ||| ((1 : Int32) <<< (nI n &&& 31)) else c) N 0
/-! more rules: what is known of a branch, what is forgotten of the locals -/
theorem zw_forget {g : Gt} {pc : Nat} {ls ls1 : List (Option Value)} {st : List Value} {σ : St} (hl : ls.length = ls1.length) (h : ∀ (k : Nat) (v : Value), ls1[k]? = some (some v) → ls[k]? = some (some v)) (k : ZW g pc ls1 st σ) : ZW g pc ls st σ := by
  obtain ⟨⟨p, l, e, R, s, m, args, below, meth, c⟩, D, ad, cA, A, ⟨kc, ks⟩, Q⟩ := g
  intro H locs lsa hP hD hS hn hh
  refine k H locs lsa hP hD hS (hl ▸ hn) (lv_mono hh (fun q hq => ?_))
  obtain ⟨j, v, h1, h2⟩ := lvl_mem hq
  rw [h2]
  exact lvl_in (h j v h1)
theorem zw_fgG {g : Gt} {pc : Nat} {ls : List (Option Value)} {st : List Value} {σ : St} (i : Nat) (k : ZW g pc (ls.set i none) st σ) : ZW g pc ls st σ := by
  refine zw_forget (ls1 := ls.set i none) (by simp) (fun j v h => ?_) k
  rw [List.getElem?_set] at h
  split at h
  · split at h <;> cases h
  · exact h
theorem zw_fg_0 {g : Gt} {pc : Nat} {b : Option Value} {r : List (Option Value)} {st : List Value} {σ : St} (k : ZW g pc (none :: r) st σ) : ZW g pc (b :: r) st σ := zw_fgG (ls := b :: r) 0 k
theorem zw_fg_1 {g : Gt} {pc : Nat} {a0 : Option Value} {b : Option Value} {r : List (Option Value)} {st : List Value} {σ : St} (k : ZW g pc (a0 :: none :: r) st σ) : ZW g pc (a0 :: b :: r) st σ := zw_fgG (ls := a0 :: b :: r) 1 k
theorem zw_fg_2 {g : Gt} {pc : Nat} {a0 a1 : Option Value} {b : Option Value} {r : List (Option Value)} {st : List Value} {σ : St} (k : ZW g pc (a0 :: a1 :: none :: r) st σ) : ZW g pc (a0 :: a1 :: b :: r) st σ := zw_fgG (ls := a0 :: a1 :: b :: r) 2 k
theorem zw_fg_3 {g : Gt} {pc : Nat} {a0 a1 a2 : Option Value} {b : Option Value} {r : List (Option Value)} {st : List Value} {σ : St} (k : ZW g pc (a0 :: a1 :: a2 :: none :: r) st σ) : ZW g pc (a0 :: a1 :: a2 :: b :: r) st σ := zw_fgG (ls := a0 :: a1 :: a2 :: b :: r) 3 k
theorem zw_fg_4 {g : Gt} {pc : Nat} {a0 a1 a2 a3 : Option Value} {b : Option Value} {r : List (Option Value)} {st : List Value} {σ : St} (k : ZW g pc (a0 :: a1 :: a2 :: a3 :: none :: r) st σ) : ZW g pc (a0 :: a1 :: a2 :: a3 :: b :: r) st σ := zw_fgG (ls := a0 :: a1 :: a2 :: a3 :: b :: r) 4 k
theorem zw_fg_5 {g : Gt} {pc : Nat} {a0 a1 a2 a3 a4 : Option Value} {b : Option Value} {r : List (Option Value)} {st : List Value} {σ : St} (k : ZW g pc (a0 :: a1 :: a2 :: a3 :: a4 :: none :: r) st σ) : ZW g pc (a0 :: a1 :: a2 :: a3 :: a4 :: b :: r) st σ := zw_fgG (ls := a0 :: a1 :: a2 :: a3 :: a4 :: b :: r) 5 k
theorem zw_fg_6 {g : Gt} {pc : Nat} {a0 a1 a2 a3 a4 a5 : Option Value} {b : Option Value} {r : List (Option Value)} {st : List Value} {σ : St} (k : ZW g pc (a0 :: a1 :: a2 :: a3 :: a4 :: a5 :: none :: r) st σ) : ZW g pc (a0 :: a1 :: a2 :: a3 :: a4 :: a5 :: b :: r) st σ := zw_fgG (ls := a0 :: a1 :: a2 :: a3 :: a4 :: a5 :: b :: r) 6 k
theorem zw_fg_7 {g : Gt} {pc : Nat} {a0 a1 a2 a3 a4 a5 a6 : Option Value} {b : Option Value} {r : List (Option Value)} {st : List Value} {σ : St} (k : ZW g pc (a0 :: a1 :: a2 :: a3 :: a4 :: a5 :: a6 :: none :: r) st σ) : ZW g pc (a0 :: a1 :: a2 :: a3 :: a4 :: a5 :: a6 :: b :: r) st σ := zw_fgG (ls := a0 :: a1 :: a2 :: a3 :: a4 :: a5 :: a6 :: b :: r) 7 k
theorem zw_fg_8 {g : Gt} {pc : Nat} {a0 a1 a2 a3 a4 a5 a6 a7 : Option Value} {b : Option Value} {r : List (Option Value)} {st : List Value} {σ : St} (k : ZW g pc (a0 :: a1 :: a2 :: a3 :: a4 :: a5 :: a6 :: a7 :: none :: r) st σ) : ZW g pc (a0 :: a1 :: a2 :: a3 :: a4 :: a5 :: a6 :: a7 :: b :: r) st σ := zw_fgG (ls := a0 :: a1 :: a2 :: a3 :: a4 :: a5 :: a6 :: a7 :: b :: r) 8 k
theorem zw_fg_9 {g : Gt} {pc : Nat} {a0 a1 a2 a3 a4 a5 a6 a7 a8 : Option Value} {b : Option Value} {r : List (Option Value)} {st : List Value} {σ : St} (k : ZW g pc (a0 :: a1 :: a2 :: a3 :: a4 :: a5 :: a6 :: a7 :: a8 :: none :: r) st σ) : ZW g pc (a0 :: a1 :: a2 :: a3 :: a4 :: a5 :: a6 :: a7 :: a8 :: b :: r) st σ := zw_fgG (ls := a0 :: a1 :: a2 :: a3 :: a4 :: a5 :: a6 :: a7 :: a8 :: b :: r) 9 k
theorem zw_fg_10 {g : Gt} {pc : Nat} {a0 a1 a2 a3 a4 a5 a6 a7 a8 a9 : Option Value} {b : Option Value} {r : List (Option Value)} {st : List Value} {σ : St} (k : ZW g pc (a0 :: a1 :: a2 :: a3 :: a4 :: a5 :: a6 :: a7 :: a8 :: a9 :: none :: r) st σ) : ZW g pc (a0 :: a1 :: a2 :: a3 :: a4 :: a5 :: a6 :: a7 :: a8 :: a9 :: b :: r) st σ := zw_fgG (ls := a0 :: a1 :: a2 :: a3 :: a4 :: a5 :: a6 :: a7 :: a8 :: a9 :: b :: r) 10 k
theorem zw_fg_11 {g : Gt} {pc : Nat} {a0 a1 a2 a3 a4 a5 a6 a7 a8 a9 a10 : Option Value} {b : Option Value} {r : List (Option Value)} {st : List Value} {σ : St} (k : ZW g pc (a0 :: a1 :: a2 :: a3 :: a4 :: a5 :: a6 :: a7 :: a8 :: a9 :: a10 :: none :: r) st σ) : ZW g pc (a0 :: a1 :: a2 :: a3 :: a4 :: a5 :: a6 :: a7 :: a8 :: a9 :: a10 :: b :: r) st σ := zw_fgG (ls := a0 :: a1 :: a2 :: a3 :: a4 :: a5 :: a6 :: a7 :: a8 :: a9 :: a10 :: b :: r) 11 k
theorem zw_fg_12 {g : Gt} {pc : Nat} {a0 a1 a2 a3 a4 a5 a6 a7 a8 a9 a10 a11 : Option Value} {b : Option Value} {r : List (Option Value)} {st : List Value} {σ : St} (k : ZW g pc (a0 :: a1 :: a2 :: a3 :: a4 :: a5 :: a6 :: a7 :: a8 :: a9 :: a10 :: a11 :: none :: r) st σ) : ZW g pc (a0 :: a1 :: a2 :: a3 :: a4 :: a5 :: a6 :: a7 :: a8 :: a9 :: a10 :: a11 :: b :: r) st σ := zw_fgG (ls := a0 :: a1 :: a2 :: a3 :: a4 :: a5 :: a6 :: a7 :: a8 :: a9 :: a10 :: a11 :: b :: r) 12 k
theorem zw_fg_13 {g : Gt} {pc : Nat} {a0 a1 a2 a3 a4 a5 a6 a7 a8 a9 a10 a11 a12 : Option Value} {b : Option Value} {r : List (Option Value)} {st : List Value} {σ : St} (k : ZW g pc (a0 :: a1 :: a2 :: a3 :: a4 :: a5 :: a6 :: a7 :: a8 :: a9 :: a10 :: a11 :: a12 :: none :: r) st σ) : ZW g pc (a0 :: a1 :: a2 :: a3 :: a4 :: a5 :: a6 :: a7 :: a8 :: a9 :: a10 :: a11 :: a12 :: b :: r) st σ := zw_fgG (ls := a0 :: a1 :: a2 :: a3 :: a4 :: a5 :: a6 :: a7 :: a8 :: a9 :: a10 :: a11 :: a12 :: b :: r) 13 k
theorem zw_icmpeq_t {g : Gt} {M : Mt} {pc pc1 tgt : Nat} {off : Int} {ls : List (Option Value)} {st : List Value} {σ : St} {x y : Int32} (X : CX g M) (d : Dc M pc pc1 (.if_icmp .eq off) 3) (ht : (pc : Int) + off = (tgt : Int)) (h : x = y) (k : ZW g tgt ls st σ) : ZW g pc ls (.int y :: .int x :: st) σ := zw_icmpeq X d ht (fun _ => k) (fun c => absurd h c)
theorem zw_icmpeq_f {g : Gt} {M : Mt} {pc pc1 tgt : Nat} {off : Int} {ls : List (Option Value)} {st : List Value} {σ : St} {x y : Int32} (X : CX g M) (d : Dc M pc pc1 (.if_icmp .eq off) 3) (ht : (pc : Int) + off = (tgt : Int)) (h : ¬ x = y) (k : ZW g pc1 ls st σ) : ZW g pc ls (.int y :: .int x :: st) σ := zw_icmpeq X d ht (fun c => absurd c h) (fun _ => k)
theorem zw_ifeq_t {g : Gt} {M : Mt} {pc pc1 tgt : Nat} {off : Int} {ls : List (Option Value)} {st : List Value} {σ : St} {x : Int32} (X : CX g M) (d : Dc M pc pc1 (.ifCond .eq off) 3) (ht : (pc : Int) + off = (tgt : Int)) (h : x = 0) (k : ZW g tgt ls st σ) : ZW g pc ls (.int x :: st) σ := zw_ifeq X d ht (fun _ => k) (fun c => absurd h c)
theorem zw_ifeq_f {g : Gt} {M : Mt} {pc pc1 tgt : Nat} {off : Int} {ls : List (Option Value)} {st : List Value} {σ : St} {x : Int32} (X : CX g M) (d : Dc M pc pc1 (.ifCond .eq off) 3) (ht : (pc : Int) + off = (tgt : Int)) (h : ¬ x = 0) (k : ZW g pc1 ls st σ) : ZW g pc ls (.int x :: st) σ := zw_ifeq X d ht (fun c => absurd c h) (fun _ => k)
theorem zw_icmpne_t {g : Gt} {M : Mt} {pc pc1 tgt : Nat} {off : Int} {ls : List (Option Value)} {st : List Value} {σ : St} {x y : Int32} (X : CX g M) (d : Dc M pc pc1 (.if_icmp .ne off) 3) (ht : (pc : Int) + off = (tgt : Int)) (h : ¬ x = y) (k : ZW g tgt ls st σ) : ZW g pc ls (.int y :: .int x :: st) σ := zw_icmpne X d ht (fun _ => k) (fun c => absurd c h)
theorem zw_icmpne_f {g : Gt} {M : Mt} {pc pc1 tgt : Nat} {off : Int} {ls : List (Option Value)} {st : List Value} {σ : St} {x y : Int32} (X : CX g M) (d : Dc M pc pc1 (.if_icmp .ne off) 3) (ht : (pc : Int) + off = (tgt : Int)) (h : x = y) (k : ZW g pc1 ls st σ) : ZW g pc ls (.int y :: .int x :: st) σ := zw_icmpne X d ht (fun c => absurd h c) (fun _ => k)
theorem zw_ifne_t {g : Gt} {M : Mt} {pc pc1 tgt : Nat} {off : Int} {ls : List (Option Value)} {st : List Value} {σ : St} {x : Int32} (X : CX g M) (d : Dc M pc pc1 (.ifCond .ne off) 3) (ht : (pc : Int) + off = (tgt : Int)) (h : ¬ x = 0) (k : ZW g tgt ls st σ) : ZW g pc ls (.int x :: st) σ := zw_ifne X d ht (fun _ => k) (fun c => absurd c h)
theorem zw_ifne_f {g : Gt} {M : Mt} {pc pc1 tgt : Nat} {off : Int} {ls : List (Option Value)} {st : List Value} {σ : St} {x : Int32} (X : CX g M) (d : Dc M pc pc1 (.ifCond .ne off) 3) (ht : (pc : Int) + off = (tgt : Int)) (h : x = 0) (k : ZW g pc1 ls st σ) : ZW g pc ls (.int x :: st) σ := zw_ifne X d ht (fun c => absurd h c) (fun _ => k)
theorem zw_icmplt_t {g : Gt} {M : Mt} {pc pc1 tgt : Nat} {off : Int} {ls : List (Option Value)} {st : List Value} {σ : St} {x y : Int32} (X : CX g M) (d : Dc M pc pc1 (.if_icmp .lt off) 3) (ht : (pc : Int) + off = (tgt : Int)) (h : x < y) (k : ZW g tgt ls st σ) : ZW g pc ls (.int y :: .int x :: st) σ := zw_icmplt X d ht (fun _ => k) (fun c => absurd h c)
theorem zw_icmplt_f {g : Gt} {M : Mt} {pc pc1 tgt : Nat} {off : Int} {ls : List (Option Value)} {st : List Value} {σ : St} {x y : Int32} (X : CX g M) (d : Dc M pc pc1 (.if_icmp .lt off) 3) (ht : (pc : Int) + off = (tgt : Int)) (h : ¬ x < y) (k : ZW g pc1 ls st σ) : ZW g pc ls (.int y :: .int x :: st) σ := zw_icmplt X d ht (fun c => absurd c h) (fun _ => k)
theorem zw_iflt_t {g : Gt} {M : Mt} {pc pc1 tgt : Nat} {off : Int} {ls : List (Option Value)} {st : List Value} {σ : St} {x : Int32} (X : CX g M) (d : Dc M pc pc1 (.ifCond .lt off) 3) (ht : (pc : Int) + off = (tgt : Int)) (h : x < 0) (k : ZW g tgt ls st σ) : ZW g pc ls (.int x :: st) σ := zw_iflt X d ht (fun _ => k) (fun c => absurd h c)
theorem zw_iflt_f {g : Gt} {M : Mt} {pc pc1 tgt : Nat} {off : Int} {ls : List (Option Value)} {st : List Value} {σ : St} {x : Int32} (X : CX g M) (d : Dc M pc pc1 (.ifCond .lt off) 3) (ht : (pc : Int) + off = (tgt : Int)) (h : ¬ x < 0) (k : ZW g pc1 ls st σ) : ZW g pc ls (.int x :: st) σ := zw_iflt X d ht (fun c => absurd c h) (fun _ => k)
theorem zw_icmpgt_t {g : Gt} {M : Mt} {pc pc1 tgt : Nat} {off : Int} {ls : List (Option Value)} {st : List Value} {σ : St} {x y : Int32} (X : CX g M) (d : Dc M pc pc1 (.if_icmp .gt off) 3) (ht : (pc : Int) + off = (tgt : Int)) (h : y < x) (k : ZW g tgt ls st σ) : ZW g pc ls (.int y :: .int x :: st) σ := zw_icmpgt X d ht (fun _ => k) (fun c => absurd h c)
theorem zw_icmpgt_f {g : Gt} {M : Mt} {pc pc1 tgt : Nat} {off : Int} {ls : List (Option Value)} {st : List Value} {σ : St} {x y : Int32} (X : CX g M) (d : Dc M pc pc1 (.if_icmp .gt off) 3) (ht : (pc : Int) + off = (tgt : Int)) (h : ¬ y < x) (k : ZW g pc1 ls st σ) : ZW g pc ls (.int y :: .int x :: st) σ := zw_icmpgt X d ht (fun c => absurd c h) (fun _ => k)
theorem zw_ifgt_t {g : Gt} {M : Mt} {pc pc1 tgt : Nat} {off : Int} {ls : List (Option Value)} {st : List Value} {σ : St} {x : Int32} (X : CX g M) (d : Dc M pc pc1 (.ifCond .gt off) 3) (ht : (pc : Int) + off = (tgt : Int)) (h : 0 < x) (k : ZW g tgt ls st σ) : ZW g pc ls (.int x :: st) σ := zw_ifgt X d ht (fun _ => k) (fun c => absurd h c)
theorem zw_ifgt_f {g : Gt} {M : Mt} {pc pc1 tgt : Nat} {off : Int} {ls : List (Option Value)} {st : List Value} {σ : St} {x : Int32} (X : CX g M) (d : Dc M pc pc1 (.ifCond .gt off) 3) (ht : (pc : Int) + off = (tgt : Int)) (h : ¬ 0 < x) (k : ZW g pc1 ls st σ) : ZW g pc ls (.int x :: st) σ := zw_ifgt X d ht (fun c => absurd c h) (fun _ => k)
theorem zw_icmpge_t {g : Gt} {M : Mt} {pc pc1 tgt : Nat} {off : Int} {ls : List (Option Value)} {st : List Value} {σ : St} {x y : Int32} (X : CX g M) (d : Dc M pc pc1 (.if_icmp .ge off) 3) (ht : (pc : Int) + off = (tgt : Int)) (h : ¬ x < y) (k : ZW g tgt ls st σ) : ZW g pc ls (.int y :: .int x :: st) σ := zw_icmpge X d ht (fun _ => k) (fun c => absurd c h)
theorem zw_icmpge_f {g : Gt} {M : Mt} {pc pc1 tgt : Nat} {off : Int} {ls : List (Option Value)} {st : List Value} {σ : St} {x y : Int32} (X : CX g M) (d : Dc M pc pc1 (.if_icmp .ge off) 3) (ht : (pc : Int) + off = (tgt : Int)) (h : x < y) (k : ZW g pc1 ls st σ) : ZW g pc ls (.int y :: .int x :: st) σ := zw_icmpge X d ht (fun c => absurd h c) (fun _ => k)
theorem zw_ifge_t {g : Gt} {M : Mt} {pc pc1 tgt : Nat} {off : Int} {ls : List (Option Value)} {st : List Value} {σ : St} {x : Int32} (X : CX g M) (d : Dc M pc pc1 (.ifCond .ge off) 3) (ht : (pc : Int) + off = (tgt : Int)) (h : ¬ x < 0) (k : ZW g tgt ls st σ) : ZW g pc ls (.int x :: st) σ := zw_ifge X d ht (fun _ => k) (fun c => absurd c h)
theorem zw_ifge_f {g : Gt} {M : Mt} {pc pc1 tgt : Nat} {off : Int} {ls : List (Option Value)} {st : List Value} {σ : St} {x : Int32} (X : CX g M) (d : Dc M pc pc1 (.ifCond .ge off) 3) (ht : (pc : Int) + off = (tgt : Int)) (h : x < 0) (k : ZW g pc1 ls st σ) : ZW g pc ls (.int x :: st) σ := zw_ifge X d ht (fun c => absurd h c) (fun _ => k)
theorem zw_icmple_t {g : Gt} {M : Mt} {pc pc1 tgt : Nat} {off : Int} {ls : List (Option Value)} {st : List Value} {σ : St} {x y : Int32} (X : CX g M) (d : Dc M pc pc1 (.if_icmp .le off) 3) (ht : (pc : Int) + off = (tgt : Int)) (h : ¬ y < x) (k : ZW g tgt ls st σ) : ZW g pc ls (.int y :: .int x :: st) σ := zw_icmple X d ht (fun _ => k) (fun c => absurd c h)
theorem zw_icmple_f {g : Gt} {M : Mt} {pc pc1 tgt : Nat} {off : Int} {ls : List (Option Value)} {st : List Value} {σ : St} {x y : Int32} (X : CX g M) (d : Dc M pc pc1 (.if_icmp .le off) 3) (ht : (pc : Int) + off = (tgt : Int)) (h : y < x) (k : ZW g pc1 ls st σ) : ZW g pc ls (.int y :: .int x :: st) σ := zw_icmple X d ht (fun c => absurd h c) (fun _ => k)
theorem zw_ifle_t {g : Gt} {M : Mt} {pc pc1 tgt : Nat} {off : Int} {ls : List (Option Value)} {st : List Value} {σ : St} {x : Int32} (X : CX g M) (d : Dc M pc pc1 (.ifCond .le off) 3) (ht : (pc : Int) + off = (tgt : Int)) (h : ¬ 0 < x) (k : ZW g tgt ls st σ) : ZW g pc ls (.int x :: st) σ := zw_ifle X d ht (fun _ => k) (fun c => absurd c h)
theorem zw_ifle_f {g : Gt} {M : Mt} {pc pc1 tgt : Nat} {off : Int} {ls : List (Option Value)} {st : List Value} {σ : St} {x : Int32} (X : CX g M) (d : Dc M pc pc1 (.ifCond .le off) 3) (ht : (pc : Int) + off = (tgt : Int)) (h : 0 < x) (k : ZW g pc1 ls st σ) : ZW g pc ls (.int x :: st) σ := zw_ifle X d ht (fun c => absurd h c) (fun _ => k)
/-- a train of the world at place k -/
def isT (k : Nat) : Prop := sh k = .inl (5, [none, none, none, none, none, none, some (k + 1), some (k + 2), some (k + 3), some (k + 4), some (k + 5)]) ∧ sh (k + 1) = .inr (6, false) ∧ sh (k + 2) = .inr (6, false) ∧ sh (k + 3) = .inr (6, false) ∧ sh (k + 4) = .inr (6, false) ∧ sh (k + 5) = .inr (6, false)
theorem isT_1 : isT 1 := ⟨rfl, rfl, rfl, rfl, rfl, rfl⟩
theorem isT_7 : isT 7 := ⟨rfl, rfl, rfl, rfl, rfl, rfl⟩
theorem isT_23 : isT 23 := ⟨rfl, rfl, rfl, rfl, rfl, rfl⟩
theorem isT_33 : isT 33 := ⟨rfl, rfl, rfl, rfl, rfl, rfl⟩
theorem bI_0 {b : Bool} : bI b = 0 ↔ b = false := by cases b <;> decide
theorem bI_1 {b : Bool} : bI b = 1 ↔ b = true := by cases b <;> decide
theorem bI_0' {b : Bool} : 0 = bI b ↔ b = false := by cases b <;> decide
theorem bI_1' {b : Bool} : 1 = bI b ↔ b = true := by cases b <;> decide
theorem bI_inj {a b : Bool} : bI a = bI b ↔ a = b := by cases a <;> cases b <;> decide
theorem ik_m1 : Int32.ofInt (-1) = (-1 : Int32) := by decide
theorem ik_0 : Int32.ofInt (0) = (0 : Int32) := by decide
theorem ik_1 : Int32.ofInt (1) = (1 : Int32) := by decide
theorem ik_2 : Int32.ofInt (2) = (2 : Int32) := by decide
theorem ik_3 : Int32.ofInt (3) = (3 : Int32) := by decide
theorem ik_4 : Int32.ofInt (4) = (4 : Int32) := by decide
theorem ik_5 : Int32.ofInt (5) = (5 : Int32) := by decide
theorem bk_m6 : (Int8.ofInt (-6)).toInt32 = (-6 : Int32) := by decide
theorem bk_m5 : (Int8.ofInt (-5)).toInt32 = (-5 : Int32) := by decide
theorem bk_m4 : (Int8.ofInt (-4)).toInt32 = (-4 : Int32) := by decide
theorem bk_m3 : (Int8.ofInt (-3)).toInt32 = (-3 : Int32) := by decide
theorem bk_m2 : (Int8.ofInt (-2)).toInt32 = (-2 : Int32) := by decide
theorem bk_6 : (Int8.ofInt (6)).toInt32 = (6 : Int32) := by decide
theorem bk_7 : (Int8.ofInt (7)).toInt32 = (7 : Int32) := by decide
theorem bk_8 : (Int8.ofInt (8)).toInt32 = (8 : Int32) := by decide
theorem bk_10 : (Int8.ofInt (10)).toInt32 = (10 : Int32) := by decide
theorem bk_12 : (Int8.ofInt (12)).toInt32 = (12 : Int32) := by decide
theorem bk_16 : (Int8.ofInt (16)).toInt32 = (16 : Int32) := by decide
theorem bk_18 : (Int8.ofInt (18)).toInt32 = (18 : Int32) := by decide
theorem bk_19 : (Int8.ofInt (19)).toInt32 = (19 : Int32) := by decide
theorem bk_20 : (Int8.ofInt (20)).toInt32 = (20 : Int32) := by decide
theorem bk_21 : (Int8.ofInt (21)).toInt32 = (21 : Int32) := by decide
theorem bk_24 : (Int8.ofInt (24)).toInt32 = (24 : Int32) := by decide
theorem bk_29 : (Int8.ofInt (29)).toInt32 = (29 : Int32) := by decide
theorem bk_30 : (Int8.ofInt (30)).toInt32 = (30 : Int32) := by decide
theorem bk_31 : (Int8.ofInt (31)).toInt32 = (31 : Int32) := by decide
theorem bk_33 : (Int8.ofInt (33)).toInt32 = (33 : Int32) := by decide
theorem bk_46 : (Int8.ofInt (46)).toInt32 = (46 : Int32) := by decide
theorem bk_48 : (Int8.ofInt (48)).toInt32 = (48 : Int32) := by decide
theorem bk_50 : (Int8.ofInt (50)).toInt32 = (50 : Int32) := by decide
theorem bk_51 : (Int8.ofInt (51)).toInt32 = (51 : Int32) := by decide
theorem bk_52 : (Int8.ofInt (52)).toInt32 = (52 : Int32) := by decide
theorem bk_53 : (Int8.ofInt (53)).toInt32 = (53 : Int32) := by decide
theorem bk_54 : (Int8.ofInt (54)).toInt32 = (54 : Int32) := by decide
theorem bk_55 : (Int8.ofInt (55)).toInt32 = (55 : Int32) := by decide
theorem bk_57 : (Int8.ofInt (57)).toInt32 = (57 : Int32) := by decide
theorem bk_60 : (Int8.ofInt (60)).toInt32 = (60 : Int32) := by decide
theorem bk_63 : (Int8.ofInt (63)).toInt32 = (63 : Int32) := by decide
theorem bk_64 : (Int8.ofInt (64)).toInt32 = (64 : Int32) := by decide
theorem bk_65 : (Int8.ofInt (65)).toInt32 = (65 : Int32) := by decide
theorem bk_70 : (Int8.ofInt (70)).toInt32 = (70 : Int32) := by decide
theorem bk_74 : (Int8.ofInt (74)).toInt32 = (74 : Int32) := by decide
theorem bk_75 : (Int8.ofInt (75)).toInt32 = (75 : Int32) := by decide
theorem bk_99 : (Int8.ofInt (99)).toInt32 = (99 : Int32) := by decide
theorem bk_100 : (Int8.ofInt (100)).toInt32 = (100 : Int32) := by decide
theorem bk_104 : (Int8.ofInt (104)).toInt32 = (104 : Int32) := by decide
theorem bk_115 : (Int8.ofInt (115)).toInt32 = (115 : Int32) := by decide
theorem bk_126 : (Int8.ofInt (126)).toInt32 = (126 : Int32) := by decide
theorem sk_140 : (Int16.ofInt (140)).toInt32 = (140 : Int32) := by decide
theorem sk_999 : (Int16.ofInt (999)).toInt32 = (999 : Int32) := by decide
theorem sk_4096 : (Int16.ofInt (4096)).toInt32 = (4096 : Int32) := by decide
theorem sk_9999 : (Int16.ofInt (9999)).toInt32 = (9999 : Int32) := by decide
theorem sk_32767 : (Int16.ofInt (32767)).toInt32 = (32767 : Int32) := by decide
theorem lm_X5_79 : Cond.methodLink "SilenceMinute$Train" 79 Lib.Math.min.name ∈ lw_gd := gd2 110 rfl rfl
theorem lm_X7_266 : Cond.methodLink "SilenceMinute" 266 Lib.Math.max.name ∈ lw_gd := gd3 52 rfl rfl
theorem lm_X2_26 : Cond.methodLink "SilenceMinute$Sale" 26 Lib.Math.max.name ∈ lw_gd := gd3 73 rfl rfl
theorem ls_max : Cond.static Lib.Math.max.name ∈ lw_gd := gd3 53 rfl rfl
theorem lc_max : Cond.code Lib.Math.max.name Lib.Math.max.code 2 (some .int) ∈ lw_gd := gd3 54 rfl rfl
theorem ls_min : Cond.static Lib.Math.min.name ∈ lw_gd := gd2 111 rfl rfl
theorem lc_min : Cond.code Lib.Math.min.name Lib.Math.min.code 2 (some .int) ∈ lw_gd := gd2 112 rfl rfl
theorem li_math : Cond.initialized "java/lang/Math" ∈ lw_gd := gd1 10 rfl rfl
theorem ft_0_0 : fTy 0 0 .boolean := ⟨RX0, TX0, 3, rfl, rfl, by decide +kernel⟩
theorem ft_1_1 : fTy 1 1 .int := ⟨RX1, TX1, 2, rfl, rfl, by decide +kernel⟩
theorem ft_2_0 : fTy 2 0 .int := ⟨RX2, TX2, 3, rfl, rfl, by decide +kernel⟩
theorem ft_2_1 : fTy 2 1 .int := ⟨RX2, TX2, 3, rfl, rfl, by decide +kernel⟩
theorem ft_2_2 : fTy 2 2 .int := ⟨RX2, TX2, 3, rfl, rfl, by decide +kernel⟩
theorem ft_3_0 : fTy 3 0 .int := ⟨RX3, TX3, 4, rfl, rfl, by decide +kernel⟩
theorem ft_3_1 : fTy 3 1 .int := ⟨RX3, TX3, 4, rfl, rfl, by decide +kernel⟩
theorem ft_3_2 : fTy 3 2 .int := ⟨RX3, TX3, 4, rfl, rfl, by decide +kernel⟩
theorem ft_4_2 : fTy 4 2 .int := ⟨RX4, TX4, 3, rfl, rfl, by decide +kernel⟩
theorem ft_5_0 : fTy 5 0 .int := ⟨RX5, TX5, 11, rfl, rfl, by decide +kernel⟩
theorem ft_5_1 : fTy 5 1 .int := ⟨RX5, TX5, 11, rfl, rfl, by decide +kernel⟩
theorem ft_5_2 : fTy 5 2 .int := ⟨RX5, TX5, 11, rfl, rfl, by decide +kernel⟩
theorem ft_5_3 : fTy 5 3 .int := ⟨RX5, TX5, 11, rfl, rfl, by decide +kernel⟩
theorem ft_5_4 : fTy 5 4 .int := ⟨RX5, TX5, 11, rfl, rfl, by decide +kernel⟩
theorem ft_5_5 : fTy 5 5 .int := ⟨RX5, TX5, 11, rfl, rfl, by decide +kernel⟩
theorem ft_6_0 : fTy 6 0 .int := ⟨RX6, TX6, 2, rfl, rfl, by decide +kernel⟩
theorem ft_6_1 : fTy 6 1 .int := ⟨RX6, TX6, 2, rfl, rfl, by decide +kernel⟩
theorem ft_8_0 : fTy 8 0 .int := ⟨RX8, TX8, 27, rfl, rfl, by decide +kernel⟩
theorem ft_8_1 : fTy 8 1 .int := ⟨RX8, TX8, 27, rfl, rfl, by decide +kernel⟩
theorem ft_8_7 : fTy 8 7 .int := ⟨RX8, TX8, 27, rfl, rfl, by decide +kernel⟩
theorem ft_8_8 : fTy 8 8 .int := ⟨RX8, TX8, 27, rfl, rfl, by decide +kernel⟩
theorem ft_8_9 : fTy 8 9 .int := ⟨RX8, TX8, 27, rfl, rfl, by decide +kernel⟩
theorem ft_8_10 : fTy 8 10 .int := ⟨RX8, TX8, 27, rfl, rfl, by decide +kernel⟩
theorem ft_8_12 : fTy 8 12 .int := ⟨RX8, TX8, 27, rfl, rfl, by decide +kernel⟩
theorem ft_8_16 : fTy 8 16 .int := ⟨RX8, TX8, 27, rfl, rfl, by decide +kernel⟩
theorem ft_8_17 : fTy 8 17 .int := ⟨RX8, TX8, 27, rfl, rfl, by decide +kernel⟩
theorem ft_8_18 : fTy 8 18 .int := ⟨RX8, TX8, 27, rfl, rfl, by decide +kernel⟩
theorem ft_8_21 : fTy 8 21 .int := ⟨RX8, TX8, 27, rfl, rfl, by decide +kernel⟩
theorem ft_8_22 : fTy 8 22 .int := ⟨RX8, TX8, 27, rfl, rfl, by decide +kernel⟩
theorem ft_8_23 : fTy 8 23 .int := ⟨RX8, TX8, 27, rfl, rfl, by decide +kernel⟩
theorem rm_X0_keep_X5_copyFrom : rmOk MX0_keep MX5_copyFrom := ⟨Nat.le_of_ble_eq_true rfl, Nat.le_of_ble_eq_true rfl⟩
theorem rm_X0_keep_X4_copyFrom : rmOk MX0_keep MX4_copyFrom := ⟨Nat.le_of_ble_eq_true rfl, Nat.le_of_ble_eq_true rfl⟩
theorem rm_X0_bringBack_X5_copyFrom : rmOk MX0_bringBack MX5_copyFrom := ⟨Nat.le_of_ble_eq_true rfl, Nat.le_of_ble_eq_true rfl⟩
theorem rm_X0_bringBack_X4_copyFrom : rmOk MX0_bringBack MX4_copyFrom := ⟨Nat.le_of_ble_eq_true rfl, Nat.le_of_ble_eq_true rfl⟩
theorem rm_X1_isDigitAt_X1_signAt : rmOk MX1_isDigitAt MX1_signAt := ⟨Nat.le_of_ble_eq_true rfl, Nat.le_of_ble_eq_true rfl⟩
theorem rm_X1_isDigitAt_X7_isWithin : rmOk MX1_isDigitAt MX7_isWithin := ⟨Nat.le_of_ble_eq_true rfl, Nat.le_of_ble_eq_true rfl⟩
theorem rm_X1_faultPlace_X1_follow : rmOk MX1_faultPlace MX1_follow := ⟨Nat.le_of_ble_eq_true rfl, Nat.le_of_ble_eq_true rfl⟩
theorem rm_X1_follow_X1_signAt : rmOk MX1_follow MX1_signAt := ⟨Nat.le_of_ble_eq_true rfl, Nat.le_of_ble_eq_true rfl⟩
theorem rm_X1_follow_X7_isWithin : rmOk MX1_follow MX7_isWithin := ⟨Nat.le_of_ble_eq_true rfl, Nat.le_of_ble_eq_true rfl⟩
theorem rm_X1_follow_X1_isDigitAt : rmOk MX1_follow MX1_isDigitAt := ⟨Nat.le_of_ble_eq_true rfl, Nat.le_of_ble_eq_true rfl⟩
theorem rm_X1_actLength_X1_signAt : rmOk MX1_actLength MX1_signAt := ⟨Nat.le_of_ble_eq_true rfl, Nat.le_of_ble_eq_true rfl⟩
theorem rm_X1_actLength_X1_isDigitAt : rmOk MX1_actLength MX1_isDigitAt := ⟨Nat.le_of_ble_eq_true rfl, Nat.le_of_ble_eq_true rfl⟩
theorem rm_X2_settle_X2_leaveOff : rmOk MX2_settle MX2_leaveOff := ⟨Nat.le_of_ble_eq_true rfl, Nat.le_of_ble_eq_true rfl⟩
theorem rm_X2_settle_X2_moverBehind : rmOk MX2_settle MX2_moverBehind := ⟨Nat.le_of_ble_eq_true rfl, Nat.le_of_ble_eq_true rfl⟩
theorem rm_X2_settle_X2_valueFor : rmOk MX2_settle MX2_valueFor := ⟨Nat.le_of_ble_eq_true rfl, Nat.le_of_ble_eq_true rfl⟩
theorem rm_X2_settle_X2_wordBefore : rmOk MX2_settle MX2_wordBefore := ⟨Nat.le_of_ble_eq_true rfl, Nat.le_of_ble_eq_true rfl⟩
theorem rm_X2_leaveOff_X2_moverBehind : rmOk MX2_leaveOff MX2_moverBehind := ⟨Nat.le_of_ble_eq_true rfl, Nat.le_of_ble_eq_true rfl⟩
theorem rm_X2_leaveOff_X2_wordBefore : rmOk MX2_leaveOff MX2_wordBefore := ⟨Nat.le_of_ble_eq_true rfl, Nat.le_of_ble_eq_true rfl⟩
theorem rm_X3_countWays_X5_ridersOfLine : rmOk MX3_countWays MX5_ridersOfLine := ⟨Nat.le_of_ble_eq_true rfl, Nat.le_of_ble_eq_true rfl⟩
theorem rm_X3_countWays_X3_meetableTwos : rmOk MX3_countWays MX3_meetableTwos := ⟨Nat.le_of_ble_eq_true rfl, Nat.le_of_ble_eq_true rfl⟩
theorem rm_X3_countWays_X3_waysInAll : rmOk MX3_countWays MX3_waysInAll := ⟨Nat.le_of_ble_eq_true rfl, Nat.le_of_ble_eq_true rfl⟩
theorem rm_X3_countWays_X3_spread : rmOk MX3_countWays MX3_spread := ⟨Nat.le_of_ble_eq_true rfl, Nat.le_of_ble_eq_true rfl⟩
theorem rm_X3_countWays_X3_twosInOneCompartment : rmOk MX3_countWays MX3_twosInOneCompartment := ⟨Nat.le_of_ble_eq_true rfl, Nat.le_of_ble_eq_true rfl⟩
theorem rm_X3_countWays_X3_digitsAsNumber : rmOk MX3_countWays MX3_digitsAsNumber := ⟨Nat.le_of_ble_eq_true rfl, Nat.le_of_ble_eq_true rfl⟩
theorem rm_X3_waysInAll_X3_isRider : rmOk MX3_waysInAll MX3_isRider := ⟨Nat.le_of_ble_eq_true rfl, Nat.le_of_ble_eq_true rfl⟩
theorem rm_X3_spread_X3_isRider : rmOk MX3_spread MX3_isRider := ⟨Nat.le_of_ble_eq_true rfl, Nat.le_of_ble_eq_true rfl⟩
theorem rm_X3_meetableTwos_X5_rideTogether : rmOk MX3_meetableTwos MX5_rideTogether := ⟨Nat.le_of_ble_eq_true rfl, Nat.le_of_ble_eq_true rfl⟩
theorem rm_X4_suspects_X5_ridersOfLine : rmOk MX4_suspects MX5_ridersOfLine := ⟨Nat.le_of_ble_eq_true rfl, Nat.le_of_ble_eq_true rfl⟩
theorem rm_X4_suspects_X5_companionsOf : rmOk MX4_suspects MX5_companionsOf := ⟨Nat.le_of_ble_eq_true rfl, Nat.le_of_ble_eq_true rfl⟩
theorem rm_X5_tunnelsOfLine_X5_isTunnel : rmOk MX5_tunnelsOfLine MX5_isTunnel := ⟨Nat.le_of_ble_eq_true rfl, Nat.le_of_ble_eq_true rfl⟩
theorem rm_X5_setRide_X7_isTraveller : rmOk MX5_setRide MX7_isTraveller := ⟨Nat.le_of_ble_eq_true rfl, Nat.le_of_ble_eq_true rfl⟩
theorem rm_X5_setBid_X7_isTraveller : rmOk MX5_setBid MX7_isTraveller := ⟨Nat.le_of_ble_eq_true rfl, Nat.le_of_ble_eq_true rfl⟩
theorem rm_X5_ridesIn_X5_ridesAt : rmOk MX5_ridesIn MX5_ridesAt := ⟨Nat.le_of_ble_eq_true rfl, Nat.le_of_ble_eq_true rfl⟩
theorem rm_X5_ridesNow_X5_ridesAt : rmOk MX5_ridesNow MX5_ridesAt := ⟨Nat.le_of_ble_eq_true rfl, Nat.le_of_ble_eq_true rfl⟩
theorem rm_X5_ridesFromNowOn_X5_ridesAt : rmOk MX5_ridesFromNowOn MX5_ridesAt := ⟨Nat.le_of_ble_eq_true rfl, Nat.le_of_ble_eq_true rfl⟩
theorem rm_X5_minutesOf_X5_ridesAt : rmOk MX5_minutesOf MX5_ridesAt := ⟨Nat.le_of_ble_eq_true rfl, Nat.le_of_ble_eq_true rfl⟩
theorem rm_X5_ridersOf_X5_ridesIn : rmOk MX5_ridersOf MX5_ridesIn := ⟨Nat.le_of_ble_eq_true rfl, Nat.le_of_ble_eq_true rfl⟩
theorem rm_X5_companionsOf_X7_isTraveller : rmOk MX5_companionsOf MX7_isTraveller := ⟨Nat.le_of_ble_eq_true rfl, Nat.le_of_ble_eq_true rfl⟩
theorem rm_X5_companionsOf_X5_ridesAt : rmOk MX5_companionsOf MX5_ridesAt := ⟨Nat.le_of_ble_eq_true rfl, Nat.le_of_ble_eq_true rfl⟩
theorem rm_X5_companionsOf_X5_ridersOf : rmOk MX5_companionsOf MX5_ridersOf := ⟨Nat.le_of_ble_eq_true rfl, Nat.le_of_ble_eq_true rfl⟩
theorem rm_X5_ridersOfLine_X5_minutesOf : rmOk MX5_ridersOfLine MX5_minutesOf := ⟨Nat.le_of_ble_eq_true rfl, Nat.le_of_ble_eq_true rfl⟩
theorem rm_X5_rideTogether_X5_ridesAt : rmOk MX5_rideTogether MX5_ridesAt := ⟨Nat.le_of_ble_eq_true rfl, Nat.le_of_ble_eq_true rfl⟩
theorem rm_X5_holderOf_X5_isTunnel : rmOk MX5_holderOf MX5_isTunnel := ⟨Nat.le_of_ble_eq_true rfl, Nat.le_of_ble_eq_true rfl⟩
theorem rm_X5_holderOf_X5_ridesAt : rmOk MX5_holderOf MX5_ridesAt := ⟨Nat.le_of_ble_eq_true rfl, Nat.le_of_ble_eq_true rfl⟩
theorem rm_X5_isHolder_X7_isTraveller : rmOk MX5_isHolder MX7_isTraveller := ⟨Nat.le_of_ble_eq_true rfl, Nat.le_of_ble_eq_true rfl⟩
theorem rm_X5_isHolder_X5_holderOf : rmOk MX5_isHolder MX5_holderOf := ⟨Nat.le_of_ble_eq_true rfl, Nat.le_of_ble_eq_true rfl⟩
theorem rm_X5_maySpeak_X7_isTraveller : rmOk MX5_maySpeak MX7_isTraveller := ⟨Nat.le_of_ble_eq_true rfl, Nat.le_of_ble_eq_true rfl⟩
theorem rm_X5_maySpeak_X5_ridesNow : rmOk MX5_maySpeak MX5_ridesNow := ⟨Nat.le_of_ble_eq_true rfl, Nat.le_of_ble_eq_true rfl⟩
theorem rm_X5_maySpeak_X5_holderOf : rmOk MX5_maySpeak MX5_holderOf := ⟨Nat.le_of_ble_eq_true rfl, Nat.le_of_ble_eq_true rfl⟩
theorem rm_X5_passMinute_X5_holderOf : rmOk MX5_passMinute MX5_holderOf := ⟨Nat.le_of_ble_eq_true rfl, Nat.le_of_ble_eq_true rfl⟩
theorem rm_X5_passMinute_X7_isTraveller : rmOk MX5_passMinute MX7_isTraveller := ⟨Nat.le_of_ble_eq_true rfl, Nat.le_of_ble_eq_true rfl⟩
theorem rm_X5_passMinute_X5_payGuard : rmOk MX5_passMinute MX5_payGuard := ⟨Nat.le_of_ble_eq_true rfl, Nat.le_of_ble_eq_true rfl⟩
theorem rm_X5_takeCough_X7_isTraveller : rmOk MX5_takeCough MX7_isTraveller := ⟨Nat.le_of_ble_eq_true rfl, Nat.le_of_ble_eq_true rfl⟩
theorem rm_X5_takeCough_X5_ridesNow : rmOk MX5_takeCough MX5_ridesNow := ⟨Nat.le_of_ble_eq_true rfl, Nat.le_of_ble_eq_true rfl⟩
theorem rm_X5_takeCough_X5_holderOf : rmOk MX5_takeCough MX5_holderOf := ⟨Nat.le_of_ble_eq_true rfl, Nat.le_of_ble_eq_true rfl⟩
theorem rm_X5_takeCough_X5_payGuard : rmOk MX5_takeCough MX5_payGuard := ⟨Nat.le_of_ble_eq_true rfl, Nat.le_of_ble_eq_true rfl⟩
theorem rm_X5_payGuard_X7_isTraveller : rmOk MX5_payGuard MX7_isTraveller := ⟨Nat.le_of_ble_eq_true rfl, Nat.le_of_ble_eq_true rfl⟩
theorem rm_X5_doDrawn_X5_passMinute : rmOk MX5_doDrawn MX5_passMinute := ⟨Nat.le_of_ble_eq_true rfl, Nat.le_of_ble_eq_true rfl⟩
theorem rm_X5_doDrawn_X5_setBid : rmOk MX5_doDrawn MX5_setBid := ⟨Nat.le_of_ble_eq_true rfl, Nat.le_of_ble_eq_true rfl⟩
theorem rm_X5_doDrawn_X5_takeCough : rmOk MX5_doDrawn MX5_takeCough := ⟨Nat.le_of_ble_eq_true rfl, Nat.le_of_ble_eq_true rfl⟩
theorem rm_X5_knownAfter_X5_isTunnel : rmOk MX5_knownAfter MX5_isTunnel := ⟨Nat.le_of_ble_eq_true rfl, Nat.le_of_ble_eq_true rfl⟩
theorem rm_X5_knownAfter_X5_ridersOf : rmOk MX5_knownAfter MX5_ridersOf := ⟨Nat.le_of_ble_eq_true rfl, Nat.le_of_ble_eq_true rfl⟩
theorem rm_X6_tryRides_X6_tryAct : rmOk MX6_tryRides MX6_tryAct := ⟨Nat.le_of_ble_eq_true rfl, Nat.le_of_ble_eq_true rfl⟩
theorem rm_X6_tryRides_X1_actLength : rmOk MX6_tryRides MX1_actLength := ⟨Nat.le_of_ble_eq_true rfl, Nat.le_of_ble_eq_true rfl⟩
theorem rm_X6_tryAct_X1_signAt : rmOk MX6_tryAct MX1_signAt := ⟨Nat.le_of_ble_eq_true rfl, Nat.le_of_ble_eq_true rfl⟩
theorem rm_X6_tryAct_X5_passMinute : rmOk MX6_tryAct MX5_passMinute := ⟨Nat.le_of_ble_eq_true rfl, Nat.le_of_ble_eq_true rfl⟩
theorem rm_X6_tryAct_X1_isDigitAt : rmOk MX6_tryAct MX1_isDigitAt := ⟨Nat.le_of_ble_eq_true rfl, Nat.le_of_ble_eq_true rfl⟩
theorem rm_X6_tryAct_X5_setBid : rmOk MX6_tryAct MX5_setBid := ⟨Nat.le_of_ble_eq_true rfl, Nat.le_of_ble_eq_true rfl⟩
theorem rm_X6_tryAct_X5_ridesNow : rmOk MX6_tryAct MX5_ridesNow := ⟨Nat.le_of_ble_eq_true rfl, Nat.le_of_ble_eq_true rfl⟩
theorem rm_X6_tryAct_X5_maySpeak : rmOk MX6_tryAct MX5_maySpeak := ⟨Nat.le_of_ble_eq_true rfl, Nat.le_of_ble_eq_true rfl⟩
theorem rm_X6_tryAct_X5_takeCough : rmOk MX6_tryAct MX5_takeCough := ⟨Nat.le_of_ble_eq_true rfl, Nat.le_of_ble_eq_true rfl⟩
theorem rm_X7_line_X7_isWithin : rmOk MX7_line MX7_isWithin := ⟨Nat.le_of_ble_eq_true rfl, Nat.le_of_ble_eq_true rfl⟩
theorem rm_X7_tunnel_X7_isMinute : rmOk MX7_tunnel MX7_isMinute := ⟨Nat.le_of_ble_eq_true rfl, Nat.le_of_ble_eq_true rfl⟩
theorem rm_X7_tunnel_X5_tunnelsOfLine : rmOk MX7_tunnel MX5_tunnelsOfLine := ⟨Nat.le_of_ble_eq_true rfl, Nat.le_of_ble_eq_true rfl⟩
theorem rm_X7_ride_X7_isTraveller : rmOk MX7_ride MX7_isTraveller := ⟨Nat.le_of_ble_eq_true rfl, Nat.le_of_ble_eq_true rfl⟩
theorem rm_X7_ride_X5_setRide : rmOk MX7_ride MX5_setRide := ⟨Nat.le_of_ble_eq_true rfl, Nat.le_of_ble_eq_true rfl⟩
theorem rm_X7_ride_X7_isMinute : rmOk MX7_ride MX7_isMinute := ⟨Nat.le_of_ble_eq_true rfl, Nat.le_of_ble_eq_true rfl⟩
theorem rm_X7_ride_X5_minutesOf : rmOk MX7_ride MX5_minutesOf := ⟨Nat.le_of_ble_eq_true rfl, Nat.le_of_ble_eq_true rfl⟩
theorem rm_X7_seat_X7_isTraveller : rmOk MX7_seat MX7_isTraveller := ⟨Nat.le_of_ble_eq_true rfl, Nat.le_of_ble_eq_true rfl⟩
theorem rm_X7_seat_X7_isCompartment : rmOk MX7_seat MX7_isCompartment := ⟨Nat.le_of_ble_eq_true rfl, Nat.le_of_ble_eq_true rfl⟩
theorem rm_X7_purse_X7_isTraveller : rmOk MX7_purse MX7_isTraveller := ⟨Nat.le_of_ble_eq_true rfl, Nat.le_of_ble_eq_true rfl⟩
theorem rm_X7_purse_X7_isWithin : rmOk MX7_purse MX7_isWithin := ⟨Nat.le_of_ble_eq_true rfl, Nat.le_of_ble_eq_true rfl⟩
theorem rm_X7_fine_X7_isWithin : rmOk MX7_fine MX7_isWithin := ⟨Nat.le_of_ble_eq_true rfl, Nat.le_of_ble_eq_true rfl⟩
theorem rm_X7_say_X7_isWithin : rmOk MX7_say MX7_isWithin := ⟨Nat.le_of_ble_eq_true rfl, Nat.le_of_ble_eq_true rfl⟩
theorem rm_X7_say_X1_write : rmOk MX7_say MX1_write := ⟨Nat.le_of_ble_eq_true rfl, Nat.le_of_ble_eq_true rfl⟩
theorem rm_X7_wipe_X1_clear : rmOk MX7_wipe MX1_clear := ⟨Nat.le_of_ble_eq_true rfl, Nat.le_of_ble_eq_true rfl⟩
theorem rm_X7_fault_X1_faultPlace : rmOk MX7_fault MX1_faultPlace := ⟨Nat.le_of_ble_eq_true rfl, Nat.le_of_ble_eq_true rfl⟩
theorem rm_X7_judge_X7_isWithin : rmOk MX7_judge MX7_isWithin := ⟨Nat.le_of_ble_eq_true rfl, Nat.le_of_ble_eq_true rfl⟩
theorem rm_X7_judge_X1_faultPlace : rmOk MX7_judge MX1_faultPlace := ⟨Nat.le_of_ble_eq_true rfl, Nat.le_of_ble_eq_true rfl⟩
theorem rm_X7_judge_X7_padCanBe : rmOk MX7_judge MX7_padCanBe := ⟨Nat.le_of_ble_eq_true rfl, Nat.le_of_ble_eq_true rfl⟩
theorem rm_X7_done_X7_padCanBe : rmOk MX7_done MX7_padCanBe := ⟨Nat.le_of_ble_eq_true rfl, Nat.le_of_ble_eq_true rfl⟩
theorem rm_X7_done_X5_copyFrom : rmOk MX7_done MX5_copyFrom := ⟨Nat.le_of_ble_eq_true rfl, Nat.le_of_ble_eq_true rfl⟩
theorem rm_X7_done_X1_clear : rmOk MX7_done MX1_clear := ⟨Nat.le_of_ble_eq_true rfl, Nat.le_of_ble_eq_true rfl⟩
theorem rm_X7_behind_X7_isWithin : rmOk MX7_behind MX7_isWithin := ⟨Nat.le_of_ble_eq_true rfl, Nat.le_of_ble_eq_true rfl⟩
theorem rm_X7_behind_X7_padCanBe : rmOk MX7_behind MX7_padCanBe := ⟨Nat.le_of_ble_eq_true rfl, Nat.le_of_ble_eq_true rfl⟩
theorem rm_X7_behind_X7_isTraveller : rmOk MX7_behind MX7_isTraveller := ⟨Nat.le_of_ble_eq_true rfl, Nat.le_of_ble_eq_true rfl⟩
theorem rm_X7_holds_X7_isCompartment : rmOk MX7_holds MX7_isCompartment := ⟨Nat.le_of_ble_eq_true rfl, Nat.le_of_ble_eq_true rfl⟩
theorem rm_X7_holds_X5_holderOf : rmOk MX7_holds MX5_holderOf := ⟨Nat.le_of_ble_eq_true rfl, Nat.le_of_ble_eq_true rfl⟩
theorem rm_X7_hears_X7_isTraveller : rmOk MX7_hears MX7_isTraveller := ⟨Nat.le_of_ble_eq_true rfl, Nat.le_of_ble_eq_true rfl⟩
theorem rm_X7_hears_X5_maySpeak : rmOk MX7_hears MX5_maySpeak := ⟨Nat.le_of_ble_eq_true rfl, Nat.le_of_ble_eq_true rfl⟩
theorem rm_X7_hears_X5_companionsOf : rmOk MX7_hears MX5_companionsOf := ⟨Nat.le_of_ble_eq_true rfl, Nat.le_of_ble_eq_true rfl⟩
theorem rm_X7_forecast_X7_isCompartment : rmOk MX7_forecast MX7_isCompartment := ⟨Nat.le_of_ble_eq_true rfl, Nat.le_of_ble_eq_true rfl⟩
theorem rm_X7_forecast_X7_isWithin : rmOk MX7_forecast MX7_isWithin := ⟨Nat.le_of_ble_eq_true rfl, Nat.le_of_ble_eq_true rfl⟩
theorem rm_X7_forecast_X5_copyFrom : rmOk MX7_forecast MX5_copyFrom := ⟨Nat.le_of_ble_eq_true rfl, Nat.le_of_ble_eq_true rfl⟩
theorem rm_X7_forecast_X5_passMinute : rmOk MX7_forecast MX5_passMinute := ⟨Nat.le_of_ble_eq_true rfl, Nat.le_of_ble_eq_true rfl⟩
theorem rm_X7_forecast_X5_holderOf : rmOk MX7_forecast MX5_holderOf := ⟨Nat.le_of_ble_eq_true rfl, Nat.le_of_ble_eq_true rfl⟩
theorem rm_X7_rests_X7_isTraveller : rmOk MX7_rests MX7_isTraveller := ⟨Nat.le_of_ble_eq_true rfl, Nat.le_of_ble_eq_true rfl⟩
theorem rm_X7_rests_X7_letAllMinutesPass : rmOk MX7_rests MX7_letAllMinutesPass := ⟨Nat.le_of_ble_eq_true rfl, Nat.le_of_ble_eq_true rfl⟩
theorem rm_X7_talks_X7_isTraveller : rmOk MX7_talks MX7_isTraveller := ⟨Nat.le_of_ble_eq_true rfl, Nat.le_of_ble_eq_true rfl⟩
theorem rm_X7_talks_X5_copyFrom : rmOk MX7_talks MX5_copyFrom := ⟨Nat.le_of_ble_eq_true rfl, Nat.le_of_ble_eq_true rfl⟩
theorem rm_X7_talks_X5_maySpeak : rmOk MX7_talks MX5_maySpeak := ⟨Nat.le_of_ble_eq_true rfl, Nat.le_of_ble_eq_true rfl⟩
theorem rm_X7_talks_X5_ridesIn : rmOk MX7_talks MX5_ridesIn := ⟨Nat.le_of_ble_eq_true rfl, Nat.le_of_ble_eq_true rfl⟩
theorem rm_X7_talks_X5_passMinute : rmOk MX7_talks MX5_passMinute := ⟨Nat.le_of_ble_eq_true rfl, Nat.le_of_ble_eq_true rfl⟩
theorem rm_X7_buy_X7_isTraveller : rmOk MX7_buy MX7_isTraveller := ⟨Nat.le_of_ble_eq_true rfl, Nat.le_of_ble_eq_true rfl⟩
theorem rm_X7_buy_X7_isWithin : rmOk MX7_buy MX7_isWithin := ⟨Nat.le_of_ble_eq_true rfl, Nat.le_of_ble_eq_true rfl⟩
theorem rm_X7_buy_X5_ridesFromNowOn : rmOk MX7_buy MX5_ridesFromNowOn := ⟨Nat.le_of_ble_eq_true rfl, Nat.le_of_ble_eq_true rfl⟩
theorem rm_X7_buy_X7_keepsSilence : rmOk MX7_buy MX7_keepsSilence := ⟨Nat.le_of_ble_eq_true rfl, Nat.le_of_ble_eq_true rfl⟩
theorem rm_X7_buy_X7_paidInTrial : rmOk MX7_buy MX7_paidInTrial := ⟨Nat.le_of_ble_eq_true rfl, Nat.le_of_ble_eq_true rfl⟩
theorem rm_X7_seats_X7_isWithin : rmOk MX7_seats MX7_isWithin := ⟨Nat.le_of_ble_eq_true rfl, Nat.le_of_ble_eq_true rfl⟩
theorem rm_X7_seats_X3_countWays : rmOk MX7_seats MX3_countWays := ⟨Nat.le_of_ble_eq_true rfl, Nat.le_of_ble_eq_true rfl⟩
theorem rm_X7_word_X7_isTraveller : rmOk MX7_word MX7_isTraveller := ⟨Nat.le_of_ble_eq_true rfl, Nat.le_of_ble_eq_true rfl⟩
theorem rm_X7_word_X7_isMinute : rmOk MX7_word MX7_isMinute := ⟨Nat.le_of_ble_eq_true rfl, Nat.le_of_ble_eq_true rfl⟩
theorem rm_X7_word_X5_knownAfter : rmOk MX7_word MX5_knownAfter := ⟨Nat.le_of_ble_eq_true rfl, Nat.le_of_ble_eq_true rfl⟩
theorem rm_X7_heard_X7_isTraveller : rmOk MX7_heard MX7_isTraveller := ⟨Nat.le_of_ble_eq_true rfl, Nat.le_of_ble_eq_true rfl⟩
theorem rm_X7_heard_X7_isMinute : rmOk MX7_heard MX7_isMinute := ⟨Nat.le_of_ble_eq_true rfl, Nat.le_of_ble_eq_true rfl⟩
theorem rm_X7_heard_X5_knownAfter : rmOk MX7_heard MX5_knownAfter := ⟨Nat.le_of_ble_eq_true rfl, Nat.le_of_ble_eq_true rfl⟩
theorem rm_X7_richest_X7_isWithin : rmOk MX7_richest MX7_isWithin := ⟨Nat.le_of_ble_eq_true rfl, Nat.le_of_ble_eq_true rfl⟩
theorem rm_X7_richest_X7_letAllMinutesPass : rmOk MX7_richest MX7_letAllMinutesPass := ⟨Nat.le_of_ble_eq_true rfl, Nat.le_of_ble_eq_true rfl⟩
theorem rm_X7_richest_X7_topPayer : rmOk MX7_richest MX7_topPayer := ⟨Nat.le_of_ble_eq_true rfl, Nat.le_of_ble_eq_true rfl⟩
theorem rm_X7_richest_X7_paidByCompartment : rmOk MX7_richest MX7_paidByCompartment := ⟨Nat.le_of_ble_eq_true rfl, Nat.le_of_ble_eq_true rfl⟩
theorem rm_X7_seen_X7_isTraveller : rmOk MX7_seen MX7_isTraveller := ⟨Nat.le_of_ble_eq_true rfl, Nat.le_of_ble_eq_true rfl⟩
theorem rm_X7_seen_X7_isMinute : rmOk MX7_seen MX7_isMinute := ⟨Nat.le_of_ble_eq_true rfl, Nat.le_of_ble_eq_true rfl⟩
theorem rm_X7_seen_X4_add : rmOk MX7_seen MX4_add := ⟨Nat.le_of_ble_eq_true rfl, Nat.le_of_ble_eq_true rfl⟩
theorem rm_X7_forget_X4_clear : rmOk MX7_forget MX4_clear := ⟨Nat.le_of_ble_eq_true rfl, Nat.le_of_ble_eq_true rfl⟩
theorem rm_X7_hum_X4_suspects : rmOk MX7_hum MX4_suspects := ⟨Nat.le_of_ble_eq_true rfl, Nat.le_of_ble_eq_true rfl⟩
theorem rm_X7_watch_X7_isWithin : rmOk MX7_watch MX7_isWithin := ⟨Nat.le_of_ble_eq_true rfl, Nat.le_of_ble_eq_true rfl⟩
theorem rm_X7_watch_X4_suspects : rmOk MX7_watch MX4_suspects := ⟨Nat.le_of_ble_eq_true rfl, Nat.le_of_ble_eq_true rfl⟩
theorem rm_X7_watch_X5_ridersOf : rmOk MX7_watch MX5_ridersOf := ⟨Nat.le_of_ble_eq_true rfl, Nat.le_of_ble_eq_true rfl⟩
theorem rm_X7_watch_X7_leftAtMost : rmOk MX7_watch MX7_leftAtMost := ⟨Nat.le_of_ble_eq_true rfl, Nat.le_of_ble_eq_true rfl⟩
theorem rm_X7_auction_X7_isWithin : rmOk MX7_auction MX7_isWithin := ⟨Nat.le_of_ble_eq_true rfl, Nat.le_of_ble_eq_true rfl⟩
theorem rm_X7_auction_X2_settle : rmOk MX7_auction MX2_settle := ⟨Nat.le_of_ble_eq_true rfl, Nat.le_of_ble_eq_true rfl⟩
theorem rm_X7_coughs_X7_isCompartment : rmOk MX7_coughs MX7_isCompartment := ⟨Nat.le_of_ble_eq_true rfl, Nat.le_of_ble_eq_true rfl⟩
theorem rm_X7_coughs_X7_isWithin : rmOk MX7_coughs MX7_isWithin := ⟨Nat.le_of_ble_eq_true rfl, Nat.le_of_ble_eq_true rfl⟩
theorem rm_X7_coughs_X7_chancesToCough : rmOk MX7_coughs MX7_chancesToCough := ⟨Nat.le_of_ble_eq_true rfl, Nat.le_of_ble_eq_true rfl⟩
theorem rm_X7_coughs_X7_tenthsInLowestTerms : rmOk MX7_coughs MX7_tenthsInLowestTerms := ⟨Nat.le_of_ble_eq_true rfl, Nat.le_of_ble_eq_true rfl⟩
theorem rm_X7_year_X7_isWithin : rmOk MX7_year MX7_isWithin := ⟨Nat.le_of_ble_eq_true rfl, Nat.le_of_ble_eq_true rfl⟩
theorem rm_X7_year_X5_copyFrom : rmOk MX7_year MX5_copyFrom := ⟨Nat.le_of_ble_eq_true rfl, Nat.le_of_ble_eq_true rfl⟩
theorem rm_X7_year_X5_doDrawn : rmOk MX7_year MX5_doDrawn := ⟨Nat.le_of_ble_eq_true rfl, Nat.le_of_ble_eq_true rfl⟩
theorem rm_X7_image_X7_isWithin : rmOk MX7_image MX7_isWithin := ⟨Nat.le_of_ble_eq_true rfl, Nat.le_of_ble_eq_true rfl⟩
theorem rm_X7_image_X7_imageAt : rmOk MX7_image MX7_imageAt := ⟨Nat.le_of_ble_eq_true rfl, Nat.le_of_ble_eq_true rfl⟩
theorem rm_X7_image_X0_keep : rmOk MX7_image MX0_keep := ⟨Nat.le_of_ble_eq_true rfl, Nat.le_of_ble_eq_true rfl⟩
theorem rm_X7_restore_X7_isWithin : rmOk MX7_restore MX7_isWithin := ⟨Nat.le_of_ble_eq_true rfl, Nat.le_of_ble_eq_true rfl⟩
theorem rm_X7_restore_X7_imageAt : rmOk MX7_restore MX7_imageAt := ⟨Nat.le_of_ble_eq_true rfl, Nat.le_of_ble_eq_true rfl⟩
theorem rm_X7_restore_X0_bringBack : rmOk MX7_restore MX0_bringBack := ⟨Nat.le_of_ble_eq_true rfl, Nat.le_of_ble_eq_true rfl⟩
theorem rm_X7_told_X7_toldOf : rmOk MX7_told MX7_toldOf := ⟨Nat.le_of_ble_eq_true rfl, Nat.le_of_ble_eq_true rfl⟩
theorem rm_X7_padCanBe_X1_faultPlace : rmOk MX7_padCanBe MX1_faultPlace := ⟨Nat.le_of_ble_eq_true rfl, Nat.le_of_ble_eq_true rfl⟩
theorem rm_X7_padCanBe_X5_copyFrom : rmOk MX7_padCanBe MX5_copyFrom := ⟨Nat.le_of_ble_eq_true rfl, Nat.le_of_ble_eq_true rfl⟩
theorem rm_X7_padCanBe_X6_tryRides : rmOk MX7_padCanBe MX6_tryRides := ⟨Nat.le_of_ble_eq_true rfl, Nat.le_of_ble_eq_true rfl⟩
theorem rm_X7_letAllMinutesPass_X5_copyFrom : rmOk MX7_letAllMinutesPass MX5_copyFrom := ⟨Nat.le_of_ble_eq_true rfl, Nat.le_of_ble_eq_true rfl⟩
theorem rm_X7_letAllMinutesPass_X5_passMinute : rmOk MX7_letAllMinutesPass MX5_passMinute := ⟨Nat.le_of_ble_eq_true rfl, Nat.le_of_ble_eq_true rfl⟩
theorem rm_X7_keepsSilence_X5_copyFrom : rmOk MX7_keepsSilence MX5_copyFrom := ⟨Nat.le_of_ble_eq_true rfl, Nat.le_of_ble_eq_true rfl⟩
theorem rm_X7_keepsSilence_X5_setBid : rmOk MX7_keepsSilence MX5_setBid := ⟨Nat.le_of_ble_eq_true rfl, Nat.le_of_ble_eq_true rfl⟩
theorem rm_X7_keepsSilence_X5_ridesAt : rmOk MX7_keepsSilence MX5_ridesAt := ⟨Nat.le_of_ble_eq_true rfl, Nat.le_of_ble_eq_true rfl⟩
theorem rm_X7_keepsSilence_X5_isTunnel : rmOk MX7_keepsSilence MX5_isTunnel := ⟨Nat.le_of_ble_eq_true rfl, Nat.le_of_ble_eq_true rfl⟩
theorem rm_X7_keepsSilence_X5_isHolder : rmOk MX7_keepsSilence MX5_isHolder := ⟨Nat.le_of_ble_eq_true rfl, Nat.le_of_ble_eq_true rfl⟩
theorem rm_X7_keepsSilence_X5_passMinute : rmOk MX7_keepsSilence MX5_passMinute := ⟨Nat.le_of_ble_eq_true rfl, Nat.le_of_ble_eq_true rfl⟩
theorem rm_X7_paidInTrial_X7_isTraveller : rmOk MX7_paidInTrial MX7_isTraveller := ⟨Nat.le_of_ble_eq_true rfl, Nat.le_of_ble_eq_true rfl⟩
theorem rm_X7_paidByCompartment_X7_paidInTrial : rmOk MX7_paidByCompartment MX7_paidInTrial := ⟨Nat.le_of_ble_eq_true rfl, Nat.le_of_ble_eq_true rfl⟩
theorem rm_X7_topPayer_X7_paidInTrial : rmOk MX7_topPayer MX7_paidInTrial := ⟨Nat.le_of_ble_eq_true rfl, Nat.le_of_ble_eq_true rfl⟩
theorem rm_X7_leftAtMost_J6_bitCount : rmOk MX7_leftAtMost MJ6_bitCount := ⟨Nat.le_of_ble_eq_true rfl, Nat.le_of_ble_eq_true rfl⟩
theorem rm_X7_chancesToCough_X5_copyFrom : rmOk MX7_chancesToCough MX5_copyFrom := ⟨Nat.le_of_ble_eq_true rfl, Nat.le_of_ble_eq_true rfl⟩
theorem rm_X7_chancesToCough_X5_holderOf : rmOk MX7_chancesToCough MX5_holderOf := ⟨Nat.le_of_ble_eq_true rfl, Nat.le_of_ble_eq_true rfl⟩
theorem rm_X7_chancesToCough_X5_ridersOf : rmOk MX7_chancesToCough MX5_ridersOf := ⟨Nat.le_of_ble_eq_true rfl, Nat.le_of_ble_eq_true rfl⟩
theorem rm_X7_chancesToCough_J6_bitCount : rmOk MX7_chancesToCough MJ6_bitCount := ⟨Nat.le_of_ble_eq_true rfl, Nat.le_of_ble_eq_true rfl⟩
theorem rm_X7_chancesToCough_X5_passMinute : rmOk MX7_chancesToCough MX5_passMinute := ⟨Nat.le_of_ble_eq_true rfl, Nat.le_of_ble_eq_true rfl⟩
theorem rm_X7_toldOf_X7_isTraveller : rmOk MX7_toldOf MX7_isTraveller := ⟨Nat.le_of_ble_eq_true rfl, Nat.le_of_ble_eq_true rfl⟩
theorem rm_X8_isOne_X8_in : rmOk MX8_isOne MX8_in := ⟨Nat.le_of_ble_eq_true rfl, Nat.le_of_ble_eq_true rfl⟩
theorem rm_X8_isRoom_X8_in : rmOk MX8_isRoom MX8_in := ⟨Nat.le_of_ble_eq_true rfl, Nat.le_of_ble_eq_true rfl⟩
theorem rm_X8_line_X8_in : rmOk MX8_line MX8_in := ⟨Nat.le_of_ble_eq_true rfl, Nat.le_of_ble_eq_true rfl⟩
theorem rm_X8_tunnel_X8_in : rmOk MX8_tunnel MX8_in := ⟨Nat.le_of_ble_eq_true rfl, Nat.le_of_ble_eq_true rfl⟩
theorem rm_X8_tunnel_X8_bits : rmOk MX8_tunnel MX8_bits := ⟨Nat.le_of_ble_eq_true rfl, Nat.le_of_ble_eq_true rfl⟩
theorem rm_X8_rides_X8_in : rmOk MX8_rides MX8_in := ⟨Nat.le_of_ble_eq_true rfl, Nat.le_of_ble_eq_true rfl⟩
theorem rm_X8_ride_X8_isOne : rmOk MX8_ride MX8_isOne := ⟨Nat.le_of_ble_eq_true rfl, Nat.le_of_ble_eq_true rfl⟩
theorem rm_X8_ride_X8_in : rmOk MX8_ride MX8_in := ⟨Nat.le_of_ble_eq_true rfl, Nat.le_of_ble_eq_true rfl⟩
theorem rm_X8_ride_X8_rides : rmOk MX8_ride MX8_rides := ⟨Nat.le_of_ble_eq_true rfl, Nat.le_of_ble_eq_true rfl⟩
theorem rm_X8_seat_X8_isOne : rmOk MX8_seat MX8_isOne := ⟨Nat.le_of_ble_eq_true rfl, Nat.le_of_ble_eq_true rfl⟩
theorem rm_X8_seat_X8_isRoom : rmOk MX8_seat MX8_isRoom := ⟨Nat.le_of_ble_eq_true rfl, Nat.le_of_ble_eq_true rfl⟩
theorem rm_X8_purse_X8_isOne : rmOk MX8_purse MX8_isOne := ⟨Nat.le_of_ble_eq_true rfl, Nat.le_of_ble_eq_true rfl⟩
theorem rm_X8_purse_X8_in : rmOk MX8_purse MX8_in := ⟨Nat.le_of_ble_eq_true rfl, Nat.le_of_ble_eq_true rfl⟩
theorem rm_X8_fine_X8_in : rmOk MX8_fine MX8_in := ⟨Nat.le_of_ble_eq_true rfl, Nat.le_of_ble_eq_true rfl⟩
theorem rm_X8_say_X8_in : rmOk MX8_say MX8_in := ⟨Nat.le_of_ble_eq_true rfl, Nat.le_of_ble_eq_true rfl⟩
theorem rm_X8_isLetter_X8_in : rmOk MX8_isLetter MX8_in := ⟨Nat.le_of_ble_eq_true rfl, Nat.le_of_ble_eq_true rfl⟩
theorem rm_X8_isDigit_X8_in : rmOk MX8_isDigit MX8_in := ⟨Nat.le_of_ble_eq_true rfl, Nat.le_of_ble_eq_true rfl⟩
theorem rm_X8_faultOf_X8_isLetter : rmOk MX8_faultOf MX8_isLetter := ⟨Nat.le_of_ble_eq_true rfl, Nat.le_of_ble_eq_true rfl⟩
theorem rm_X8_faultOf_X8_isDigit : rmOk MX8_faultOf MX8_isDigit := ⟨Nat.le_of_ble_eq_true rfl, Nat.le_of_ble_eq_true rfl⟩
theorem rm_X8_fault_X8_faultOf : rmOk MX8_fault MX8_faultOf := ⟨Nat.le_of_ble_eq_true rfl, Nat.le_of_ble_eq_true rfl⟩
theorem rm_X8_isTunnel_X8_has : rmOk MX8_isTunnel MX8_has := ⟨Nat.le_of_ble_eq_true rfl, Nat.le_of_ble_eq_true rfl⟩
theorem rm_X8_holder_X8_isTunnel : rmOk MX8_holder MX8_isTunnel := ⟨Nat.le_of_ble_eq_true rfl, Nat.le_of_ble_eq_true rfl⟩
theorem rm_X8_holder_X8_rides : rmOk MX8_holder MX8_rides := ⟨Nat.le_of_ble_eq_true rfl, Nat.le_of_ble_eq_true rfl⟩
theorem rm_X8_pass_X8_holder : rmOk MX8_pass MX8_holder := ⟨Nat.le_of_ble_eq_true rfl, Nat.le_of_ble_eq_true rfl⟩
theorem rm_X8_ridesNow_X8_rides : rmOk MX8_ridesNow MX8_rides := ⟨Nat.le_of_ble_eq_true rfl, Nat.le_of_ble_eq_true rfl⟩
theorem rm_X8_maySpeak_X8_holder : rmOk MX8_maySpeak MX8_holder := ⟨Nat.le_of_ble_eq_true rfl, Nat.le_of_ble_eq_true rfl⟩
theorem rm_X8_maySpeak_X8_ridesNow : rmOk MX8_maySpeak MX8_ridesNow := ⟨Nat.le_of_ble_eq_true rfl, Nat.le_of_ble_eq_true rfl⟩
theorem rm_X8_cough_X8_holder : rmOk MX8_cough MX8_holder := ⟨Nat.le_of_ble_eq_true rfl, Nat.le_of_ble_eq_true rfl⟩
theorem rm_X8_whyNot_X8_ridesNow : rmOk MX8_whyNot MX8_ridesNow := ⟨Nat.le_of_ble_eq_true rfl, Nat.le_of_ble_eq_true rfl⟩
theorem rm_X8_whyNot_X8_maySpeak : rmOk MX8_whyNot MX8_maySpeak := ⟨Nat.le_of_ble_eq_true rfl, Nat.le_of_ble_eq_true rfl⟩
theorem rm_X8_goRides_X8_asNow : rmOk MX8_goRides MX8_asNow := ⟨Nat.le_of_ble_eq_true rfl, Nat.le_of_ble_eq_true rfl⟩
theorem rm_X8_goRides_X8_pass : rmOk MX8_goRides MX8_pass := ⟨Nat.le_of_ble_eq_true rfl, Nat.le_of_ble_eq_true rfl⟩
theorem rm_X8_goRides_X8_isDigit : rmOk MX8_goRides MX8_isDigit := ⟨Nat.le_of_ble_eq_true rfl, Nat.le_of_ble_eq_true rfl⟩
theorem rm_X8_goRides_X8_whyNot : rmOk MX8_goRides MX8_whyNot := ⟨Nat.le_of_ble_eq_true rfl, Nat.le_of_ble_eq_true rfl⟩
theorem rm_X8_goRides_X8_cough : rmOk MX8_goRides MX8_cough := ⟨Nat.le_of_ble_eq_true rfl, Nat.le_of_ble_eq_true rfl⟩
theorem rm_X8_judge_X8_in : rmOk MX8_judge MX8_in := ⟨Nat.le_of_ble_eq_true rfl, Nat.le_of_ble_eq_true rfl⟩
theorem rm_X8_judge_X8_faultOf : rmOk MX8_judge MX8_faultOf := ⟨Nat.le_of_ble_eq_true rfl, Nat.le_of_ble_eq_true rfl⟩
theorem rm_X8_judge_X8_goRides : rmOk MX8_judge MX8_goRides := ⟨Nat.le_of_ble_eq_true rfl, Nat.le_of_ble_eq_true rfl⟩
theorem rm_X8_barOfRides_X8_faultOf : rmOk MX8_barOfRides MX8_faultOf := ⟨Nat.le_of_ble_eq_true rfl, Nat.le_of_ble_eq_true rfl⟩
theorem rm_X8_barOfRides_X8_goRides : rmOk MX8_barOfRides MX8_goRides := ⟨Nat.le_of_ble_eq_true rfl, Nat.le_of_ble_eq_true rfl⟩
theorem rm_X8_done_X8_barOfRides : rmOk MX8_done MX8_barOfRides := ⟨Nat.le_of_ble_eq_true rfl, Nat.le_of_ble_eq_true rfl⟩
theorem rm_X8_behind_X8_in : rmOk MX8_behind MX8_in := ⟨Nat.le_of_ble_eq_true rfl, Nat.le_of_ble_eq_true rfl⟩
theorem rm_X8_behind_X8_barOfRides : rmOk MX8_behind MX8_barOfRides := ⟨Nat.le_of_ble_eq_true rfl, Nat.le_of_ble_eq_true rfl⟩
theorem rm_X8_holds_X8_isRoom : rmOk MX8_holds MX8_isRoom := ⟨Nat.le_of_ble_eq_true rfl, Nat.le_of_ble_eq_true rfl⟩
theorem rm_X8_holds_X8_asNow : rmOk MX8_holds MX8_asNow := ⟨Nat.le_of_ble_eq_true rfl, Nat.le_of_ble_eq_true rfl⟩
theorem rm_X8_holds_X8_holder : rmOk MX8_holds MX8_holder := ⟨Nat.le_of_ble_eq_true rfl, Nat.le_of_ble_eq_true rfl⟩
theorem rm_X8_hears_X8_isOne : rmOk MX8_hears MX8_isOne := ⟨Nat.le_of_ble_eq_true rfl, Nat.le_of_ble_eq_true rfl⟩
theorem rm_X8_hears_X8_asNow : rmOk MX8_hears MX8_asNow := ⟨Nat.le_of_ble_eq_true rfl, Nat.le_of_ble_eq_true rfl⟩
theorem rm_X8_hears_X8_maySpeak : rmOk MX8_hears MX8_maySpeak := ⟨Nat.le_of_ble_eq_true rfl, Nat.le_of_ble_eq_true rfl⟩
theorem rm_X8_hears_X8_ridesNow : rmOk MX8_hears MX8_ridesNow := ⟨Nat.le_of_ble_eq_true rfl, Nat.le_of_ble_eq_true rfl⟩
theorem rm_X8_forecast_X8_isRoom : rmOk MX8_forecast MX8_isRoom := ⟨Nat.le_of_ble_eq_true rfl, Nat.le_of_ble_eq_true rfl⟩
theorem rm_X8_forecast_X8_in : rmOk MX8_forecast MX8_in := ⟨Nat.le_of_ble_eq_true rfl, Nat.le_of_ble_eq_true rfl⟩
theorem rm_X8_forecast_X8_asNow : rmOk MX8_forecast MX8_asNow := ⟨Nat.le_of_ble_eq_true rfl, Nat.le_of_ble_eq_true rfl⟩
theorem rm_X8_forecast_X8_pass : rmOk MX8_forecast MX8_pass := ⟨Nat.le_of_ble_eq_true rfl, Nat.le_of_ble_eq_true rfl⟩
theorem rm_X8_forecast_X8_holder : rmOk MX8_forecast MX8_holder := ⟨Nat.le_of_ble_eq_true rfl, Nat.le_of_ble_eq_true rfl⟩
theorem rm_X8_toEnd_X8_pass : rmOk MX8_toEnd MX8_pass := ⟨Nat.le_of_ble_eq_true rfl, Nat.le_of_ble_eq_true rfl⟩
theorem rm_X8_rests_X8_isOne : rmOk MX8_rests MX8_isOne := ⟨Nat.le_of_ble_eq_true rfl, Nat.le_of_ble_eq_true rfl⟩
theorem rm_X8_rests_X8_asNow : rmOk MX8_rests MX8_asNow := ⟨Nat.le_of_ble_eq_true rfl, Nat.le_of_ble_eq_true rfl⟩
theorem rm_X8_rests_X8_toEnd : rmOk MX8_rests MX8_toEnd := ⟨Nat.le_of_ble_eq_true rfl, Nat.le_of_ble_eq_true rfl⟩
theorem rm_X8_talks_X8_isOne : rmOk MX8_talks MX8_isOne := ⟨Nat.le_of_ble_eq_true rfl, Nat.le_of_ble_eq_true rfl⟩
theorem rm_X8_talks_X8_asNow : rmOk MX8_talks MX8_asNow := ⟨Nat.le_of_ble_eq_true rfl, Nat.le_of_ble_eq_true rfl⟩
theorem rm_X8_talks_X8_maySpeak : rmOk MX8_talks MX8_maySpeak := ⟨Nat.le_of_ble_eq_true rfl, Nat.le_of_ble_eq_true rfl⟩
theorem rm_X8_talks_X8_ridesNow : rmOk MX8_talks MX8_ridesNow := ⟨Nat.le_of_ble_eq_true rfl, Nat.le_of_ble_eq_true rfl⟩
theorem rm_X8_talks_X8_pass : rmOk MX8_talks MX8_pass := ⟨Nat.le_of_ble_eq_true rfl, Nat.le_of_ble_eq_true rfl⟩
theorem rm_X8_buy_X8_isOne : rmOk MX8_buy MX8_isOne := ⟨Nat.le_of_ble_eq_true rfl, Nat.le_of_ble_eq_true rfl⟩
theorem rm_X8_buy_X8_in : rmOk MX8_buy MX8_in := ⟨Nat.le_of_ble_eq_true rfl, Nat.le_of_ble_eq_true rfl⟩
theorem rm_X8_buy_X8_asNow : rmOk MX8_buy MX8_asNow := ⟨Nat.le_of_ble_eq_true rfl, Nat.le_of_ble_eq_true rfl⟩
theorem rm_X8_buy_X8_ridesNow : rmOk MX8_buy MX8_ridesNow := ⟨Nat.le_of_ble_eq_true rfl, Nat.le_of_ble_eq_true rfl⟩
theorem rm_X8_buy_X8_isTunnel : rmOk MX8_buy MX8_isTunnel := ⟨Nat.le_of_ble_eq_true rfl, Nat.le_of_ble_eq_true rfl⟩
theorem rm_X8_buy_X8_holder : rmOk MX8_buy MX8_holder := ⟨Nat.le_of_ble_eq_true rfl, Nat.le_of_ble_eq_true rfl⟩
theorem rm_X8_buy_X8_pass : rmOk MX8_buy MX8_pass := ⟨Nat.le_of_ble_eq_true rfl, Nat.le_of_ble_eq_true rfl⟩
theorem rm_X8_ridesAtAll_X8_rides : rmOk MX8_ridesAtAll MX8_rides := ⟨Nat.le_of_ble_eq_true rfl, Nat.le_of_ble_eq_true rfl⟩
theorem rm_X8_rideAtOnce_X8_rides : rmOk MX8_rideAtOnce MX8_rides := ⟨Nat.le_of_ble_eq_true rfl, Nat.le_of_ble_eq_true rfl⟩
theorem rm_X8_seats_X8_in : rmOk MX8_seats MX8_in := ⟨Nat.le_of_ble_eq_true rfl, Nat.le_of_ble_eq_true rfl⟩
theorem rm_X8_seats_X8_ridesAtAll : rmOk MX8_seats MX8_ridesAtAll := ⟨Nat.le_of_ble_eq_true rfl, Nat.le_of_ble_eq_true rfl⟩
theorem rm_X8_seats_X8_rideAtOnce : rmOk MX8_seats MX8_rideAtOnce := ⟨Nat.le_of_ble_eq_true rfl, Nat.le_of_ble_eq_true rfl⟩
theorem rm_X8_seats_X8_has : rmOk MX8_seats MX8_has := ⟨Nat.le_of_ble_eq_true rfl, Nat.le_of_ble_eq_true rfl⟩
theorem rm_X8_goWord_X8_isTunnel : rmOk MX8_goWord MX8_isTunnel := ⟨Nat.le_of_ble_eq_true rfl, Nat.le_of_ble_eq_true rfl⟩
theorem rm_X8_goWord_X8_rides : rmOk MX8_goWord MX8_rides := ⟨Nat.le_of_ble_eq_true rfl, Nat.le_of_ble_eq_true rfl⟩
theorem rm_X8_goWord_X8_has : rmOk MX8_goWord MX8_has := ⟨Nat.le_of_ble_eq_true rfl, Nat.le_of_ble_eq_true rfl⟩
theorem rm_X8_word_X8_isOne : rmOk MX8_word MX8_isOne := ⟨Nat.le_of_ble_eq_true rfl, Nat.le_of_ble_eq_true rfl⟩
theorem rm_X8_word_X8_in : rmOk MX8_word MX8_in := ⟨Nat.le_of_ble_eq_true rfl, Nat.le_of_ble_eq_true rfl⟩
theorem rm_X8_word_X8_goWord : rmOk MX8_word MX8_goWord := ⟨Nat.le_of_ble_eq_true rfl, Nat.le_of_ble_eq_true rfl⟩
theorem rm_X8_heard_X8_isOne : rmOk MX8_heard MX8_isOne := ⟨Nat.le_of_ble_eq_true rfl, Nat.le_of_ble_eq_true rfl⟩
theorem rm_X8_heard_X8_in : rmOk MX8_heard MX8_in := ⟨Nat.le_of_ble_eq_true rfl, Nat.le_of_ble_eq_true rfl⟩
theorem rm_X8_heard_X8_goWord : rmOk MX8_heard MX8_goWord := ⟨Nat.le_of_ble_eq_true rfl, Nat.le_of_ble_eq_true rfl⟩
theorem rm_X8_richest_X8_in : rmOk MX8_richest MX8_in := ⟨Nat.le_of_ble_eq_true rfl, Nat.le_of_ble_eq_true rfl⟩
theorem rm_X8_richest_X8_asNow : rmOk MX8_richest MX8_asNow := ⟨Nat.le_of_ble_eq_true rfl, Nat.le_of_ble_eq_true rfl⟩
theorem rm_X8_richest_X8_toEnd : rmOk MX8_richest MX8_toEnd := ⟨Nat.le_of_ble_eq_true rfl, Nat.le_of_ble_eq_true rfl⟩
theorem rm_X8_seen_X8_isOne : rmOk MX8_seen MX8_isOne := ⟨Nat.le_of_ble_eq_true rfl, Nat.le_of_ble_eq_true rfl⟩
theorem rm_X8_seen_X8_in : rmOk MX8_seen MX8_in := ⟨Nat.le_of_ble_eq_true rfl, Nat.le_of_ble_eq_true rfl⟩
theorem rm_X8_humSet_X8_ridesAtAll : rmOk MX8_humSet MX8_ridesAtAll := ⟨Nat.le_of_ble_eq_true rfl, Nat.le_of_ble_eq_true rfl⟩
theorem rm_X8_humSet_X8_rides : rmOk MX8_humSet MX8_rides := ⟨Nat.le_of_ble_eq_true rfl, Nat.le_of_ble_eq_true rfl⟩
theorem rm_X8_hum_X8_humSet : rmOk MX8_hum MX8_humSet := ⟨Nat.le_of_ble_eq_true rfl, Nat.le_of_ble_eq_true rfl⟩
theorem rm_X8_watch_X8_in : rmOk MX8_watch MX8_in := ⟨Nat.le_of_ble_eq_true rfl, Nat.le_of_ble_eq_true rfl⟩
theorem rm_X8_watch_X8_humSet : rmOk MX8_watch MX8_humSet := ⟨Nat.le_of_ble_eq_true rfl, Nat.le_of_ble_eq_true rfl⟩
theorem rm_X8_watch_X8_has : rmOk MX8_watch MX8_has := ⟨Nat.le_of_ble_eq_true rfl, Nat.le_of_ble_eq_true rfl⟩
theorem rm_X8_watch_X8_rides : rmOk MX8_watch MX8_rides := ⟨Nat.le_of_ble_eq_true rfl, Nat.le_of_ble_eq_true rfl⟩
theorem rm_X8_watch_X8_bits : rmOk MX8_watch MX8_bits := ⟨Nat.le_of_ble_eq_true rfl, Nat.le_of_ble_eq_true rfl⟩
theorem rm_X8_auction_X8_in : rmOk MX8_auction MX8_in := ⟨Nat.le_of_ble_eq_true rfl, Nat.le_of_ble_eq_true rfl⟩
theorem rm_X8_coughs_X8_isRoom : rmOk MX8_coughs MX8_isRoom := ⟨Nat.le_of_ble_eq_true rfl, Nat.le_of_ble_eq_true rfl⟩
theorem rm_X8_coughs_X8_in : rmOk MX8_coughs MX8_in := ⟨Nat.le_of_ble_eq_true rfl, Nat.le_of_ble_eq_true rfl⟩
theorem rm_X8_coughs_X8_asNow : rmOk MX8_coughs MX8_asNow := ⟨Nat.le_of_ble_eq_true rfl, Nat.le_of_ble_eq_true rfl⟩
theorem rm_X8_coughs_X8_holder : rmOk MX8_coughs MX8_holder := ⟨Nat.le_of_ble_eq_true rfl, Nat.le_of_ble_eq_true rfl⟩
theorem rm_X8_coughs_X8_ridesNow : rmOk MX8_coughs MX8_ridesNow := ⟨Nat.le_of_ble_eq_true rfl, Nat.le_of_ble_eq_true rfl⟩
theorem rm_X8_coughs_X8_pass : rmOk MX8_coughs MX8_pass := ⟨Nat.le_of_ble_eq_true rfl, Nat.le_of_ble_eq_true rfl⟩
theorem rm_X8_year_X8_in : rmOk MX8_year MX8_in := ⟨Nat.le_of_ble_eq_true rfl, Nat.le_of_ble_eq_true rfl⟩
theorem rm_X8_year_X8_asNow : rmOk MX8_year MX8_asNow := ⟨Nat.le_of_ble_eq_true rfl, Nat.le_of_ble_eq_true rfl⟩
theorem rm_X8_year_X8_pass : rmOk MX8_year MX8_pass := ⟨Nat.le_of_ble_eq_true rfl, Nat.le_of_ble_eq_true rfl⟩
theorem rm_X8_year_X8_ridesNow : rmOk MX8_year MX8_ridesNow := ⟨Nat.le_of_ble_eq_true rfl, Nat.le_of_ble_eq_true rfl⟩
theorem rm_X8_year_X8_cough : rmOk MX8_year MX8_cough := ⟨Nat.le_of_ble_eq_true rfl, Nat.le_of_ble_eq_true rfl⟩
theorem rm_X8_image_X8_in : rmOk MX8_image MX8_in := ⟨Nat.le_of_ble_eq_true rfl, Nat.le_of_ble_eq_true rfl⟩
theorem rm_X8_restore_X8_in : rmOk MX8_restore MX8_in := ⟨Nat.le_of_ble_eq_true rfl, Nat.le_of_ble_eq_true rfl⟩
theorem rm_X8_told_X8_isOne : rmOk MX8_told MX8_isOne := ⟨Nat.le_of_ble_eq_true rfl, Nat.le_of_ble_eq_true rfl⟩
end
section
/-! the train's words -/
def trd (σ : St) (k : Nat) (t m : Int32) : Bool := rd (σ (k + 1)) (σ (k + 2)) (σ k 0) t m
def tri (σ : St) (k : Nat) (t c m : Int32) : Bool := trd σ k t m && decide (σ (k + 3) (ix t) = c)
def ttn (σ : St) (k : Nat) (m : Int32) : Bool := tn (σ k 5) m
def tminOf (σ : St) (k : Nat) (t : Int32) : Int32 := cntB (fun n => trd σ k t (nI n)) (clN (σ k 0))
def ttol (σ : St) (k : Nat) : Int32 := cntB (fun n => ttn σ k (nI n)) (clN (σ k 0))
def trdo (σ : St) (k : Nat) (c m : Int32) : Int32 := setB (fun n => tri σ k (nI n) c m) 6
def tcomp (σ : St) (k : Nat) (t m : Int32) : Int32 := if isTr t && trd σ k t m then trdo σ k (σ (k + 3) (ix t)) m &&& (((1 : Int32) <<< (t &&& 31)) ^^^ (-1)) else 0
def trol (σ : St) (k : Nat) : Int32 := setB (fun n => decide (0 < tminOf σ k (nI n))) 6
def ttog (σ : St) (k : Nat) (a b : Int32) : Bool := exB (fun n => trd σ k a (nI n) && trd σ k b (nI n)) (clN (σ k 0))
def tfrom (σ : St) (k : Nat) (t : Int32) : Bool := exB (fun j => trd σ k t (σ k 1 + nI j)) (cnt (σ k 1) (σ k 0))
def hst (σ : St) (k : Nat) (c : Int32) (n : Nat) (a : Int32 × Int32) : Int32 × Int32 := if (decide (a.2 < σ (k + 5) n) && !decide (σ (k + 4) n < σ (k + 5) n)) && (decide (σ (k + 3) n = c) && trd σ k (nI n) (σ k 1)) then (nI n, σ (k + 5) n) else a
def thold (σ : St) (k : Nat) (c : Int32) : Int32 := if ttn σ k (σ k 1) then -6 else (itr (hst σ k c) 6 (-6, 0)).1
def tisH (σ : St) (k : Nat) (t : Int32) : Bool := isTr t && decide (thold σ k (σ (k + 3) (ix t)) = t)
def tmay (σ : St) (k : Nat) (t : Int32) : Bool := (isTr t && trd σ k t (σ k 1)) && (decide (thold σ k (σ (k + 3) (ix t)) = -6) || decide (thold σ k (σ (k + 3) (ix t)) = t))
def tpay1 (σ : St) (k : Nat) (t v : Int32) : St := ups σ (k + 4) (ix t) (σ (k + 4) (ix t) - v)
def tpay (σ : St) (k : Nat) (t v : Int32) : St := if isTr t then ups (tpay1 σ k t v) k 2 (tpay1 σ k t v k 2 + v) else σ
def tpst (k : Nat) (c : Nat) (τ : St) : St := if isTr (thold τ k (nI c)) then tpay τ k (thold τ k (nI c)) (τ (k + 5) (ix (thold τ k (nI c)))) else τ
def tpas3 (σ : St) (k : Nat) : St := itr (tpst k) 3 σ
def tpas (σ : St) (k : Nat) : St := if σ k 1 < σ k 0 then ups (tpas3 σ k) k 1 (tpas3 σ k k 1 + 1) else σ
def tcouv (σ : St) (k : Nat) (h : Int32) : Int32 := if σ (k + 4) (ix h) < σ k 3 then σ (k + 4) (ix h) else σ k 3
def tcou1 (σ : St) (k : Nat) (h : Int32) : St := tpay σ k h (tcouv σ k h)
def tcou (σ : St) (k : Nat) (t : Int32) : St := if isTr t && trd σ k t (σ k 1) then (if isTr (thold σ k (σ (k + 3) (ix t))) && !decide (thold σ k (σ (k + 3) (ix t)) = t) then ups (tcou1 σ k (thold σ k (σ (k + 3) (ix t)))) k 4 (tcou1 σ k (thold σ k (σ (k + 3) (ix t))) k 4 + tcouv σ k (thold σ k (σ (k + 3) (ix t)))) else σ) else σ
def tsetB (σ : St) (k : Nat) (t b : Int32) : St := if isTr t then ups σ (k + 5) (ix t) b else σ
def tsetR (σ : St) (k : Nat) (t a b : Int32) : St := if isTr t then ups (ups σ (k + 1) (ix t) a) (k + 2) (ix t) b else σ
def rem (x y : Int32) : Int32 := x - x / y * y
def tdraw (σ : St) (k : Nat) (x : Int32) : St := if ¬ 1 < rem x 8 then tpas σ k else if ¬ 4 < rem x 8 then tsetB σ k (rem (x / 8) 6) (rem (x / 64) 20) else tcou σ k (rem (x / 8) 6)
def tkst (σ : St) (k : Nat) (m kn : Int32) (c : Nat) (a : Int32) : Int32 := if trdo σ k (nI c) m &&& kn = 0 then a else a ||| trdo σ k (nI c) m
def tkno (σ : St) (k : Nat) (m kn : Int32) : Int32 := if ttn σ k m then itr (tkst σ k m kn) 3 kn else kn
def tcp0 (σ : St) (k j : Nat) : St := ups σ k 0 (σ j 0)
def tcp1 (σ : St) (k j : Nat) : St := ups (tcp0 σ k j) k 1 (tcp0 σ k j j 1)
def tcp2 (σ : St) (k j : Nat) : St := ups (tcp1 σ k j) k 2 (tcp1 σ k j j 2)
def tcp3 (σ : St) (k j : Nat) : St := ups (tcp2 σ k j) k 3 (tcp2 σ k j j 3)
def tcp4 (σ : St) (k j : Nat) : St := ups (tcp3 σ k j) k 4 0
def tcp5 (σ : St) (k j : Nat) : St := ups (tcp4 σ k j) k 5 (tcp4 σ k j j 5)
def cpA (σ : St) (p q n : Nat) : St := ups σ p n (σ q n)
def tcpst (k j n : Nat) (τ : St) : St := cpA (cpA (cpA (cpA (cpA τ (k + 1) (j + 1) n) (k + 2) (j + 2) n) (k + 3) (j + 3) n) (k + 4) (j + 4) n) (k + 5) (j + 5) n
def tcopy (σ : St) (k j : Nat) : St := itr (tcpst k j) 6 (tcp5 σ k j)

set_option maxRecDepth 20000 in
set_option maxHeartbeats 4000000 in
theorem t_X7_isWithin {σ : St} {v a b : Int32} : Ct MX7_isWithin [.int v, .int a, .int b] σ (some (.int (bI (wth v a b)))) (σ) := by
  refine ct_of (ls0 := [some (.int v), some (.int a), some (.int b)]) ok_MX7_isWithin rfl (Nat.le_of_ble_eq_true rfl) rfl ?_
  intro g X F
  refine zw_iload_0 X dX7_isWithin_0 ?_
  refine zw_iload_1 X dX7_isWithin_1 ?_
  refine zw_icmplt (tgt := 14) X dX7_isWithin_2 (by decide) (fun c_2 => ?_) (fun c_2 => ?_)
  · refine zw_iconst (v := 0) X dX7_isWithin_14 ik_0 ?_
    exact zw_zret X F dX7_isWithin_15 rfl (by simp [wth, bI_0', bI_1', bI_0, bI_1, bI_inj, c_2]) (rfl)
  · refine zw_iload_0 X dX7_isWithin_5 ?_
    refine zw_iload_2 X dX7_isWithin_6 ?_
    refine zw_icmpgt (tgt := 14) X dX7_isWithin_7 (by decide) (fun c_7 => ?_) (fun c_7 => ?_)
    · refine zw_iconst (v := 0) X dX7_isWithin_14 ik_0 ?_
      exact zw_zret X F dX7_isWithin_15 rfl (by simp [wth, bI_0', bI_1', bI_0, bI_1, bI_inj, c_2, c_7]) (rfl)
    · refine zw_iconst (v := 1) X dX7_isWithin_10 ik_1 ?_
      refine zw_goto (tgt := 15) X dX7_isWithin_11 (by decide) ?_
      exact zw_zret X F dX7_isWithin_15 rfl (by simp [wth, bI_0', bI_1', bI_0, bI_1, bI_inj, c_2, c_7]) (rfl)
set_option maxRecDepth 20000 in
set_option maxHeartbeats 4000000 in
theorem t_X7_isTraveller {σ : St} {v : Int32} : Ct MX7_isTraveller [.int v] σ (some (.int (bI (isTr v)))) (σ) := by
  refine ct_of (ls0 := [some (.int v)]) ok_MX7_isTraveller rfl (Nat.le_of_ble_eq_true rfl) rfl ?_
  intro g X F
  refine zw_iload_0 X dX7_isTraveller_0 ?_
  refine zw_iflt (tgt := 14) X dX7_isTraveller_1 (by decide) (fun c_1 => ?_) (fun c_1 => ?_)
  · refine zw_iconst (v := 0) X dX7_isTraveller_14 ik_0 ?_
    exact zw_zret X F dX7_isTraveller_15 rfl (by simp [isTr, bI_0', bI_1', bI_0, bI_1, bI_inj, c_1]) (rfl)
  · refine zw_iload_0 X dX7_isTraveller_4 ?_
    refine zw_bipush (v := 6) X dX7_isTraveller_5 bk_6 ?_
    refine zw_icmpge (tgt := 14) X dX7_isTraveller_7 (by decide) (fun c_7 => ?_) (fun c_7 => ?_)
    · refine zw_iconst (v := 0) X dX7_isTraveller_14 ik_0 ?_
      exact zw_zret X F dX7_isTraveller_15 rfl (by simp [isTr, bI_0', bI_1', bI_0, bI_1, bI_inj, c_1, c_7]) (rfl)
    · refine zw_iconst (v := 1) X dX7_isTraveller_10 ik_1 ?_
      refine zw_goto (tgt := 15) X dX7_isTraveller_11 (by decide) ?_
      exact zw_zret X F dX7_isTraveller_15 rfl (by simp [isTr, bI_0', bI_1', bI_0, bI_1, bI_inj, c_1, c_7]) (rfl)
set_option maxRecDepth 20000 in
set_option maxHeartbeats 4000000 in
theorem t_X7_isCompartment {σ : St} {v : Int32} : Ct MX7_isCompartment [.int v] σ (some (.int (bI (isCo v)))) (σ) := by
  refine ct_of (ls0 := [some (.int v)]) ok_MX7_isCompartment rfl (Nat.le_of_ble_eq_true rfl) rfl ?_
  intro g X F
  refine zw_iload_0 X dX7_isCompartment_0 ?_
  refine zw_iflt (tgt := 13) X dX7_isCompartment_1 (by decide) (fun c_1 => ?_) (fun c_1 => ?_)
  · refine zw_iconst (v := 0) X dX7_isCompartment_13 ik_0 ?_
    exact zw_zret X F dX7_isCompartment_14 rfl (by simp [isCo, bI_0', bI_1', bI_0, bI_1, bI_inj, c_1]) (rfl)
  · refine zw_iload_0 X dX7_isCompartment_4 ?_
    refine zw_iconst (v := 3) X dX7_isCompartment_5 ik_3 ?_
    refine zw_icmpge (tgt := 13) X dX7_isCompartment_6 (by decide) (fun c_6 => ?_) (fun c_6 => ?_)
    · refine zw_iconst (v := 0) X dX7_isCompartment_13 ik_0 ?_
      exact zw_zret X F dX7_isCompartment_14 rfl (by simp [isCo, bI_0', bI_1', bI_0, bI_1, bI_inj, c_1, c_6]) (rfl)
    · refine zw_iconst (v := 1) X dX7_isCompartment_9 ik_1 ?_
      refine zw_goto (tgt := 14) X dX7_isCompartment_10 (by decide) ?_
      exact zw_zret X F dX7_isCompartment_14 rfl (by simp [isCo, bI_0', bI_1', bI_0, bI_1, bI_inj, c_1, c_6]) (rfl)
set_option maxRecDepth 20000 in
set_option maxHeartbeats 4000000 in
theorem t_X7_isMinute {σ : St} {v : Int32} : Ct MX7_isMinute [.int v] σ (some (.int (bI (isMi v)))) (σ) := by
  refine ct_of (ls0 := [some (.int v)]) ok_MX7_isMinute rfl (Nat.le_of_ble_eq_true rfl) rfl ?_
  intro g X F
  refine zw_iload_0 X dX7_isMinute_0 ?_
  refine zw_iflt (tgt := 14) X dX7_isMinute_1 (by decide) (fun c_1 => ?_) (fun c_1 => ?_)
  · refine zw_iconst (v := 0) X dX7_isMinute_14 ik_0 ?_
    exact zw_zret X F dX7_isMinute_15 rfl (by simp [isMi, bI_0', bI_1', bI_0, bI_1, bI_inj, c_1]) (rfl)
  · refine zw_iload_0 X dX7_isMinute_4 ?_
    refine zw_bipush (v := 30) X dX7_isMinute_5 bk_30 ?_
    refine zw_icmpge (tgt := 14) X dX7_isMinute_7 (by decide) (fun c_7 => ?_) (fun c_7 => ?_)
    · refine zw_iconst (v := 0) X dX7_isMinute_14 ik_0 ?_
      exact zw_zret X F dX7_isMinute_15 rfl (by simp [isMi, bI_0', bI_1', bI_0, bI_1, bI_inj, c_1, c_7]) (rfl)
    · refine zw_iconst (v := 1) X dX7_isMinute_10 ik_1 ?_
      refine zw_goto (tgt := 15) X dX7_isMinute_11 (by decide) ?_
      exact zw_zret X F dX7_isMinute_15 rfl (by simp [isMi, bI_0', bI_1', bI_0, bI_1, bI_inj, c_1, c_7]) (rfl)
set_option maxRecDepth 20000 in
set_option maxHeartbeats 4000000 in
theorem t_X5_isTunnel {σ : St} {k : Nat} (hT : isT k) {m : Int32} : Ct MX5_isTunnel [.ref k, .int m] σ (some (.int (bI (ttn σ k m)))) (σ) := by
  refine ct_of (ls0 := [some (.ref k), some (.int m)]) ok_MX5_isTunnel rfl (Nat.le_of_ble_eq_true rfl) rfl ?_
  intro g X F
  refine zw_iload_1 X dX5_isTunnel_0 ?_
  refine zw_iflt (tgt := 25) X dX5_isTunnel_1 (by decide) (fun c_1 => ?_) (fun c_1 => ?_)
  · refine zw_iconst (v := 0) X dX5_isTunnel_25 ik_0 ?_
    exact zw_zret X F dX5_isTunnel_26 rfl (by simp [ttn, tn, bI_0', bI_1', bI_0, bI_1, bI_inj, c_1]) (rfl)
  · refine zw_iload_1 X dX5_isTunnel_4 ?_
    refine zw_bipush (v := 30) X dX5_isTunnel_5 bk_30 ?_
    refine zw_icmpge (tgt := 25) X dX5_isTunnel_7 (by decide) (fun c_7 => ?_) (fun c_7 => ?_)
    · refine zw_iconst (v := 0) X dX5_isTunnel_25 ik_0 ?_
      exact zw_zret X F dX5_isTunnel_26 rfl (by simp [ttn, tn, bI_0', bI_1', bI_0, bI_1, bI_inj, c_1, c_7]) (rfl)
    · refine zw_aload_0 X dX5_isTunnel_10 ?_
      refine zw_getI X dX5_isTunnel_11 fl_X5_43 ck_X5 hT.1 rfl ?_
      refine zw_iconst (v := 1) X dX5_isTunnel_14 ik_1 ?_
      refine zw_iload_1 X dX5_isTunnel_15 ?_
      refine zw_ishl X dX5_isTunnel_16 ?_
      refine zw_iand X dX5_isTunnel_17 ?_
      refine zw_ifeq (tgt := 25) X dX5_isTunnel_18 (by decide) (fun c_18 => ?_) (fun c_18 => ?_)
      · refine zw_iconst (v := 0) X dX5_isTunnel_25 ik_0 ?_
        exact zw_zret X F dX5_isTunnel_26 rfl (by simp [ttn, tn, bI_0', bI_1', bI_0, bI_1, bI_inj, c_1, c_7, c_18]) (rfl)
      · refine zw_iconst (v := 1) X dX5_isTunnel_21 ik_1 ?_
        refine zw_goto (tgt := 26) X dX5_isTunnel_22 (by decide) ?_
        exact zw_zret X F dX5_isTunnel_26 rfl (by simp [ttn, tn, bI_0', bI_1', bI_0, bI_1, bI_inj, c_1, c_7, c_18]) (rfl)
set_option maxRecDepth 20000 in
set_option maxHeartbeats 4000000 in
theorem t_X5_ridesAt {σ : St} {k : Nat} (hT : isT k) {t m : Int32} : Ct MX5_ridesAt [.ref k, .int t, .int m] σ (some (.int (bI (trd σ k t m)))) (σ) := by
  refine ct_of (ls0 := [some (.ref k), some (.int t), some (.int m)]) ok_MX5_ridesAt rfl (Nat.le_of_ble_eq_true rfl) rfl ?_
  intro g X F
  refine zw_iload_1 X dX5_ridesAt_0 ?_
  refine zw_iflt (tgt := 22) X dX5_ridesAt_1 (by decide) (fun c_1 => ?_) (fun c_1 => ?_)
  · refine zw_iconst (v := 0) X dX5_ridesAt_22 ik_0 ?_
    exact zw_zret X F dX5_ridesAt_23 rfl (by simp [trd, rd, isTr, bI_0', bI_1', bI_0, bI_1, bI_inj, c_1]) (rfl)
  · refine zw_iload_1 X dX5_ridesAt_4 ?_
    refine zw_bipush (v := 6) X dX5_ridesAt_5 bk_6 ?_
    refine zw_icmpge (tgt := 22) X dX5_ridesAt_7 (by decide) (fun c_7 => ?_) (fun c_7 => ?_)
    · refine zw_iconst (v := 0) X dX5_ridesAt_22 ik_0 ?_
      exact zw_zret X F dX5_ridesAt_23 rfl (by simp [trd, rd, isTr, bI_0', bI_1', bI_0, bI_1, bI_inj, c_1, c_7]) (rfl)
    · refine zw_iload_2 X dX5_ridesAt_10 ?_
      refine zw_iflt (tgt := 22) X dX5_ridesAt_11 (by decide) (fun c_11 => ?_) (fun c_11 => ?_)
      · refine zw_iconst (v := 0) X dX5_ridesAt_22 ik_0 ?_
        exact zw_zret X F dX5_ridesAt_23 rfl (by simp [trd, rd, isTr, bI_0', bI_1', bI_0, bI_1, bI_inj, c_1, c_7, c_11]) (rfl)
      · refine zw_iload_2 X dX5_ridesAt_14 ?_
        refine zw_aload_0 X dX5_ridesAt_15 ?_
        refine zw_getI X dX5_ridesAt_16 fl_X5_9 ck_X5 hT.1 rfl ?_
        refine zw_icmplt (tgt := 24) X dX5_ridesAt_19 (by decide) (fun c_19 => ?_) (fun c_19 => ?_)
        · refine zw_aload_0 X dX5_ridesAt_24 ?_
          refine zw_getR X dX5_ridesAt_25 fl_X5_18 ck_X5 hT.1 rfl ?_
          refine zw_iload_1 X dX5_ridesAt_28 ?_
          refine zw_iald X dX5_ridesAt_29 hT.2.1 (isTr_in (isTr_of c_1 c_7)) ?_
          refine zw_iflt (tgt := 57) X dX5_ridesAt_30 (by decide) (fun c_30 => ?_) (fun c_30 => ?_)
          · refine zw_iconst (v := 0) X dX5_ridesAt_57 ik_0 ?_
            exact zw_zret X F dX5_ridesAt_58 rfl (by simp [trd, rd, isTr, bI_0', bI_1', bI_0, bI_1, bI_inj, c_1, c_7, c_11, c_19, c_30]) (rfl)
          · refine zw_aload_0 X dX5_ridesAt_33 ?_
            refine zw_getR X dX5_ridesAt_34 fl_X5_18 ck_X5 hT.1 rfl ?_
            refine zw_iload_1 X dX5_ridesAt_37 ?_
            refine zw_iald X dX5_ridesAt_38 hT.2.1 (isTr_in (isTr_of c_1 c_7)) ?_
            refine zw_iload_2 X dX5_ridesAt_39 ?_
            refine zw_icmpgt (tgt := 57) X dX5_ridesAt_40 (by decide) (fun c_40 => ?_) (fun c_40 => ?_)
            · refine zw_iconst (v := 0) X dX5_ridesAt_57 ik_0 ?_
              exact zw_zret X F dX5_ridesAt_58 rfl (by simp [trd, rd, isTr, bI_0', bI_1', bI_0, bI_1, bI_inj, c_1, c_7, c_11, c_19, c_30, c_40]) (rfl)
            · refine zw_iload_2 X dX5_ridesAt_43 ?_
              refine zw_aload_0 X dX5_ridesAt_44 ?_
              refine zw_getR X dX5_ridesAt_45 fl_X5_22 ck_X5 hT.1 rfl ?_
              refine zw_iload_1 X dX5_ridesAt_48 ?_
              refine zw_iald X dX5_ridesAt_49 hT.2.2.1 (isTr_in (isTr_of c_1 c_7)) ?_
              refine zw_icmpgt (tgt := 57) X dX5_ridesAt_50 (by decide) (fun c_50 => ?_) (fun c_50 => ?_)
              · refine zw_iconst (v := 0) X dX5_ridesAt_57 ik_0 ?_
                exact zw_zret X F dX5_ridesAt_58 rfl (by simp [trd, rd, isTr, bI_0', bI_1', bI_0, bI_1, bI_inj, c_1, c_7, c_11, c_19, c_30, c_40, c_50]) (rfl)
              · refine zw_iconst (v := 1) X dX5_ridesAt_53 ik_1 ?_
                refine zw_goto (tgt := 58) X dX5_ridesAt_54 (by decide) ?_
                exact zw_zret X F dX5_ridesAt_58 rfl (by simp [trd, rd, isTr, bI_0', bI_1', bI_0, bI_1, bI_inj, c_1, c_7, c_11, c_19, c_30, c_40, c_50]) (rfl)
        · refine zw_iconst (v := 0) X dX5_ridesAt_22 ik_0 ?_
          exact zw_zret X F dX5_ridesAt_23 rfl (by simp [trd, rd, isTr, bI_0', bI_1', bI_0, bI_1, bI_inj, c_1, c_7, c_11, c_19]) (rfl)
theorem trd_tr {σ : St} {k : Nat} {t m : Int32} (h : trd σ k t m = true) : isTr t = true := by simp only [trd, rd, Bool.and_eq_true] at h; exact h.1
set_option maxRecDepth 20000 in
set_option maxHeartbeats 4000000 in
theorem t_X5_ridesIn {σ : St} {k : Nat} (hT : isT k) {t c m : Int32} : Ct MX5_ridesIn [.ref k, .int t, .int c, .int m] σ (some (.int (bI (tri σ k t c m)))) (σ) := by
  refine ct_of (ls0 := [some (.ref k), some (.int t), some (.int c), some (.int m)]) ok_MX5_ridesIn rfl (Nat.le_of_ble_eq_true rfl) rfl ?_
  intro g X F
  refine zw_aload_0 X dX5_ridesIn_0 ?_
  refine zw_iload_1 X dX5_ridesIn_1 ?_
  refine zw_iload_3 X dX5_ridesIn_2 ?_
  refine zw_cV_iii X dX5_ridesIn_3 lk_X5_53 ok_MX5_ridesAt vi_MX5_ridesAt rm_X5_ridesIn_X5_ridesAt hT.1 rfl (Nat.le_of_ble_eq_true rfl) (t_X5_ridesAt hT) ?_
  refine zw_ifeqB (tgt := 23) X dX5_ridesIn_6 (by decide) (fun c_6 => ?_) (fun c_6 => ?_)
  · refine zw_iconst (v := 0) X dX5_ridesIn_23 ik_0 ?_
    exact zw_zret X F dX5_ridesIn_24 rfl (by simp [tri, bI_0', bI_1', bI_0, bI_1, bI_inj, c_6]) (rfl)
  · refine zw_aload_0 X dX5_ridesIn_9 ?_
    refine zw_getR X dX5_ridesIn_10 fl_X5_25 ck_X5 hT.1 rfl ?_
    refine zw_iload_1 X dX5_ridesIn_13 ?_
    refine zw_iald X dX5_ridesIn_14 hT.2.2.2.1 (isTr_in (trd_tr c_6)) ?_
    refine zw_iload_2 X dX5_ridesIn_15 ?_
    refine zw_icmpne (tgt := 23) X dX5_ridesIn_16 (by decide) (fun c_16 => ?_) (fun c_16 => ?_)
    · refine zw_iconst (v := 0) X dX5_ridesIn_23 ik_0 ?_
      exact zw_zret X F dX5_ridesIn_24 rfl (by simp [tri, bI_0', bI_1', bI_0, bI_1, bI_inj, c_6, c_16]) (rfl)
    · refine zw_iconst (v := 1) X dX5_ridesIn_19 ik_1 ?_
      refine zw_goto (tgt := 24) X dX5_ridesIn_20 (by decide) ?_
      exact zw_zret X F dX5_ridesIn_24 rfl (by simp [tri, bI_0', bI_1', bI_0, bI_1, bI_inj, c_6, c_16]) (rfl)
set_option maxRecDepth 20000 in
set_option maxHeartbeats 4000000 in
theorem t_X5_ridesNow {σ : St} {k : Nat} (hT : isT k) {t : Int32} : Ct MX5_ridesNow [.ref k, .int t] σ (some (.int (bI (trd σ k t (σ k 1))))) (σ) := by
  refine ct_of (ls0 := [some (.ref k), some (.int t)]) ok_MX5_ridesNow rfl (Nat.le_of_ble_eq_true rfl) rfl ?_
  intro g X F
  refine zw_aload_0 X dX5_ridesNow_0 ?_
  refine zw_iload_1 X dX5_ridesNow_1 ?_
  refine zw_aload_0 X dX5_ridesNow_2 ?_
  refine zw_getI X dX5_ridesNow_3 fl_X5_34 ck_X5 hT.1 rfl ?_
  refine zw_cV_iii X dX5_ridesNow_6 lk_X5_53 ok_MX5_ridesAt vi_MX5_ridesAt rm_X5_ridesNow_X5_ridesAt hT.1 rfl (Nat.le_of_ble_eq_true rfl) (t_X5_ridesAt hT) ?_
  exact zw_zret X F dX5_ridesNow_9 rfl (rfl) (rfl)
set_option maxRecDepth 20000 in
set_option maxHeartbeats 4000000 in
theorem t_X5_tunnelsOfLine {σ : St} {k : Nat} (hT : isT k) : Ct MX5_tunnelsOfLine [.ref k] σ (some (.int (ttol σ k))) (σ) := by
  refine ct_of (ls0 := [some (.ref k), none, none]) ok_MX5_tunnelsOfLine rfl (Nat.le_of_ble_eq_true rfl) rfl ?_
  intro g X F
  refine zw_iconst (v := 0) X dX5_tunnelsOfLine_0 ik_0 ?_
  refine zw_istore_1 X dX5_tunnelsOfLine_1 ?_
  refine zw_iconst (v := 0) X dX5_tunnelsOfLine_2 ik_0 ?_
  refine zw_istore_2 X dX5_tunnelsOfLine_3 ?_
  refine zloop (α := Int32) (S := fun n a => ∀ (v4_1 : Int32) (v4_2 : Int32), v4_1 = a → v4_2 = nI n → ZW g 4 [some (.ref k), some (.int v4_1), some (.int v4_2)] [] σ) (N := clN (σ k 0)) (f := (fun n c => if ttn σ k (nI n) then c + 1 else c)) (a0 := (0 : Int32)) (fun n4 a4 hn4 ha4 ih4 v4_1 v4_2 hv4_1 hv4_2 => ?_) (fun a4 ha4 v4_1 v4_2 hv4_1 hv4_2 => ?_) _ _ rfl rfl
  · subst hv4_1 hv4_2
    refine zw_iload_2 X dX5_tunnelsOfLine_4 ?_
    refine zw_aload_0 X dX5_tunnelsOfLine_5 ?_
    refine zw_getI X dX5_tunnelsOfLine_6 fl_X5_9 ck_X5 hT.1 rfl ?_
    refine zw_icmpge_f (tgt := 29) X dX5_tunnelsOfLine_9 (by decide) ((clN_lt (Nat.le_of_lt hn4)).mpr hn4) ?_
    refine zw_aload_0 X dX5_tunnelsOfLine_12 ?_
    refine zw_iload_2 X dX5_tunnelsOfLine_13 ?_
    refine zw_cV_ii X dX5_tunnelsOfLine_14 lk_X5_46 ok_MX5_isTunnel vi_MX5_isTunnel rm_X5_tunnelsOfLine_X5_isTunnel hT.1 rfl (Nat.le_of_ble_eq_true rfl) (t_X5_isTunnel hT) ?_
    refine zw_ifeqB (tgt := 23) X dX5_tunnelsOfLine_17 (by decide) (fun c_17 => ?_) (fun c_17 => ?_)
    · refine zw_iinc_2_p1 X dX5_tunnelsOfLine_23 ?_
      refine zw_goto (tgt := 4) X dX5_tunnelsOfLine_26 (by decide) ?_
      exact ih4 _ _ (by simp [c_17]) (nI_1 n4)
    · refine zw_iinc_1_p1 X dX5_tunnelsOfLine_20 ?_
      refine zw_iinc_2_p1 X dX5_tunnelsOfLine_23 ?_
      refine zw_goto (tgt := 4) X dX5_tunnelsOfLine_26 (by decide) ?_
      exact ih4 _ _ (by simp [c_17]) (nI_1 n4)
  · subst hv4_1 hv4_2
    refine zw_iload_2 X dX5_tunnelsOfLine_4 ?_
    refine zw_aload_0 X dX5_tunnelsOfLine_5 ?_
    refine zw_getI X dX5_tunnelsOfLine_6 fl_X5_9 ck_X5 hT.1 rfl ?_
    refine zw_icmpge_t (tgt := 29) X dX5_tunnelsOfLine_9 (by decide) (fun h => Nat.lt_irrefl _ ((clN_lt (Nat.le_refl _)).mp h)) ?_
    refine zw_iload_1 X dX5_tunnelsOfLine_29 ?_
    exact zw_iret X F dX5_tunnelsOfLine_30 rfl (by simp [ttol, cntB, ha4]) (rfl)
set_option maxRecDepth 20000 in
set_option maxHeartbeats 4000000 in
theorem t_X5_minutesOf {σ : St} {k : Nat} (hT : isT k) {t : Int32} : Ct MX5_minutesOf [.ref k, .int t] σ (some (.int (tminOf σ k t))) (σ) := by
  refine ct_of (ls0 := [some (.ref k), some (.int t), none, none]) ok_MX5_minutesOf rfl (Nat.le_of_ble_eq_true rfl) rfl ?_
  intro g X F
  refine zw_iconst (v := 0) X dX5_minutesOf_0 ik_0 ?_
  refine zw_istore_2 X dX5_minutesOf_1 ?_
  refine zw_iconst (v := 0) X dX5_minutesOf_2 ik_0 ?_
  refine zw_istore_3 X dX5_minutesOf_3 ?_
  refine zloop (α := Int32) (S := fun n a => ∀ (v4_2 : Int32) (v4_3 : Int32), v4_2 = a → v4_3 = nI n → ZW g 4 [some (.ref k), some (.int t), some (.int v4_2), some (.int v4_3)] [] σ) (N := clN (σ k 0)) (f := (fun n c => if trd σ k t (nI n) then c + 1 else c)) (a0 := (0 : Int32)) (fun n4 a4 hn4 ha4 ih4 v4_2 v4_3 hv4_2 hv4_3 => ?_) (fun a4 ha4 v4_2 v4_3 hv4_2 hv4_3 => ?_) _ _ rfl rfl
  · subst hv4_2 hv4_3
    refine zw_iload_3 X dX5_minutesOf_4 ?_
    refine zw_aload_0 X dX5_minutesOf_5 ?_
    refine zw_getI X dX5_minutesOf_6 fl_X5_9 ck_X5 hT.1 rfl ?_
    refine zw_icmpge_f (tgt := 30) X dX5_minutesOf_9 (by decide) ((clN_lt (Nat.le_of_lt hn4)).mpr hn4) ?_
    refine zw_aload_0 X dX5_minutesOf_12 ?_
    refine zw_iload_1 X dX5_minutesOf_13 ?_
    refine zw_iload_3 X dX5_minutesOf_14 ?_
    refine zw_cV_iii X dX5_minutesOf_15 lk_X5_53 ok_MX5_ridesAt vi_MX5_ridesAt rm_X5_minutesOf_X5_ridesAt hT.1 rfl (Nat.le_of_ble_eq_true rfl) (t_X5_ridesAt hT) ?_
    refine zw_ifeqB (tgt := 24) X dX5_minutesOf_18 (by decide) (fun c_18 => ?_) (fun c_18 => ?_)
    · refine zw_iinc_3_p1 X dX5_minutesOf_24 ?_
      refine zw_goto (tgt := 4) X dX5_minutesOf_27 (by decide) ?_
      exact ih4 _ _ (by simp [c_18]) (nI_1 n4)
    · refine zw_iinc_2_p1 X dX5_minutesOf_21 ?_
      refine zw_iinc_3_p1 X dX5_minutesOf_24 ?_
      refine zw_goto (tgt := 4) X dX5_minutesOf_27 (by decide) ?_
      exact ih4 _ _ (by simp [c_18]) (nI_1 n4)
  · subst hv4_2 hv4_3
    refine zw_iload_3 X dX5_minutesOf_4 ?_
    refine zw_aload_0 X dX5_minutesOf_5 ?_
    refine zw_getI X dX5_minutesOf_6 fl_X5_9 ck_X5 hT.1 rfl ?_
    refine zw_icmpge_t (tgt := 30) X dX5_minutesOf_9 (by decide) (fun h => Nat.lt_irrefl _ ((clN_lt (Nat.le_refl _)).mp h)) ?_
    refine zw_iload_2 X dX5_minutesOf_30 ?_
    exact zw_iret X F dX5_minutesOf_31 rfl (by simp [tminOf, cntB, ha4]) (rfl)
set_option maxRecDepth 20000 in
set_option maxHeartbeats 4000000 in
theorem t_X5_ridersOf {σ : St} {k : Nat} (hT : isT k) {c m : Int32} : Ct MX5_ridersOf [.ref k, .int c, .int m] σ (some (.int (trdo σ k c m))) (σ) := by
  refine ct_of (ls0 := [some (.ref k), some (.int c), some (.int m), none, none]) ok_MX5_ridersOf rfl (Nat.le_of_ble_eq_true rfl) rfl ?_
  intro g X F
  refine zw_iconst (v := 0) X dX5_ridersOf_0 ik_0 ?_
  refine zw_istore_3 X dX5_ridersOf_1 ?_
  refine zw_iconst (v := 0) X dX5_ridersOf_2 ik_0 ?_
  refine zw_istore_4 X dX5_ridersOf_3 ?_
  refine zloop (α := Int32) (S := fun n a => ∀ (v5_3 : Int32) (v5_4 : Int32), v5_3 = a → v5_4 = nI n → ZW g 5 [some (.ref k), some (.int c), some (.int m), some (.int v5_3), some (.int v5_4)] [] σ) (N := 6) (f := (fun n x => if tri σ k (nI n) c m then x ||| ((1 : Int32) <<< (nI n &&& 31)) else x)) (a0 := (0 : Int32)) (fun n5 a5 hn5 ha5 ih5 v5_3 v5_4 hv5_3 hv5_4 => ?_) (fun a5 ha5 v5_3 v5_4 hv5_3 hv5_4 => ?_) _ _ rfl rfl
  · subst hv5_3 hv5_4
    refine zw_iload_4 X dX5_ridersOf_5 ?_
    refine zw_bipush (v := 6) X dX5_ridersOf_7 bk_6 ?_
    refine zw_icmpge_f (tgt := 36) X dX5_ridersOf_9 (by decide) (nI_lt hn5 (by decide)) ?_
    refine zw_aload_0 X dX5_ridersOf_12 ?_
    refine zw_iload_4 X dX5_ridersOf_13 ?_
    refine zw_iload_1 X dX5_ridersOf_15 ?_
    refine zw_iload_2 X dX5_ridersOf_16 ?_
    refine zw_cV_iiii X dX5_ridersOf_17 lk_X5_57 ok_MX5_ridesIn vi_MX5_ridesIn rm_X5_ridersOf_X5_ridesIn hT.1 rfl (Nat.le_of_ble_eq_true rfl) (t_X5_ridesIn hT) ?_
    refine zw_ifeqB (tgt := 30) X dX5_ridersOf_20 (by decide) (fun c_20 => ?_) (fun c_20 => ?_)
    · refine zw_iinc_4_p1 X dX5_ridersOf_30 ?_
      refine zw_goto (tgt := 5) X dX5_ridersOf_33 (by decide) ?_
      exact ih5 _ _ (by simp [c_20]) (nI_1 n5)
    · refine zw_iload_3 X dX5_ridersOf_23 ?_
      refine zw_iconst (v := 1) X dX5_ridersOf_24 ik_1 ?_
      refine zw_iload_4 X dX5_ridersOf_25 ?_
      refine zw_ishl X dX5_ridersOf_27 ?_
      refine zw_ior X dX5_ridersOf_28 ?_
      refine zw_istore_3 X dX5_ridersOf_29 ?_
      refine zw_iinc_4_p1 X dX5_ridersOf_30 ?_
      refine zw_goto (tgt := 5) X dX5_ridersOf_33 (by decide) ?_
      exact ih5 _ _ (by simp [c_20]) (nI_1 n5)
  · subst hv5_3 hv5_4
    refine zw_iload_4 X dX5_ridersOf_5 ?_
    refine zw_bipush (v := 6) X dX5_ridersOf_7 bk_6 ?_
    refine zw_icmpge_t (tgt := 36) X dX5_ridersOf_9 (by decide) (by decide) ?_
    refine zw_iload_3 X dX5_ridersOf_36 ?_
    exact zw_iret X F dX5_ridersOf_37 rfl (by simp [trdo, setB, ha5]) (rfl)
set_option maxRecDepth 20000 in
set_option maxHeartbeats 4000000 in
theorem t_X5_companionsOf {σ : St} {k : Nat} (hT : isT k) {t m : Int32} : Ct MX5_companionsOf [.ref k, .int t, .int m] σ (some (.int (tcomp σ k t m))) (σ) := by
  refine ct_of (ls0 := [some (.ref k), some (.int t), some (.int m)]) ok_MX5_companionsOf rfl (Nat.le_of_ble_eq_true rfl) rfl ?_
  intro g X F
  refine zw_iload_1 X dX5_companionsOf_0 ?_
  refine zw_cN_ii (host := "SilenceMinute") X dX5_companionsOf_1 (by decide +kernel) ok_MX7_isTraveller st_MX7_isTraveller rm_X5_companionsOf_X7_isTraveller (Nat.le_of_ble_eq_true rfl) t_X7_isTraveller ?_
  refine zw_ifeqB (tgt := 16) X dX5_companionsOf_4 (by decide) (fun c_4 => ?_) (fun c_4 => ?_)
  · refine zw_iconst (v := 0) X dX5_companionsOf_16 ik_0 ?_
    exact zw_iret X F dX5_companionsOf_17 rfl (by simp [tcomp, c_4]) (rfl)
  · refine zw_aload_0 X dX5_companionsOf_7 ?_
    refine zw_iload_1 X dX5_companionsOf_8 ?_
    refine zw_iload_2 X dX5_companionsOf_9 ?_
    refine zw_cV_iii X dX5_companionsOf_10 lk_X5_53 ok_MX5_ridesAt vi_MX5_ridesAt rm_X5_companionsOf_X5_ridesAt hT.1 rfl (Nat.le_of_ble_eq_true rfl) (t_X5_ridesAt hT) ?_
    refine zw_ifneB (tgt := 18) X dX5_companionsOf_13 (by decide) (fun c_13 => ?_) (fun c_13 => ?_)
    · refine zw_aload_0 X dX5_companionsOf_18 ?_
      refine zw_aload_0 X dX5_companionsOf_19 ?_
      refine zw_getR X dX5_companionsOf_20 fl_X5_25 ck_X5 hT.1 rfl ?_
      refine zw_iload_1 X dX5_companionsOf_23 ?_
      refine zw_iald X dX5_companionsOf_24 hT.2.2.2.1 (isTr_in c_4) ?_
      refine zw_iload_2 X dX5_companionsOf_25 ?_
      refine zw_cV_iii X dX5_companionsOf_26 lk_X5_61 ok_MX5_ridersOf vi_MX5_ridersOf rm_X5_companionsOf_X5_ridersOf hT.1 rfl (Nat.le_of_ble_eq_true rfl) (t_X5_ridersOf hT) ?_
      refine zw_iconst (v := 1) X dX5_companionsOf_29 ik_1 ?_
      refine zw_iload_1 X dX5_companionsOf_30 ?_
      refine zw_ishl X dX5_companionsOf_31 ?_
      refine zw_iconst (v := -1) X dX5_companionsOf_32 ik_m1 ?_
      refine zw_ixor X dX5_companionsOf_33 ?_
      refine zw_iand X dX5_companionsOf_34 ?_
      exact zw_iret X F dX5_companionsOf_35 rfl (by simp [tcomp, c_4, c_13]) (rfl)
    · refine zw_iconst (v := 0) X dX5_companionsOf_16 ik_0 ?_
      exact zw_iret X F dX5_companionsOf_17 rfl (by simp [tcomp, c_4, c_13]) (rfl)
set_option maxRecDepth 20000 in
set_option maxHeartbeats 4000000 in
theorem t_X5_ridersOfLine {σ : St} {k : Nat} (hT : isT k) : Ct MX5_ridersOfLine [.ref k] σ (some (.int (trol σ k))) (σ) := by
  refine ct_of (ls0 := [some (.ref k), none, none]) ok_MX5_ridersOfLine rfl (Nat.le_of_ble_eq_true rfl) rfl ?_
  intro g X F
  refine zw_iconst (v := 0) X dX5_ridersOfLine_0 ik_0 ?_
  refine zw_istore_1 X dX5_ridersOfLine_1 ?_
  refine zw_iconst (v := 0) X dX5_ridersOfLine_2 ik_0 ?_
  refine zw_istore_2 X dX5_ridersOfLine_3 ?_
  refine zloop (α := Int32) (S := fun n a => ∀ (v4_1 : Int32) (v4_2 : Int32), v4_1 = a → v4_2 = nI n → ZW g 4 [some (.ref k), some (.int v4_1), some (.int v4_2)] [] σ) (N := 6) (f := (fun n x => if decide (0 < tminOf σ k (nI n)) then x ||| ((1 : Int32) <<< (nI n &&& 31)) else x)) (a0 := (0 : Int32)) (fun n4 a4 hn4 ha4 ih4 v4_1 v4_2 hv4_1 hv4_2 => ?_) (fun a4 ha4 v4_1 v4_2 hv4_1 hv4_2 => ?_) _ _ rfl rfl
  · subst hv4_1 hv4_2
    refine zw_iload_2 X dX5_ridersOfLine_4 ?_
    refine zw_bipush (v := 6) X dX5_ridersOfLine_5 bk_6 ?_
    refine zw_icmpge_f (tgt := 30) X dX5_ridersOfLine_7 (by decide) (nI_lt hn4 (by decide)) ?_
    refine zw_aload_0 X dX5_ridersOfLine_10 ?_
    refine zw_iload_2 X dX5_ridersOfLine_11 ?_
    refine zw_cV_ii X dX5_ridersOfLine_12 lk_X5_65 ok_MX5_minutesOf vi_MX5_minutesOf rm_X5_ridersOfLine_X5_minutesOf hT.1 rfl (Nat.le_of_ble_eq_true rfl) (t_X5_minutesOf hT) ?_
    refine zw_ifle (tgt := 24) X dX5_ridersOfLine_15 (by decide) (fun c_15 => ?_) (fun c_15 => ?_)
    · refine zw_iinc_2_p1 X dX5_ridersOfLine_24 ?_
      refine zw_goto (tgt := 4) X dX5_ridersOfLine_27 (by decide) ?_
      exact ih4 _ _ (by simp [c_15]) (nI_1 n4)
    · refine zw_iload_1 X dX5_ridersOfLine_18 ?_
      refine zw_iconst (v := 1) X dX5_ridersOfLine_19 ik_1 ?_
      refine zw_iload_2 X dX5_ridersOfLine_20 ?_
      refine zw_ishl X dX5_ridersOfLine_21 ?_
      refine zw_ior X dX5_ridersOfLine_22 ?_
      refine zw_istore_1 X dX5_ridersOfLine_23 ?_
      refine zw_iinc_2_p1 X dX5_ridersOfLine_24 ?_
      refine zw_goto (tgt := 4) X dX5_ridersOfLine_27 (by decide) ?_
      exact ih4 _ _ (by simp [c_15]) (nI_1 n4)
  · subst hv4_1 hv4_2
    refine zw_iload_2 X dX5_ridersOfLine_4 ?_
    refine zw_bipush (v := 6) X dX5_ridersOfLine_5 bk_6 ?_
    refine zw_icmpge_t (tgt := 30) X dX5_ridersOfLine_7 (by decide) (by decide) ?_
    refine zw_iload_1 X dX5_ridersOfLine_30 ?_
    exact zw_iret X F dX5_ridersOfLine_31 rfl (by simp [trol, setB, ha4]) (rfl)
set_option maxRecDepth 20000 in
set_option maxHeartbeats 4000000 in
theorem t_X5_ridesFromNowOn {σ : St} {k : Nat} (hT : isT k) {t : Int32} : Ct MX5_ridesFromNowOn [.ref k, .int t] σ (some (.int (bI (tfrom σ k t)))) σ := by
  refine ct_of (ls0 := [some (.ref k), some (.int t), none]) ok_MX5_ridesFromNowOn rfl (Nat.le_of_ble_eq_true rfl) rfl ?_
  intro g X F
  refine zw_aload_0 X dX5_ridesFromNowOn_0 ?_
  refine zw_getI X dX5_ridesFromNowOn_1 fl_X5_34 ck_X5 hT.1 rfl ?_
  refine zw_istore_2 X dX5_ridesFromNowOn_4 ?_
  refine zfind (S := fun j => ∀ T : Int32, T = σ k 1 + nI j → ZW g 5 [some (.ref k), some (.int t), some (.int T)] [] σ) (P := (fun j => trd σ k t (σ k 1 + nI j))) (N := (cnt (σ k 1) (σ k 0))) (fun j hj ih hb T hT0 => ?_) (fun hb T hT0 => ?_) _ (by rw [nI_0, Int32.add_zero])
  · subst hT0
    refine zw_iload_2 X dX5_ridesFromNowOn_5 ?_
    refine zw_aload_0 X dX5_ridesFromNowOn_6 ?_
    refine zw_getI X dX5_ridesFromNowOn_7 fl_X5_9 ck_X5 hT.1 rfl ?_
    refine zw_icmpge_f (tgt := 30) X dX5_ridesFromNowOn_10 (by decide) ((cnt_lt (Nat.le_of_lt hj)).mpr hj) ?_
    refine zw_aload_0 X dX5_ridesFromNowOn_13 ?_
    refine zw_iload_1 X dX5_ridesFromNowOn_14 ?_
    refine zw_iload_2 X dX5_ridesFromNowOn_15 ?_
    refine zw_cV_iii X dX5_ridesFromNowOn_16 lk_X5_53 ok_MX5_ridesAt vi_MX5_ridesAt rm_X5_ridesFromNowOn_X5_ridesAt hT.1 rfl (Nat.le_of_ble_eq_true rfl) (t_X5_ridesAt hT) ?_
    refine zw_ifeqB (tgt := 24) X dX5_ridesFromNowOn_19 (by decide) (fun c_19 => ?_) (fun c_19 => ?_)
    · refine zw_iinc_2_p1 X dX5_ridesFromNowOn_24 ?_
      refine zw_goto (tgt := 5) X dX5_ridesFromNowOn_27 (by decide) ?_
      exact ih (by simp [c_19]) _ (add_nI _ j)
    · refine zw_iconst (v := 1) X dX5_ridesFromNowOn_22 ik_1 ?_
      exact zw_zret X F dX5_ridesFromNowOn_23 rfl (by simp [tfrom, bI_1', exB_t hj, c_19]) (rfl)
  · subst hT0
    refine zw_iload_2 X dX5_ridesFromNowOn_5 ?_
    refine zw_aload_0 X dX5_ridesFromNowOn_6 ?_
    refine zw_getI X dX5_ridesFromNowOn_7 fl_X5_9 ck_X5 hT.1 rfl ?_
    refine zw_icmpge_t (tgt := 30) X dX5_ridesFromNowOn_10 (by decide) (fun h => Nat.lt_irrefl _ ((cnt_lt (Nat.le_refl _)).mp h)) ?_
    refine zw_iconst (v := 0) X dX5_ridesFromNowOn_30 ik_0 ?_
    exact zw_zret X F dX5_ridesFromNowOn_31 rfl (by simp [tfrom, bI_0', exB_f.mpr hb]) (rfl)
set_option maxRecDepth 20000 in
set_option maxHeartbeats 4000000 in
theorem t_X5_rideTogether {σ : St} {k : Nat} (hT : isT k) {a b : Int32} : Ct MX5_rideTogether [.ref k, .int a, .int b] σ (some (.int (bI (ttog σ k a b)))) σ := by
  refine ct_of (ls0 := [some (.ref k), some (.int a), some (.int b), none]) ok_MX5_rideTogether rfl (Nat.le_of_ble_eq_true rfl) rfl ?_
  intro g X F
  refine zw_iconst (v := 0) X dX5_rideTogether_0 ik_0 ?_
  refine zw_istore_3 X dX5_rideTogether_1 ?_
  refine zfind (S := fun j => ∀ T : Int32, T = nI j → ZW g 2 [some (.ref k), some (.int a), some (.int b), some (.int T)] [] σ) (P := (fun n => trd σ k a (nI n) && trd σ k b (nI n))) (N := (clN (σ k 0))) (fun j hj ih hb T hT0 => ?_) (fun hb T hT0 => ?_) _ rfl
  · subst hT0
    refine zw_iload_3 X dX5_rideTogether_2 ?_
    refine zw_aload_0 X dX5_rideTogether_3 ?_
    refine zw_getI X dX5_rideTogether_4 fl_X5_9 ck_X5 hT.1 rfl ?_
    refine zw_icmpge_f (tgt := 36) X dX5_rideTogether_7 (by decide) ((clN_lt (Nat.le_of_lt hj)).mpr hj) ?_
    refine zw_aload_0 X dX5_rideTogether_10 ?_
    refine zw_iload_1 X dX5_rideTogether_11 ?_
    refine zw_iload_3 X dX5_rideTogether_12 ?_
    refine zw_cV_iii X dX5_rideTogether_13 lk_X5_53 ok_MX5_ridesAt vi_MX5_ridesAt rm_X5_rideTogether_X5_ridesAt hT.1 rfl (Nat.le_of_ble_eq_true rfl) (t_X5_ridesAt hT) ?_
    refine zw_ifeqB (tgt := 30) X dX5_rideTogether_16 (by decide) (fun c_16 => ?_) (fun c_16 => ?_)
    · refine zw_iinc_3_p1 X dX5_rideTogether_30 ?_
      refine zw_goto (tgt := 2) X dX5_rideTogether_33 (by decide) ?_
      exact ih (by simp [c_16]) _ (nI_1 j)
    · refine zw_aload_0 X dX5_rideTogether_19 ?_
      refine zw_iload_2 X dX5_rideTogether_20 ?_
      refine zw_iload_3 X dX5_rideTogether_21 ?_
      refine zw_cV_iii X dX5_rideTogether_22 lk_X5_53 ok_MX5_ridesAt vi_MX5_ridesAt rm_X5_rideTogether_X5_ridesAt hT.1 rfl (Nat.le_of_ble_eq_true rfl) (t_X5_ridesAt hT) ?_
      refine zw_ifeqB (tgt := 30) X dX5_rideTogether_25 (by decide) (fun c_25 => ?_) (fun c_25 => ?_)
      · refine zw_iinc_3_p1 X dX5_rideTogether_30 ?_
        refine zw_goto (tgt := 2) X dX5_rideTogether_33 (by decide) ?_
        exact ih (by simp [c_16, c_25]) _ (nI_1 j)
      · refine zw_iconst (v := 1) X dX5_rideTogether_28 ik_1 ?_
        exact zw_zret X F dX5_rideTogether_29 rfl (by simp [ttog, bI_1', exB_t hj, c_16, c_25]) (rfl)
  · subst hT0
    refine zw_iload_3 X dX5_rideTogether_2 ?_
    refine zw_aload_0 X dX5_rideTogether_3 ?_
    refine zw_getI X dX5_rideTogether_4 fl_X5_9 ck_X5 hT.1 rfl ?_
    refine zw_icmpge_t (tgt := 36) X dX5_rideTogether_7 (by decide) (fun h => Nat.lt_irrefl _ ((clN_lt (Nat.le_refl _)).mp h)) ?_
    refine zw_iconst (v := 0) X dX5_rideTogether_36 ik_0 ?_
    exact zw_zret X F dX5_rideTogether_37 rfl (by simp [ttog, bI_0', exB_f.mpr hb]) (rfl)
set_option maxRecDepth 20000 in
set_option maxHeartbeats 4000000 in
theorem t_X5_holderOf {σ : St} {k : Nat} (hT : isT k) {c : Int32} : Ct MX5_holderOf [.ref k, .int c] σ (some (.int (thold σ k c))) (σ) := by
  refine ct_of (ls0 := [some (.ref k), some (.int c), none, none, none, none]) ok_MX5_holderOf rfl (Nat.le_of_ble_eq_true rfl) rfl ?_
  intro g X F
  refine zw_bipush (v := -6) X dX5_holderOf_0 bk_m6 ?_
  refine zw_istore_2 X dX5_holderOf_2 ?_
  refine zw_iconst (v := 0) X dX5_holderOf_3 ik_0 ?_
  refine zw_istore_3 X dX5_holderOf_4 ?_
  refine zw_aload_0 X dX5_holderOf_5 ?_
  refine zw_aload_0 X dX5_holderOf_6 ?_
  refine zw_getI X dX5_holderOf_7 fl_X5_34 ck_X5 hT.1 rfl ?_
  refine zw_cV_ii X dX5_holderOf_10 lk_X5_46 ok_MX5_isTunnel vi_MX5_isTunnel rm_X5_holderOf_X5_isTunnel hT.1 rfl (Nat.le_of_ble_eq_true rfl) (t_X5_isTunnel hT) ?_
  refine zw_ifeqB (tgt := 19) X dX5_holderOf_13 (by decide) (fun c_13 => ?_) (fun c_13 => ?_)
  · refine zw_iconst (v := 0) X dX5_holderOf_19 ik_0 ?_
    refine zw_istore_4 X dX5_holderOf_20 ?_
    refine zw_fg_5 ?_
    refine zloop (α := Int32 × Int32) (S := fun n a => ∀ (v22_2 : Int32) (v22_3 : Int32) (v22_4 : Int32), v22_2 = a.1 → v22_3 = a.2 → v22_4 = nI n → ZW g 22 [some (.ref k), some (.int c), some (.int v22_2), some (.int v22_3), some (.int v22_4), none] [] σ) (N := 6) (f := (hst σ k c)) (a0 := ((-6, 0) : Int32 × Int32)) (fun n22 a22 hn22 ha22 ih22 v22_2 v22_3 v22_4 hv22_2 hv22_3 hv22_4 => ?_) (fun a22 ha22 v22_2 v22_3 v22_4 hv22_2 hv22_3 hv22_4 => ?_) _ _ _ rfl rfl rfl
    · subst hv22_2 hv22_3 hv22_4
      refine zw_iload_4 X dX5_holderOf_22 ?_
      refine zw_bipush (v := 6) X dX5_holderOf_24 bk_6 ?_
      refine zw_icmpge_f (tgt := 110) X dX5_holderOf_26 (by decide) (nI_lt hn22 (by decide)) ?_
      refine zw_aload_0 X dX5_holderOf_29 ?_
      refine zw_getR X dX5_holderOf_30 fl_X5_31 ck_X5 hT.1 rfl ?_
      refine zw_iload_4 X dX5_holderOf_33 ?_
      refine zw_ialdN X dX5_holderOf_35 hT.2.2.2.2.2 hn22 (by decide) ?_
      refine zw_iload_3 X dX5_holderOf_36 ?_
      refine zw_icmple (tgt := 61) X dX5_holderOf_37 (by decide) (fun c_37 => ?_) (fun c_37 => ?_)
      · refine zw_iconst (v := 0) X dX5_holderOf_61 ik_0 ?_
        refine zw_istore_5 X dX5_holderOf_62 ?_
        refine zw_iload_5 X dX5_holderOf_64 ?_
        refine zw_ifeq_t (tgt := 104) X dX5_holderOf_66 (by decide) (by decide) ?_
        refine zw_iinc_4_p1 X dX5_holderOf_104 ?_
        refine zw_goto (tgt := 22) X dX5_holderOf_107 (by decide) ?_
        refine zw_fg_5 ?_
        exact ih22 _ _ _ (by simp [hst, c_13, c_37]) (by simp [hst, c_13, c_37]) (nI_1 n22)
      · refine zw_aload_0 X dX5_holderOf_40 ?_
        refine zw_getR X dX5_holderOf_41 fl_X5_31 ck_X5 hT.1 rfl ?_
        refine zw_iload_4 X dX5_holderOf_44 ?_
        refine zw_ialdN X dX5_holderOf_46 hT.2.2.2.2.2 hn22 (by decide) ?_
        refine zw_aload_0 X dX5_holderOf_47 ?_
        refine zw_getR X dX5_holderOf_48 fl_X5_28 ck_X5 hT.1 rfl ?_
        refine zw_iload_4 X dX5_holderOf_51 ?_
        refine zw_ialdN X dX5_holderOf_53 hT.2.2.2.2.1 hn22 (by decide) ?_
        refine zw_icmpgt (tgt := 61) X dX5_holderOf_54 (by decide) (fun c_54 => ?_) (fun c_54 => ?_)
        · refine zw_iconst (v := 0) X dX5_holderOf_61 ik_0 ?_
          refine zw_istore_5 X dX5_holderOf_62 ?_
          refine zw_iload_5 X dX5_holderOf_64 ?_
          refine zw_ifeq_t (tgt := 104) X dX5_holderOf_66 (by decide) (by decide) ?_
          refine zw_iinc_4_p1 X dX5_holderOf_104 ?_
          refine zw_goto (tgt := 22) X dX5_holderOf_107 (by decide) ?_
          refine zw_fg_5 ?_
          exact ih22 _ _ _ (by simp [hst, c_13, c_37, c_54]) (by simp [hst, c_13, c_37, c_54]) (nI_1 n22)
        · refine zw_iconst (v := 1) X dX5_holderOf_57 ik_1 ?_
          refine zw_goto (tgt := 62) X dX5_holderOf_58 (by decide) ?_
          refine zw_istore_5 X dX5_holderOf_62 ?_
          refine zw_iload_5 X dX5_holderOf_64 ?_
          refine zw_ifeq_f (tgt := 104) X dX5_holderOf_66 (by decide) (by decide) ?_
          refine zw_aload_0 X dX5_holderOf_69 ?_
          refine zw_getR X dX5_holderOf_70 fl_X5_25 ck_X5 hT.1 rfl ?_
          refine zw_iload_4 X dX5_holderOf_73 ?_
          refine zw_ialdN X dX5_holderOf_75 hT.2.2.2.1 hn22 (by decide) ?_
          refine zw_iload_1 X dX5_holderOf_76 ?_
          refine zw_icmpne (tgt := 104) X dX5_holderOf_77 (by decide) (fun c_77 => ?_) (fun c_77 => ?_)
          · refine zw_iinc_4_p1 X dX5_holderOf_104 ?_
            refine zw_goto (tgt := 22) X dX5_holderOf_107 (by decide) ?_
            refine zw_fg_5 ?_
            exact ih22 _ _ _ (by simp [hst, c_13, c_37, c_54, c_77]) (by simp [hst, c_13, c_37, c_54, c_77]) (nI_1 n22)
          · refine zw_aload_0 X dX5_holderOf_80 ?_
            refine zw_iload_4 X dX5_holderOf_81 ?_
            refine zw_aload_0 X dX5_holderOf_83 ?_
            refine zw_getI X dX5_holderOf_84 fl_X5_34 ck_X5 hT.1 rfl ?_
            refine zw_cV_iii X dX5_holderOf_87 lk_X5_53 ok_MX5_ridesAt vi_MX5_ridesAt rm_X5_holderOf_X5_ridesAt hT.1 rfl (Nat.le_of_ble_eq_true rfl) (t_X5_ridesAt hT) ?_
            refine zw_ifeqB (tgt := 104) X dX5_holderOf_90 (by decide) (fun c_90 => ?_) (fun c_90 => ?_)
            · refine zw_iinc_4_p1 X dX5_holderOf_104 ?_
              refine zw_goto (tgt := 22) X dX5_holderOf_107 (by decide) ?_
              refine zw_fg_5 ?_
              exact ih22 _ _ _ (by simp [hst, c_13, c_37, c_54, c_77, c_90]) (by simp [hst, c_13, c_37, c_54, c_77, c_90]) (nI_1 n22)
            · refine zw_aload_0 X dX5_holderOf_93 ?_
              refine zw_getR X dX5_holderOf_94 fl_X5_31 ck_X5 hT.1 rfl ?_
              refine zw_iload_4 X dX5_holderOf_97 ?_
              refine zw_ialdN X dX5_holderOf_99 hT.2.2.2.2.2 hn22 (by decide) ?_
              refine zw_istore_3 X dX5_holderOf_100 ?_
              refine zw_iload_4 X dX5_holderOf_101 ?_
              refine zw_istore_2 X dX5_holderOf_103 ?_
              refine zw_iinc_4_p1 X dX5_holderOf_104 ?_
              refine zw_goto (tgt := 22) X dX5_holderOf_107 (by decide) ?_
              refine zw_fg_5 ?_
              exact ih22 _ _ _ (by simp [hst, c_13, c_37, c_54, c_77, c_90]) (by simp [hst, c_13, c_37, c_54, c_77, c_90]) (nI_1 n22)
    · subst hv22_2 hv22_3 hv22_4
      refine zw_iload_4 X dX5_holderOf_22 ?_
      refine zw_bipush (v := 6) X dX5_holderOf_24 bk_6 ?_
      refine zw_icmpge_t (tgt := 110) X dX5_holderOf_26 (by decide) (by decide) ?_
      refine zw_iload_2 X dX5_holderOf_110 ?_
      exact zw_iret X F dX5_holderOf_111 rfl (by simp [thold, ha22, c_13]) (rfl)
  · refine zw_bipush (v := -6) X dX5_holderOf_16 bk_m6 ?_
    exact zw_iret X F dX5_holderOf_18 rfl (by simp [thold, c_13]) (rfl)
set_option maxRecDepth 20000 in
set_option maxHeartbeats 4000000 in
theorem t_X5_isHolder {σ : St} {k : Nat} (hT : isT k) {t : Int32} : Ct MX5_isHolder [.ref k, .int t] σ (some (.int (bI (tisH σ k t)))) (σ) := by
  refine ct_of (ls0 := [some (.ref k), some (.int t)]) ok_MX5_isHolder rfl (Nat.le_of_ble_eq_true rfl) rfl ?_
  intro g X F
  refine zw_iload_1 X dX5_isHolder_0 ?_
  refine zw_cN_ii (host := "SilenceMinute") X dX5_isHolder_1 (by decide +kernel) ok_MX7_isTraveller st_MX7_isTraveller rm_X5_isHolder_X7_isTraveller (Nat.le_of_ble_eq_true rfl) t_X7_isTraveller ?_
  refine zw_ifeqB (tgt := 25) X dX5_isHolder_4 (by decide) (fun c_4 => ?_) (fun c_4 => ?_)
  · refine zw_iconst (v := 0) X dX5_isHolder_25 ik_0 ?_
    exact zw_zret X F dX5_isHolder_26 rfl (by simp [tisH, bI_0', bI_1', bI_0, bI_1, bI_inj, c_4]) (rfl)
  · refine zw_aload_0 X dX5_isHolder_7 ?_
    refine zw_aload_0 X dX5_isHolder_8 ?_
    refine zw_getR X dX5_isHolder_9 fl_X5_25 ck_X5 hT.1 rfl ?_
    refine zw_iload_1 X dX5_isHolder_12 ?_
    refine zw_iald X dX5_isHolder_13 hT.2.2.2.1 (isTr_in c_4) ?_
    refine zw_cV_ii X dX5_isHolder_14 lk_X5_69 ok_MX5_holderOf vi_MX5_holderOf rm_X5_isHolder_X5_holderOf hT.1 rfl (Nat.le_of_ble_eq_true rfl) (t_X5_holderOf hT) ?_
    refine zw_iload_1 X dX5_isHolder_17 ?_
    refine zw_icmpne (tgt := 25) X dX5_isHolder_18 (by decide) (fun c_18 => ?_) (fun c_18 => ?_)
    · refine zw_iconst (v := 0) X dX5_isHolder_25 ik_0 ?_
      exact zw_zret X F dX5_isHolder_26 rfl (by simp [tisH, bI_0', bI_1', bI_0, bI_1, bI_inj, c_4, c_18]) (rfl)
    · refine zw_iconst (v := 1) X dX5_isHolder_21 ik_1 ?_
      refine zw_goto (tgt := 26) X dX5_isHolder_22 (by decide) ?_
      exact zw_zret X F dX5_isHolder_26 rfl (by simp [tisH, bI_0', bI_1', bI_0, bI_1, bI_inj, c_4, c_18]) (rfl)
set_option maxRecDepth 20000 in
set_option maxHeartbeats 4000000 in
theorem t_X5_maySpeak {σ : St} {k : Nat} (hT : isT k) {t : Int32} : Ct MX5_maySpeak [.ref k, .int t] σ (some (.int (bI (tmay σ k t)))) (σ) := by
  refine ct_of (ls0 := [some (.ref k), some (.int t), none]) ok_MX5_maySpeak rfl (Nat.le_of_ble_eq_true rfl) rfl ?_
  intro g X F
  refine zw_iload_1 X dX5_maySpeak_0 ?_
  refine zw_cN_ii (host := "SilenceMinute") X dX5_maySpeak_1 (by decide +kernel) ok_MX7_isTraveller st_MX7_isTraveller rm_X5_maySpeak_X7_isTraveller (Nat.le_of_ble_eq_true rfl) t_X7_isTraveller ?_
  refine zw_ifeqB (tgt := 15) X dX5_maySpeak_4 (by decide) (fun c_4 => ?_) (fun c_4 => ?_)
  · refine zw_iconst (v := 0) X dX5_maySpeak_15 ik_0 ?_
    exact zw_zret X F dX5_maySpeak_16 rfl (by simp [tmay, bI_0', bI_1', bI_0, bI_1, bI_inj, c_4]) (rfl)
  · refine zw_aload_0 X dX5_maySpeak_7 ?_
    refine zw_iload_1 X dX5_maySpeak_8 ?_
    refine zw_cV_ii X dX5_maySpeak_9 lk_X5_72 ok_MX5_ridesNow vi_MX5_ridesNow rm_X5_maySpeak_X5_ridesNow hT.1 rfl (Nat.le_of_ble_eq_true rfl) (t_X5_ridesNow hT) ?_
    refine zw_ifneB (tgt := 17) X dX5_maySpeak_12 (by decide) (fun c_12 => ?_) (fun c_12 => ?_)
    · refine zw_aload_0 X dX5_maySpeak_17 ?_
      refine zw_aload_0 X dX5_maySpeak_18 ?_
      refine zw_getR X dX5_maySpeak_19 fl_X5_25 ck_X5 hT.1 rfl ?_
      refine zw_iload_1 X dX5_maySpeak_22 ?_
      refine zw_iald X dX5_maySpeak_23 hT.2.2.2.1 (isTr_in c_4) ?_
      refine zw_cV_ii X dX5_maySpeak_24 lk_X5_69 ok_MX5_holderOf vi_MX5_holderOf rm_X5_maySpeak_X5_holderOf hT.1 rfl (Nat.le_of_ble_eq_true rfl) (t_X5_holderOf hT) ?_
      refine zw_istore_2 X dX5_maySpeak_27 ?_
      refine zw_iload_2 X dX5_maySpeak_28 ?_
      refine zw_bipush (v := -6) X dX5_maySpeak_29 bk_m6 ?_
      refine zw_icmpeq (tgt := 39) X dX5_maySpeak_31 (by decide) (fun c_31 => ?_) (fun c_31 => ?_)
      · refine zw_iconst (v := 1) X dX5_maySpeak_39 ik_1 ?_
        refine zw_goto (tgt := 44) X dX5_maySpeak_40 (by decide) ?_
        exact zw_zret X F dX5_maySpeak_44 rfl (by simp [tmay, bI_0', bI_1', bI_0, bI_1, bI_inj, c_4, c_12, c_31]) (rfl)
      · refine zw_iload_2 X dX5_maySpeak_34 ?_
        refine zw_iload_1 X dX5_maySpeak_35 ?_
        refine zw_icmpne (tgt := 43) X dX5_maySpeak_36 (by decide) (fun c_36 => ?_) (fun c_36 => ?_)
        · refine zw_iconst (v := 0) X dX5_maySpeak_43 ik_0 ?_
          exact zw_zret X F dX5_maySpeak_44 rfl (by simp [tmay, bI_0', bI_1', bI_0, bI_1, bI_inj, c_4, c_12, c_31, c_36]) (rfl)
        · refine zw_iconst (v := 1) X dX5_maySpeak_39 ik_1 ?_
          refine zw_goto (tgt := 44) X dX5_maySpeak_40 (by decide) ?_
          exact zw_zret X F dX5_maySpeak_44 rfl (by simp [tmay, bI_0', bI_1', bI_0, bI_1, bI_inj, c_4, c_12, c_31, c_36]) (rfl)
    · refine zw_iconst (v := 0) X dX5_maySpeak_15 ik_0 ?_
      exact zw_zret X F dX5_maySpeak_16 rfl (by simp [tmay, bI_0', bI_1', bI_0, bI_1, bI_inj, c_4, c_12]) (rfl)
set_option maxRecDepth 20000 in
set_option maxHeartbeats 4000000 in
theorem t_X5_payGuard {σ : St} {k : Nat} (hT : isT k) {t v : Int32} : Ct MX5_payGuard [.ref k, .int t, .int v] σ (none) (tpay σ k t v) := by
  refine ct_of (ls0 := [some (.ref k), some (.int t), some (.int v)]) ok_MX5_payGuard rfl (Nat.le_of_ble_eq_true rfl) rfl ?_
  intro g X F
  refine zw_iload_1 X dX5_payGuard_0 ?_
  refine zw_cN_ii (host := "SilenceMinute") X dX5_payGuard_1 (by decide +kernel) ok_MX7_isTraveller st_MX7_isTraveller rm_X5_payGuard_X7_isTraveller (Nat.le_of_ble_eq_true rfl) t_X7_isTraveller ?_
  refine zw_ifeqB (tgt := 27) X dX5_payGuard_4 (by decide) (fun c_4 => ?_) (fun c_4 => ?_)
  · exact zw_vret X F dX5_payGuard_27 rfl (by simp [tpay, tpay1, c_4])
  · refine zw_aload_0 X dX5_payGuard_7 ?_
    refine zw_getR X dX5_payGuard_8 fl_X5_28 ck_X5 hT.1 rfl ?_
    refine zw_iload_1 X dX5_payGuard_11 ?_
    refine zw_dup2_ir X dX5_payGuard_12 ?_
    refine zw_iald X dX5_payGuard_13 hT.2.2.2.2.1 (isTr_in c_4) ?_
    refine zw_iload_2 X dX5_payGuard_14 ?_
    refine zw_isub X dX5_payGuard_15 ?_
    refine zw_iast X dX5_payGuard_16 hT.2.2.2.2.1 (isTr_in c_4) ?_
    refine zw_aload_0 X dX5_payGuard_17 ?_
    refine zw_dup_r X dX5_payGuard_18 ?_
    refine zw_getI X dX5_payGuard_19 fl_X5_37 ck_X5 hT.1 rfl ?_
    refine zw_iload_2 X dX5_payGuard_22 ?_
    refine zw_iadd X dX5_payGuard_23 ?_
    refine zw_put X dX5_payGuard_24 fl_X5_37 ck_X5 ft_5_2 hT.1 rfl ?_
    exact zw_vret X F dX5_payGuard_27 rfl (by simp [tpay, tpay1, c_4])
set_option maxRecDepth 20000 in
set_option maxHeartbeats 4000000 in
theorem t_X5_setBid {σ : St} {k : Nat} (hT : isT k) {t b : Int32} : Ct MX5_setBid [.ref k, .int t, .int b] σ (none) (tsetB σ k t b) := by
  refine ct_of (ls0 := [some (.ref k), some (.int t), some (.int b)]) ok_MX5_setBid rfl (Nat.le_of_ble_eq_true rfl) rfl ?_
  intro g X F
  refine zw_iload_1 X dX5_setBid_0 ?_
  refine zw_cN_ii (host := "SilenceMinute") X dX5_setBid_1 (by decide +kernel) ok_MX7_isTraveller st_MX7_isTraveller rm_X5_setBid_X7_isTraveller (Nat.le_of_ble_eq_true rfl) t_X7_isTraveller ?_
  refine zw_ifeqB (tgt := 14) X dX5_setBid_4 (by decide) (fun c_4 => ?_) (fun c_4 => ?_)
  · exact zw_vret X F dX5_setBid_14 rfl (by simp [tsetB, c_4])
  · refine zw_aload_0 X dX5_setBid_7 ?_
    refine zw_getR X dX5_setBid_8 fl_X5_31 ck_X5 hT.1 rfl ?_
    refine zw_iload_1 X dX5_setBid_11 ?_
    refine zw_iload_2 X dX5_setBid_12 ?_
    refine zw_iast X dX5_setBid_13 hT.2.2.2.2.2 (isTr_in c_4) ?_
    exact zw_vret X F dX5_setBid_14 rfl (by simp [tsetB, c_4])
set_option maxRecDepth 20000 in
set_option maxHeartbeats 4000000 in
theorem t_X5_setRide {σ : St} {k : Nat} (hT : isT k) {t a b : Int32} : Ct MX5_setRide [.ref k, .int t, .int a, .int b] σ (none) (tsetR σ k t a b) := by
  refine ct_of (ls0 := [some (.ref k), some (.int t), some (.int a), some (.int b)]) ok_MX5_setRide rfl (Nat.le_of_ble_eq_true rfl) rfl ?_
  intro g X F
  refine zw_iload_1 X dX5_setRide_0 ?_
  refine zw_cN_ii (host := "SilenceMinute") X dX5_setRide_1 (by decide +kernel) ok_MX7_isTraveller st_MX7_isTraveller rm_X5_setRide_X7_isTraveller (Nat.le_of_ble_eq_true rfl) t_X7_isTraveller ?_
  refine zw_ifeqB (tgt := 21) X dX5_setRide_4 (by decide) (fun c_4 => ?_) (fun c_4 => ?_)
  · exact zw_vret X F dX5_setRide_21 rfl (by simp [tsetR, c_4])
  · refine zw_aload_0 X dX5_setRide_7 ?_
    refine zw_getR X dX5_setRide_8 fl_X5_18 ck_X5 hT.1 rfl ?_
    refine zw_iload_1 X dX5_setRide_11 ?_
    refine zw_iload_2 X dX5_setRide_12 ?_
    refine zw_iast X dX5_setRide_13 hT.2.1 (isTr_in c_4) ?_
    refine zw_aload_0 X dX5_setRide_14 ?_
    refine zw_getR X dX5_setRide_15 fl_X5_22 ck_X5 hT.1 rfl ?_
    refine zw_iload_1 X dX5_setRide_18 ?_
    refine zw_iload_3 X dX5_setRide_19 ?_
    refine zw_iast X dX5_setRide_20 hT.2.2.1 (isTr_in c_4) ?_
    exact zw_vret X F dX5_setRide_21 rfl (by simp [tsetR, c_4])
set_option maxRecDepth 20000 in
set_option maxHeartbeats 4000000 in
theorem t_X5_passMinute {σ : St} {k : Nat} (hT : isT k) : Ct MX5_passMinute [.ref k] σ (some (.int (bI (decide (σ k 1 < σ k 0))))) (tpas σ k) := by
  refine ct_of (ls0 := [some (.ref k), none, none]) ok_MX5_passMinute rfl (Nat.le_of_ble_eq_true rfl) rfl ?_
  intro g X F
  refine zw_aload_0 X dX5_passMinute_0 ?_
  refine zw_getI X dX5_passMinute_1 fl_X5_34 ck_X5 hT.1 rfl ?_
  refine zw_aload_0 X dX5_passMinute_4 ?_
  refine zw_getI X dX5_passMinute_5 fl_X5_9 ck_X5 hT.1 rfl ?_
  refine zw_icmplt (tgt := 13) X dX5_passMinute_8 (by decide) (fun c_8 => ?_) (fun c_8 => ?_)
  · refine zw_iconst (v := 0) X dX5_passMinute_13 ik_0 ?_
    refine zw_istore_1 X dX5_passMinute_14 ?_
    refine zw_fg_2 ?_
    refine zloop (α := St) (S := fun n a => ∀ (s15 : St) (v15_1 : Int32), s15 = a → v15_1 = nI n → ZW g 15 [some (.ref k), some (.int v15_1), none] [] s15) (N := 3) (f := (tpst k)) (a0 := σ) (fun n15 a15 hn15 ha15 ih15 s15 v15_1 hs15 hv15_1 => ?_) (fun a15 ha15 s15 v15_1 hs15 hv15_1 => ?_) _ _ rfl rfl
    · subst hs15 hv15_1
      refine zw_iload_1 X dX5_passMinute_15 ?_
      refine zw_iconst (v := 3) X dX5_passMinute_16 ik_3 ?_
      refine zw_icmpge_f (tgt := 50) X dX5_passMinute_17 (by decide) (nI_lt hn15 (by decide)) ?_
      refine zw_aload_0 X dX5_passMinute_20 ?_
      refine zw_iload_1 X dX5_passMinute_21 ?_
      refine zw_cV_ii X dX5_passMinute_22 lk_X5_69 ok_MX5_holderOf vi_MX5_holderOf rm_X5_passMinute_X5_holderOf hT.1 rfl (Nat.le_of_ble_eq_true rfl) (t_X5_holderOf hT) ?_
      refine zw_istore_2 X dX5_passMinute_25 ?_
      refine zw_iload_2 X dX5_passMinute_26 ?_
      refine zw_cN_ii (host := "SilenceMinute") X dX5_passMinute_27 (by decide +kernel) ok_MX7_isTraveller st_MX7_isTraveller rm_X5_passMinute_X7_isTraveller (Nat.le_of_ble_eq_true rfl) t_X7_isTraveller ?_
      refine zw_ifeqB (tgt := 44) X dX5_passMinute_30 (by decide) (fun c_30 => ?_) (fun c_30 => ?_)
      · refine zw_iinc_1_p1 X dX5_passMinute_44 ?_
        refine zw_goto (tgt := 15) X dX5_passMinute_47 (by decide) ?_
        refine zw_fg_2 ?_
        exact ih15 _ _ (by simp [tpst, c_8, c_30]) (nI_1 n15)
      · refine zw_aload_0 X dX5_passMinute_33 ?_
        refine zw_iload_2 X dX5_passMinute_34 ?_
        refine zw_aload_0 X dX5_passMinute_35 ?_
        refine zw_getR X dX5_passMinute_36 fl_X5_31 ck_X5 hT.1 rfl ?_
        refine zw_iload_2 X dX5_passMinute_39 ?_
        refine zw_iald X dX5_passMinute_40 hT.2.2.2.2.2 (isTr_in c_30) ?_
        refine zw_cV_iiv X dX5_passMinute_41 lk_X5_75 ok_MX5_payGuard vi_MX5_payGuard rm_X5_passMinute_X5_payGuard hT.1 rfl (Nat.le_of_ble_eq_true rfl) (t_X5_payGuard hT) ?_
        refine zw_iinc_1_p1 X dX5_passMinute_44 ?_
        refine zw_goto (tgt := 15) X dX5_passMinute_47 (by decide) ?_
        refine zw_fg_2 ?_
        exact ih15 _ _ (by simp [tpst, c_8, c_30]) (nI_1 n15)
    · subst hs15 hv15_1
      refine zw_iload_1 X dX5_passMinute_15 ?_
      refine zw_iconst (v := 3) X dX5_passMinute_16 ik_3 ?_
      refine zw_icmpge_t (tgt := 50) X dX5_passMinute_17 (by decide) (by decide) ?_
      refine zw_aload_0 X dX5_passMinute_50 ?_
      refine zw_dup_r X dX5_passMinute_51 ?_
      refine zw_getI X dX5_passMinute_52 fl_X5_34 ck_X5 hT.1 rfl ?_
      refine zw_iconst (v := 1) X dX5_passMinute_55 ik_1 ?_
      refine zw_iadd X dX5_passMinute_56 ?_
      refine zw_put X dX5_passMinute_57 fl_X5_34 ck_X5 ft_5_1 hT.1 rfl ?_
      refine zw_iconst (v := 1) X dX5_passMinute_60 ik_1 ?_
      exact zw_zret X F dX5_passMinute_61 rfl (by simp [bI_0', bI_1', bI_0, bI_1, bI_inj, c_8]) (by simp [tpas, tpas3, ha15, c_8])
  · refine zw_iconst (v := 0) X dX5_passMinute_11 ik_0 ?_
    exact zw_zret X F dX5_passMinute_12 rfl (by simp [bI_0', bI_1', bI_0, bI_1, bI_inj, c_8]) (by simp [tpas, c_8])
set_option maxRecDepth 20000 in
set_option maxHeartbeats 4000000 in
theorem t_X5_takeCough {σ : St} {k : Nat} (hT : isT k) {t : Int32} : Ct MX5_takeCough [.ref k, .int t] σ (none) (tcou σ k t) := by
  refine ct_of (ls0 := [some (.ref k), some (.int t), none, none]) ok_MX5_takeCough rfl (Nat.le_of_ble_eq_true rfl) rfl ?_
  intro g X F
  refine zw_iload_1 X dX5_takeCough_0 ?_
  refine zw_cN_ii (host := "SilenceMinute") X dX5_takeCough_1 (by decide +kernel) ok_MX7_isTraveller st_MX7_isTraveller rm_X5_takeCough_X7_isTraveller (Nat.le_of_ble_eq_true rfl) t_X7_isTraveller ?_
  refine zw_ifeqB (tgt := 15) X dX5_takeCough_4 (by decide) (fun c_4 => ?_) (fun c_4 => ?_)
  · exact zw_vret X F dX5_takeCough_15 rfl (by simp [tcou, tcou1, tcouv, c_4])
  · refine zw_aload_0 X dX5_takeCough_7 ?_
    refine zw_iload_1 X dX5_takeCough_8 ?_
    refine zw_cV_ii X dX5_takeCough_9 lk_X5_72 ok_MX5_ridesNow vi_MX5_ridesNow rm_X5_takeCough_X5_ridesNow hT.1 rfl (Nat.le_of_ble_eq_true rfl) (t_X5_ridesNow hT) ?_
    refine zw_ifneB (tgt := 16) X dX5_takeCough_12 (by decide) (fun c_12 => ?_) (fun c_12 => ?_)
    · refine zw_aload_0 X dX5_takeCough_16 ?_
      refine zw_aload_0 X dX5_takeCough_17 ?_
      refine zw_getR X dX5_takeCough_18 fl_X5_25 ck_X5 hT.1 rfl ?_
      refine zw_iload_1 X dX5_takeCough_21 ?_
      refine zw_iald X dX5_takeCough_22 hT.2.2.2.1 (isTr_in c_4) ?_
      refine zw_cV_ii X dX5_takeCough_23 lk_X5_69 ok_MX5_holderOf vi_MX5_holderOf rm_X5_takeCough_X5_holderOf hT.1 rfl (Nat.le_of_ble_eq_true rfl) (t_X5_holderOf hT) ?_
      refine zw_istore_2 X dX5_takeCough_26 ?_
      refine zw_iload_2 X dX5_takeCough_27 ?_
      refine zw_cN_ii (host := "SilenceMinute") X dX5_takeCough_28 (by decide +kernel) ok_MX7_isTraveller st_MX7_isTraveller rm_X5_takeCough_X7_isTraveller (Nat.le_of_ble_eq_true rfl) t_X7_isTraveller ?_
      refine zw_ifeqB (tgt := 69) X dX5_takeCough_31 (by decide) (fun c_31 => ?_) (fun c_31 => ?_)
      · exact zw_vret X F dX5_takeCough_69 rfl (by simp [tcou, tcou1, tcouv, c_4, c_12, c_31])
      · refine zw_iload_2 X dX5_takeCough_34 ?_
        refine zw_iload_1 X dX5_takeCough_35 ?_
        refine zw_icmpeq (tgt := 69) X dX5_takeCough_36 (by decide) (fun c_36 => ?_) (fun c_36 => ?_)
        · exact zw_vret X F dX5_takeCough_69 rfl (by simp [tcou, tcou1, tcouv, c_4, c_12, c_31, c_36])
        · refine zw_aload_0 X dX5_takeCough_39 ?_
          refine zw_getI X dX5_takeCough_40 fl_X5_15 ck_X5 hT.1 rfl ?_
          refine zw_aload_0 X dX5_takeCough_43 ?_
          refine zw_getR X dX5_takeCough_44 fl_X5_28 ck_X5 hT.1 rfl ?_
          refine zw_iload_2 X dX5_takeCough_47 ?_
          refine zw_iald X dX5_takeCough_48 hT.2.2.2.2.1 (isTr_in c_31) ?_
          refine zw_min X dX5_takeCough_49 lm_X5_79 ls_min li_math lc_min ⟨Nat.le_of_ble_eq_true rfl, Nat.le_of_ble_eq_true rfl⟩ (Nat.le_of_ble_eq_true rfl) ?_
          refine zw_istore_3 X dX5_takeCough_52 ?_
          refine zw_aload_0 X dX5_takeCough_53 ?_
          refine zw_iload_2 X dX5_takeCough_54 ?_
          refine zw_iload_3 X dX5_takeCough_55 ?_
          refine zw_cV_iiv X dX5_takeCough_56 lk_X5_75 ok_MX5_payGuard vi_MX5_payGuard rm_X5_takeCough_X5_payGuard hT.1 rfl (Nat.le_of_ble_eq_true rfl) (t_X5_payGuard hT) ?_
          refine zw_aload_0 X dX5_takeCough_59 ?_
          refine zw_dup_r X dX5_takeCough_60 ?_
          refine zw_getI X dX5_takeCough_61 fl_X5_40 ck_X5 hT.1 rfl ?_
          refine zw_iload_3 X dX5_takeCough_64 ?_
          refine zw_iadd X dX5_takeCough_65 ?_
          refine zw_put X dX5_takeCough_66 fl_X5_40 ck_X5 ft_5_4 hT.1 rfl ?_
          exact zw_vret X F dX5_takeCough_69 rfl (by simp [tcou, tcou1, tcouv, c_4, c_12, c_31, c_36])
    · exact zw_vret X F dX5_takeCough_15 rfl (by simp [tcou, tcou1, tcouv, c_4, c_12])
set_option maxRecDepth 20000 in
set_option maxHeartbeats 4000000 in
theorem t_X5_doDrawn {σ : St} {k : Nat} (hT : isT k) {x : Int32} : Ct MX5_doDrawn [.ref k, .int x] σ (none) (tdraw σ k x) := by
  refine ct_of (ls0 := [some (.ref k), some (.int x), none, none]) ok_MX5_doDrawn rfl (Nat.le_of_ble_eq_true rfl) rfl ?_
  intro g X F
  refine zw_iload_1 X dX5_doDrawn_0 ?_
  refine zw_bipush (v := 8) X dX5_doDrawn_1 bk_8 ?_
  refine zw_irem X dX5_doDrawn_3 (by decide) ?_
  refine zw_istore_2 X dX5_doDrawn_4 ?_
  refine zw_iload_1 X dX5_doDrawn_5 ?_
  refine zw_bipush (v := 8) X dX5_doDrawn_6 bk_8 ?_
  refine zw_idiv X dX5_doDrawn_8 (by decide) ?_
  refine zw_bipush (v := 6) X dX5_doDrawn_9 bk_6 ?_
  refine zw_irem X dX5_doDrawn_11 (by decide) ?_
  refine zw_istore_3 X dX5_doDrawn_12 ?_
  refine zw_iload_2 X dX5_doDrawn_13 ?_
  refine zw_iconst (v := 1) X dX5_doDrawn_14 ik_1 ?_
  refine zw_icmpgt (tgt := 26) X dX5_doDrawn_15 (by decide) (fun c_15 => ?_) (fun c_15 => ?_)
  · refine zw_iload_2 X dX5_doDrawn_26 ?_
    refine zw_iconst (v := 4) X dX5_doDrawn_27 ik_4 ?_
    refine zw_icmpgt (tgt := 46) X dX5_doDrawn_28 (by decide) (fun c_28 => ?_) (fun c_28 => ?_)
    · refine zw_aload_0 X dX5_doDrawn_46 ?_
      refine zw_iload_3 X dX5_doDrawn_47 ?_
      refine zw_cV_iv X dX5_doDrawn_48 lk_X5_91 ok_MX5_takeCough vi_MX5_takeCough rm_X5_doDrawn_X5_takeCough hT.1 rfl (Nat.le_of_ble_eq_true rfl) (t_X5_takeCough hT) ?_
      exact zw_vret X F dX5_doDrawn_51 rfl (by simp [tdraw, rem, c_15, c_28])
    · refine zw_aload_0 X dX5_doDrawn_31 ?_
      refine zw_iload_3 X dX5_doDrawn_32 ?_
      refine zw_iload_1 X dX5_doDrawn_33 ?_
      refine zw_bipush (v := 64) X dX5_doDrawn_34 bk_64 ?_
      refine zw_idiv X dX5_doDrawn_36 (by decide) ?_
      refine zw_bipush (v := 20) X dX5_doDrawn_37 bk_20 ?_
      refine zw_irem X dX5_doDrawn_39 (by decide) ?_
      refine zw_cV_iiv X dX5_doDrawn_40 lk_X5_88 ok_MX5_setBid vi_MX5_setBid rm_X5_doDrawn_X5_setBid hT.1 rfl (Nat.le_of_ble_eq_true rfl) (t_X5_setBid hT) ?_
      refine zw_goto (tgt := 51) X dX5_doDrawn_43 (by decide) ?_
      exact zw_vret X F dX5_doDrawn_51 rfl (by simp [tdraw, rem, c_15, c_28])
  · refine zw_aload_0 X dX5_doDrawn_18 ?_
    refine zw_cV_ni X dX5_doDrawn_19 lk_X5_84 ok_MX5_passMinute vi_MX5_passMinute rm_X5_doDrawn_X5_passMinute hT.1 rfl (Nat.le_of_ble_eq_true rfl) (t_X5_passMinute hT) ?_
    refine zw_pop_i X dX5_doDrawn_22 ?_
    refine zw_goto (tgt := 51) X dX5_doDrawn_23 (by decide) ?_
    exact zw_vret X F dX5_doDrawn_51 rfl (by simp [tdraw, rem, c_15])
set_option maxRecDepth 20000 in
set_option maxHeartbeats 4000000 in
theorem t_X5_knownAfter {σ : St} {k : Nat} (hT : isT k) {m x : Int32} : Ct MX5_knownAfter [.ref k, .int m, .int x] σ (some (.int (tkno σ k m x))) (σ) := by
  refine ct_of (ls0 := [some (.ref k), some (.int m), some (.int x), none, none, none]) ok_MX5_knownAfter rfl (Nat.le_of_ble_eq_true rfl) rfl ?_
  intro g X F
  refine zw_aload_0 X dX5_knownAfter_0 ?_
  refine zw_iload_1 X dX5_knownAfter_1 ?_
  refine zw_cV_ii X dX5_knownAfter_2 lk_X5_46 ok_MX5_isTunnel vi_MX5_isTunnel rm_X5_knownAfter_X5_isTunnel hT.1 rfl (Nat.le_of_ble_eq_true rfl) (t_X5_isTunnel hT) ?_
  refine zw_ifneB (tgt := 10) X dX5_knownAfter_5 (by decide) (fun c_5 => ?_) (fun c_5 => ?_)
  · refine zw_iload_2 X dX5_knownAfter_10 ?_
    refine zw_istore_3 X dX5_knownAfter_11 ?_
    refine zw_iconst (v := 0) X dX5_knownAfter_12 ik_0 ?_
    refine zw_istore_4 X dX5_knownAfter_13 ?_
    refine zw_fg_5 ?_
    refine zloop (α := Int32) (S := fun n a => ∀ (v15_3 : Int32) (v15_4 : Int32), v15_3 = a → v15_4 = nI n → ZW g 15 [some (.ref k), some (.int m), some (.int x), some (.int v15_3), some (.int v15_4), none] [] σ) (N := 3) (f := (tkst σ k m x)) (a0 := x) (fun n15 a15 hn15 ha15 ih15 v15_3 v15_4 hv15_3 hv15_4 => ?_) (fun a15 ha15 v15_3 v15_4 hv15_3 hv15_4 => ?_) _ _ rfl rfl
    · subst hv15_3 hv15_4
      refine zw_iload_4 X dX5_knownAfter_15 ?_
      refine zw_iconst (v := 3) X dX5_knownAfter_17 ik_3 ?_
      refine zw_icmpge_f (tgt := 48) X dX5_knownAfter_18 (by decide) (nI_lt hn15 (by decide)) ?_
      refine zw_aload_0 X dX5_knownAfter_21 ?_
      refine zw_iload_4 X dX5_knownAfter_22 ?_
      refine zw_iload_1 X dX5_knownAfter_24 ?_
      refine zw_cV_iii X dX5_knownAfter_25 lk_X5_61 ok_MX5_ridersOf vi_MX5_ridersOf rm_X5_knownAfter_X5_ridersOf hT.1 rfl (Nat.le_of_ble_eq_true rfl) (t_X5_ridersOf hT) ?_
      refine zw_istore_5 X dX5_knownAfter_28 ?_
      refine zw_iload_5 X dX5_knownAfter_30 ?_
      refine zw_iload_2 X dX5_knownAfter_32 ?_
      refine zw_iand X dX5_knownAfter_33 ?_
      refine zw_ifeq (tgt := 42) X dX5_knownAfter_34 (by decide) (fun c_34 => ?_) (fun c_34 => ?_)
      · refine zw_iinc_4_p1 X dX5_knownAfter_42 ?_
        refine zw_goto (tgt := 15) X dX5_knownAfter_45 (by decide) ?_
        refine zw_fg_5 ?_
        exact ih15 _ _ (by simp [tkst, c_5, c_34]) (nI_1 n15)
      · refine zw_iload_3 X dX5_knownAfter_37 ?_
        refine zw_iload_5 X dX5_knownAfter_38 ?_
        refine zw_ior X dX5_knownAfter_40 ?_
        refine zw_istore_3 X dX5_knownAfter_41 ?_
        refine zw_iinc_4_p1 X dX5_knownAfter_42 ?_
        refine zw_goto (tgt := 15) X dX5_knownAfter_45 (by decide) ?_
        refine zw_fg_5 ?_
        exact ih15 _ _ (by simp [tkst, c_5, c_34]) (nI_1 n15)
    · subst hv15_3 hv15_4
      refine zw_iload_4 X dX5_knownAfter_15 ?_
      refine zw_iconst (v := 3) X dX5_knownAfter_17 ik_3 ?_
      refine zw_icmpge_t (tgt := 48) X dX5_knownAfter_18 (by decide) (by decide) ?_
      refine zw_iload_3 X dX5_knownAfter_48 ?_
      exact zw_iret X F dX5_knownAfter_49 rfl (by simp [tkno, ha15, c_5]) (rfl)
  · refine zw_iload_2 X dX5_knownAfter_8 ?_
    exact zw_iret X F dX5_knownAfter_9 rfl (by simp [tkno, c_5]) (rfl)
set_option maxRecDepth 20000 in
set_option maxHeartbeats 4000000 in
theorem t_X5_copyFrom {σ : St} {k j : Nat} (hT : isT k) (hJ : isT j) : Ct MX5_copyFrom [.ref k, .ref j] σ (none) (tcopy σ k j) := by
  refine ct_of (ls0 := [some (.ref k), some (.ref j), none]) ok_MX5_copyFrom rfl (Nat.le_of_ble_eq_true rfl) rfl ?_
  intro g X F
  refine zw_aload_0 X dX5_copyFrom_0 ?_
  refine zw_aload_1 X dX5_copyFrom_1 ?_
  refine zw_getI X dX5_copyFrom_2 fl_X5_9 ck_X5 hJ.1 rfl ?_
  refine zw_put X dX5_copyFrom_5 fl_X5_9 ck_X5 ft_5_0 hT.1 rfl ?_
  refine zw_aload_0 X dX5_copyFrom_8 ?_
  refine zw_aload_1 X dX5_copyFrom_9 ?_
  refine zw_getI X dX5_copyFrom_10 fl_X5_34 ck_X5 hJ.1 rfl ?_
  refine zw_put X dX5_copyFrom_13 fl_X5_34 ck_X5 ft_5_1 hT.1 rfl ?_
  refine zw_aload_0 X dX5_copyFrom_16 ?_
  refine zw_aload_1 X dX5_copyFrom_17 ?_
  refine zw_getI X dX5_copyFrom_18 fl_X5_37 ck_X5 hJ.1 rfl ?_
  refine zw_put X dX5_copyFrom_21 fl_X5_37 ck_X5 ft_5_2 hT.1 rfl ?_
  refine zw_aload_0 X dX5_copyFrom_24 ?_
  refine zw_aload_1 X dX5_copyFrom_25 ?_
  refine zw_getI X dX5_copyFrom_26 fl_X5_15 ck_X5 hJ.1 rfl ?_
  refine zw_put X dX5_copyFrom_29 fl_X5_15 ck_X5 ft_5_3 hT.1 rfl ?_
  refine zw_aload_0 X dX5_copyFrom_32 ?_
  refine zw_iconst (v := 0) X dX5_copyFrom_33 ik_0 ?_
  refine zw_put X dX5_copyFrom_34 fl_X5_40 ck_X5 ft_5_4 hT.1 rfl ?_
  refine zw_aload_0 X dX5_copyFrom_37 ?_
  refine zw_aload_1 X dX5_copyFrom_38 ?_
  refine zw_getI X dX5_copyFrom_39 fl_X5_43 ck_X5 hJ.1 rfl ?_
  refine zw_put X dX5_copyFrom_42 fl_X5_43 ck_X5 ft_5_5 hT.1 rfl ?_
  refine zw_iconst (v := 0) X dX5_copyFrom_45 ik_0 ?_
  refine zw_istore_2 X dX5_copyFrom_46 ?_
  refine zloop (α := St) (S := fun n a => ∀ (s47 : St) (v47_2 : Int32), s47 = a → v47_2 = nI n → ZW g 47 [some (.ref k), some (.ref j), some (.int v47_2)] [] s47) (N := 6) (f := (tcpst k j)) (a0 := (tcp5 σ k j)) (fun n47 a47 hn47 ha47 ih47 s47 v47_2 hs47 hv47_2 => ?_) (fun a47 ha47 s47 v47_2 hs47 hv47_2 => ?_) _ _ rfl rfl
  · subst hs47 hv47_2
    refine zw_iload_2 X dX5_copyFrom_47 ?_
    refine zw_bipush (v := 6) X dX5_copyFrom_48 bk_6 ?_
    refine zw_icmpge_f (tgt := 119) X dX5_copyFrom_50 (by decide) (nI_lt hn47 (by decide)) ?_
    refine zw_aload_0 X dX5_copyFrom_53 ?_
    refine zw_getR X dX5_copyFrom_54 fl_X5_18 ck_X5 hT.1 rfl ?_
    refine zw_iload_2 X dX5_copyFrom_57 ?_
    refine zw_aload_1 X dX5_copyFrom_58 ?_
    refine zw_getR X dX5_copyFrom_59 fl_X5_18 ck_X5 hJ.1 rfl ?_
    refine zw_iload_2 X dX5_copyFrom_62 ?_
    refine zw_ialdN X dX5_copyFrom_63 hJ.2.1 hn47 (by decide) ?_
    refine zw_iastN X dX5_copyFrom_64 hT.2.1 hn47 (by decide) ?_
    refine zw_aload_0 X dX5_copyFrom_65 ?_
    refine zw_getR X dX5_copyFrom_66 fl_X5_22 ck_X5 hT.1 rfl ?_
    refine zw_iload_2 X dX5_copyFrom_69 ?_
    refine zw_aload_1 X dX5_copyFrom_70 ?_
    refine zw_getR X dX5_copyFrom_71 fl_X5_22 ck_X5 hJ.1 rfl ?_
    refine zw_iload_2 X dX5_copyFrom_74 ?_
    refine zw_ialdN X dX5_copyFrom_75 hJ.2.2.1 hn47 (by decide) ?_
    refine zw_iastN X dX5_copyFrom_76 hT.2.2.1 hn47 (by decide) ?_
    refine zw_aload_0 X dX5_copyFrom_77 ?_
    refine zw_getR X dX5_copyFrom_78 fl_X5_25 ck_X5 hT.1 rfl ?_
    refine zw_iload_2 X dX5_copyFrom_81 ?_
    refine zw_aload_1 X dX5_copyFrom_82 ?_
    refine zw_getR X dX5_copyFrom_83 fl_X5_25 ck_X5 hJ.1 rfl ?_
    refine zw_iload_2 X dX5_copyFrom_86 ?_
    refine zw_ialdN X dX5_copyFrom_87 hJ.2.2.2.1 hn47 (by decide) ?_
    refine zw_iastN X dX5_copyFrom_88 hT.2.2.2.1 hn47 (by decide) ?_
    refine zw_aload_0 X dX5_copyFrom_89 ?_
    refine zw_getR X dX5_copyFrom_90 fl_X5_28 ck_X5 hT.1 rfl ?_
    refine zw_iload_2 X dX5_copyFrom_93 ?_
    refine zw_aload_1 X dX5_copyFrom_94 ?_
    refine zw_getR X dX5_copyFrom_95 fl_X5_28 ck_X5 hJ.1 rfl ?_
    refine zw_iload_2 X dX5_copyFrom_98 ?_
    refine zw_ialdN X dX5_copyFrom_99 hJ.2.2.2.2.1 hn47 (by decide) ?_
    refine zw_iastN X dX5_copyFrom_100 hT.2.2.2.2.1 hn47 (by decide) ?_
    refine zw_aload_0 X dX5_copyFrom_101 ?_
    refine zw_getR X dX5_copyFrom_102 fl_X5_31 ck_X5 hT.1 rfl ?_
    refine zw_iload_2 X dX5_copyFrom_105 ?_
    refine zw_aload_1 X dX5_copyFrom_106 ?_
    refine zw_getR X dX5_copyFrom_107 fl_X5_31 ck_X5 hJ.1 rfl ?_
    refine zw_iload_2 X dX5_copyFrom_110 ?_
    refine zw_ialdN X dX5_copyFrom_111 hJ.2.2.2.2.2 hn47 (by decide) ?_
    refine zw_iastN X dX5_copyFrom_112 hT.2.2.2.2.2 hn47 (by decide) ?_
    refine zw_iinc_2_p1 X dX5_copyFrom_113 ?_
    refine zw_goto (tgt := 47) X dX5_copyFrom_116 (by decide) ?_
    exact ih47 _ _ (by simp [tcpst, cpA]) (nI_1 n47)
  · subst hs47 hv47_2
    refine zw_iload_2 X dX5_copyFrom_47 ?_
    refine zw_bipush (v := 6) X dX5_copyFrom_48 bk_6 ?_
    refine zw_icmpge_t (tgt := 119) X dX5_copyFrom_50 (by decide) (by decide) ?_
    exact zw_vret X F dX5_copyFrom_119 rfl (ha47)
end
section
/-! the pad, the sale, the seats, the sights, the verdict -/
def fstB (P : Nat → Bool) : Nat → Nat
  | 0 => 0
  | n + 1 => if fstB P n < n then fstB P n else if P n then n else n + 1
theorem fstB_le (P : Nat → Bool) : ∀ n, fstB P n ≤ n
  | 0 => Nat.le_refl 0
  | n + 1 => by
    have := fstB_le P n
    simp only [fstB]
    split
    · omega
    · split <;> omega
theorem fstB_no {P : Nat → Bool} : ∀ {n : Nat}, (∀ i, i < n → P i = false) → fstB P n = n
  | 0, _ => rfl
  | n + 1, h => by
    have h1 := fstB_no (P := P) (n := n) (fun i hi => h i (by omega))
    simp only [fstB, h1, Nat.lt_irrefl, if_false, h n (by omega)]
    simp
theorem fstB_at {P : Nat → Bool} {j : Nat} (hp : P j = true) (hb : ∀ i, i < j → P i = false) : ∀ {n : Nat}, j < n → fstB P n = j
  | 0, h => absurd h (Nat.not_lt_zero j)
  | n + 1, h => by
    rcases Nat.lt_or_ge j n with q | q
    · have h1 := fstB_at hp hb q
      simp only [fstB, h1, q, if_true]
    · have e : j = n := by omega
      subst e
      have h1 := fstB_no hb
      simp only [fstB, h1, Nat.lt_irrefl, if_false, hp, if_true]
def pSign (σ : St) (x : Int32) : Int32 := if !decide (x < 0) && (decide (x < σ 13 1) && decide (x < 60)) then σ 14 (ix x) else 0
def pDig (σ : St) (x : Int32) : Bool := wth (pSign σ x) 48 57
def pFol (σ : St) (w x : Int32) : Int32 := if w = 0 then (if wth (pSign σ x) 65 70 then 1 else if pSign σ x = 46 then 0 else -6) else if pDig σ x then (if w = 1 then 2 else 0) else if decide (w = 1) && (decide (pSign σ x = 99) || (decide (pSign σ x = 115) || decide (pSign σ x = 104))) then 0 else -6
def pWh (σ : St) (n : Nat) : Int32 := itr (fun n w => pFol σ w (nI n)) n 0
def pFst (σ : St) : Nat := fstB (fun n => decide (pWh σ (n + 1) = -6)) (clN (σ 13 1))
def pFault (σ : St) : Int32 := if pFst σ < clN (σ 13 1) then nI (pFst σ) else if pWh σ (clN (σ 13 1)) = 0 then -6 else σ 13 1
def pLen (σ : St) (x : Int32) : Int32 := if pSign σ x = 46 then 1 else if pDig σ (x + 1) then 3 else 2
def pWr (σ : St) (s : Int32) : St := ups (ups σ 14 (ix (σ 13 1)) s) 13 1 (ups σ 14 (ix (σ 13 1)) s 13 1 + 1)
def wIn (x : Int32) (n : Int32) : Bool := !decide (x < 0) && decide (x < n)
theorem in60 {x : Int32} (h1 : ¬ x < 0) (h2 : x < 60) : vp_in x 60 := by
  rw [vp_in_iff]
  have h1 := Int32.not_lt.mp h1
  rw [Int32.le_iff_toInt_le] at h1
  rw [Int32.lt_iff_toInt_lt] at h2
  exact ⟨h1, h2⟩
theorem in8 {x : Int32} (h1 : ¬ x < 0) (h2 : x < 8) : vp_in x 8 := by
  rw [vp_in_iff]
  have h1 := Int32.not_lt.mp h1
  rw [Int32.le_iff_toInt_le] at h1
  rw [Int32.lt_iff_toInt_lt] at h2
  exact ⟨h1, h2⟩
set_option maxRecDepth 20000 in
set_option maxHeartbeats 4000000 in
theorem t_X1_signAt {σ : St} {x : Int32} : Ct MX1_signAt [.ref 13, .int x] σ (some (.int (pSign σ x))) (σ) := by
  refine ct_of (ls0 := [some (.ref 13), some (.int x)]) ok_MX1_signAt rfl (Nat.le_of_ble_eq_true rfl) rfl ?_
  intro g X F
  refine zw_iload_1 X dX1_signAt_0 ?_
  refine zw_iflt (tgt := 27) X dX1_signAt_1 (by decide) (fun c_1 => ?_) (fun c_1 => ?_)
  · refine zw_iconst (v := 0) X dX1_signAt_27 ik_0 ?_
    exact zw_iret X F dX1_signAt_28 rfl (by first | (simp only [pSign, c_1, decide_true, decide_false, Bool.and_true, Bool.true_and, Bool.and_false, Bool.false_and, Bool.or_true, Bool.true_or, Bool.or_false, Bool.false_or, Bool.not_true, Bool.not_false, if_true, if_false, ite_true, ite_false, Bool.false_eq_true, not_true_eq_false, not_false_eq_true, bI_t, bI_f, decide_eq_true_eq, reduceCtorEq]; done) | (simp [pSign, c_1]; done) | simp_all) (rfl)
  · refine zw_iload_1 X dX1_signAt_4 ?_
    refine zw_aload_0 X dX1_signAt_5 ?_
    refine zw_getI X dX1_signAt_6 fl_X1_15 ck_X1 sh_13 rfl ?_
    refine zw_icmpge (tgt := 27) X dX1_signAt_9 (by decide) (fun c_9 => ?_) (fun c_9 => ?_)
    · refine zw_iconst (v := 0) X dX1_signAt_27 ik_0 ?_
      exact zw_iret X F dX1_signAt_28 rfl (by first | (simp only [pSign, c_1, c_9, decide_true, decide_false, Bool.and_true, Bool.true_and, Bool.and_false, Bool.false_and, Bool.or_true, Bool.true_or, Bool.or_false, Bool.false_or, Bool.not_true, Bool.not_false, if_true, if_false, ite_true, ite_false, Bool.false_eq_true, not_true_eq_false, not_false_eq_true, bI_t, bI_f, decide_eq_true_eq, reduceCtorEq]; done) | (simp [pSign, c_1, c_9]; done) | simp_all) (rfl)
    · refine zw_iload_1 X dX1_signAt_12 ?_
      refine zw_bipush (v := 60) X dX1_signAt_13 bk_60 ?_
      refine zw_icmpge (tgt := 27) X dX1_signAt_15 (by decide) (fun c_15 => ?_) (fun c_15 => ?_)
      · refine zw_iconst (v := 0) X dX1_signAt_27 ik_0 ?_
        exact zw_iret X F dX1_signAt_28 rfl (by first | (simp only [pSign, c_1, c_9, c_15, decide_true, decide_false, Bool.and_true, Bool.true_and, Bool.and_false, Bool.false_and, Bool.or_true, Bool.true_or, Bool.or_false, Bool.false_or, Bool.not_true, Bool.not_false, if_true, if_false, ite_true, ite_false, Bool.false_eq_true, not_true_eq_false, not_false_eq_true, bI_t, bI_f, decide_eq_true_eq, reduceCtorEq]; done) | (simp [pSign, c_1, c_9, c_15]; done) | simp_all) (rfl)
      · refine zw_aload_0 X dX1_signAt_18 ?_
        refine zw_getR X dX1_signAt_19 fl_X1_11 ck_X1 sh_13 rfl ?_
        refine zw_iload_1 X dX1_signAt_22 ?_
        refine zw_iald X dX1_signAt_23 sh_14 (in60 c_1 c_15) ?_
        refine zw_goto (tgt := 28) X dX1_signAt_24 (by decide) ?_
        exact zw_iret X F dX1_signAt_28 rfl (by first | (simp only [pSign, c_1, c_9, c_15, decide_true, decide_false, Bool.and_true, Bool.true_and, Bool.and_false, Bool.false_and, Bool.or_true, Bool.true_or, Bool.or_false, Bool.false_or, Bool.not_true, Bool.not_false, if_true, if_false, ite_true, ite_false, Bool.false_eq_true, not_true_eq_false, not_false_eq_true, bI_t, bI_f, decide_eq_true_eq, reduceCtorEq]; done) | (simp [pSign, c_1, c_9, c_15]; done) | simp_all) (rfl)
set_option maxRecDepth 20000 in
set_option maxHeartbeats 4000000 in
theorem t_X1_isDigitAt {σ : St} {x : Int32} : Ct MX1_isDigitAt [.ref 13, .int x] σ (some (.int (bI (pDig σ x)))) (σ) := by
  refine ct_of (ls0 := [some (.ref 13), some (.int x)]) ok_MX1_isDigitAt rfl (Nat.le_of_ble_eq_true rfl) rfl ?_
  intro g X F
  refine zw_aload_0 X dX1_isDigitAt_0 ?_
  refine zw_iload_1 X dX1_isDigitAt_1 ?_
  refine zw_cV_ii X dX1_isDigitAt_2 lk_X1_19 ok_MX1_signAt vi_MX1_signAt rm_X1_isDigitAt_X1_signAt sh_13 rfl (Nat.le_of_ble_eq_true rfl) t_X1_signAt ?_
  refine zw_bipush (v := 48) X dX1_isDigitAt_5 bk_48 ?_
  refine zw_bipush (v := 57) X dX1_isDigitAt_7 bk_57 ?_
  refine zw_cN_iiii (host := "SilenceMinute") X dX1_isDigitAt_9 (by decide +kernel) ok_MX7_isWithin st_MX7_isWithin rm_X1_isDigitAt_X7_isWithin (Nat.le_of_ble_eq_true rfl) t_X7_isWithin ?_
  exact zw_zret X F dX1_isDigitAt_12 rfl (rfl) (rfl)
set_option maxRecDepth 20000 in
set_option maxHeartbeats 4000000 in
theorem t_X1_write {σ : St} {x : Int32} : Ct MX1_write [.ref 13, .int x] σ (some (.int (bI (wIn (σ 13 1) 60)))) (if wIn (σ 13 1) 60 then pWr σ x else σ) := by
  refine ct_of (ls0 := [some (.ref 13), some (.int x)]) ok_MX1_write rfl (Nat.le_of_ble_eq_true rfl) rfl ?_
  intro g X F
  refine zw_aload_0 X dX1_write_0 ?_
  refine zw_getI X dX1_write_1 fl_X1_15 ck_X1 sh_13 rfl ?_
  refine zw_iflt (tgt := 16) X dX1_write_4 (by decide) (fun c_4 => ?_) (fun c_4 => ?_)
  · refine zw_iconst (v := 0) X dX1_write_16 ik_0 ?_
    exact zw_zret X F dX1_write_17 rfl (by first | (simp only [wIn, bI_0', bI_1', bI_0, bI_1, bI_inj, c_4, decide_true, decide_false, Bool.and_true, Bool.true_and, Bool.and_false, Bool.false_and, Bool.or_true, Bool.true_or, Bool.or_false, Bool.false_or, Bool.not_true, Bool.not_false, if_true, if_false, ite_true, ite_false, Bool.false_eq_true, not_true_eq_false, not_false_eq_true, bI_t, bI_f, decide_eq_true_eq, reduceCtorEq]; done) | (simp [wIn, bI_0', bI_1', bI_0, bI_1, bI_inj, c_4]; done) | simp_all) (by simp [wIn, pWr, c_4])
  · refine zw_aload_0 X dX1_write_7 ?_
    refine zw_getI X dX1_write_8 fl_X1_15 ck_X1 sh_13 rfl ?_
    refine zw_bipush (v := 60) X dX1_write_11 bk_60 ?_
    refine zw_icmplt (tgt := 18) X dX1_write_13 (by decide) (fun c_13 => ?_) (fun c_13 => ?_)
    · refine zw_aload_0 X dX1_write_18 ?_
      refine zw_getR X dX1_write_19 fl_X1_11 ck_X1 sh_13 rfl ?_
      refine zw_aload_0 X dX1_write_22 ?_
      refine zw_getI X dX1_write_23 fl_X1_15 ck_X1 sh_13 rfl ?_
      refine zw_iload_1 X dX1_write_26 ?_
      refine zw_iast X dX1_write_27 sh_14 (in60 c_4 c_13) ?_
      refine zw_aload_0 X dX1_write_28 ?_
      refine zw_dup_r X dX1_write_29 ?_
      refine zw_getI X dX1_write_30 fl_X1_15 ck_X1 sh_13 rfl ?_
      refine zw_iconst (v := 1) X dX1_write_33 ik_1 ?_
      refine zw_iadd X dX1_write_34 ?_
      refine zw_put X dX1_write_35 fl_X1_15 ck_X1 ft_1_1 sh_13 rfl ?_
      refine zw_iconst (v := 1) X dX1_write_38 ik_1 ?_
      exact zw_zret X F dX1_write_39 rfl (by first | (simp only [wIn, bI_0', bI_1', bI_0, bI_1, bI_inj, c_4, c_13, decide_true, decide_false, Bool.and_true, Bool.true_and, Bool.and_false, Bool.false_and, Bool.or_true, Bool.true_or, Bool.or_false, Bool.false_or, Bool.not_true, Bool.not_false, if_true, if_false, ite_true, ite_false, Bool.false_eq_true, not_true_eq_false, not_false_eq_true, bI_t, bI_f, decide_eq_true_eq, reduceCtorEq]; done) | (simp [wIn, bI_0', bI_1', bI_0, bI_1, bI_inj, c_4, c_13]; done) | simp_all) (by simp [wIn, pWr, c_4, c_13])
    · refine zw_iconst (v := 0) X dX1_write_16 ik_0 ?_
      exact zw_zret X F dX1_write_17 rfl (by first | (simp only [wIn, bI_0', bI_1', bI_0, bI_1, bI_inj, c_4, c_13, decide_true, decide_false, Bool.and_true, Bool.true_and, Bool.and_false, Bool.false_and, Bool.or_true, Bool.true_or, Bool.or_false, Bool.false_or, Bool.not_true, Bool.not_false, if_true, if_false, ite_true, ite_false, Bool.false_eq_true, not_true_eq_false, not_false_eq_true, bI_t, bI_f, decide_eq_true_eq, reduceCtorEq]; done) | (simp [wIn, bI_0', bI_1', bI_0, bI_1, bI_inj, c_4, c_13]; done) | simp_all) (by simp [wIn, pWr, c_4, c_13])
set_option maxRecDepth 20000 in
set_option maxHeartbeats 4000000 in
theorem t_X1_clear {σ : St} : Ct MX1_clear [.ref 13] σ (some (.int (σ 13 1))) (ups σ 13 1 0) := by
  refine ct_of (ls0 := [some (.ref 13), none]) ok_MX1_clear rfl (Nat.le_of_ble_eq_true rfl) rfl ?_
  intro g X F
  refine zw_aload_0 X dX1_clear_0 ?_
  refine zw_getI X dX1_clear_1 fl_X1_15 ck_X1 sh_13 rfl ?_
  refine zw_istore_1 X dX1_clear_4 ?_
  refine zw_aload_0 X dX1_clear_5 ?_
  refine zw_iconst (v := 0) X dX1_clear_6 ik_0 ?_
  refine zw_put X dX1_clear_7 fl_X1_15 ck_X1 ft_1_1 sh_13 rfl ?_
  refine zw_iload_1 X dX1_clear_10 ?_
  exact zw_iret X F dX1_clear_11 rfl (rfl) (rfl)
set_option maxRecDepth 20000 in
set_option maxHeartbeats 4000000 in
theorem t_X1_follow {σ : St} {w x : Int32} : Ct MX1_follow [.ref 13, .int w, .int x] σ (some (.int (pFol σ w x))) (σ) := by
  refine ct_of (ls0 := [some (.ref 13), some (.int w), some (.int x), none, none]) ok_MX1_follow rfl (Nat.le_of_ble_eq_true rfl) rfl ?_
  intro g X F
  refine zw_aload_0 X dX1_follow_0 ?_
  refine zw_iload_2 X dX1_follow_1 ?_
  refine zw_cV_ii X dX1_follow_2 lk_X1_19 ok_MX1_signAt vi_MX1_signAt rm_X1_follow_X1_signAt sh_13 rfl (Nat.le_of_ble_eq_true rfl) t_X1_signAt ?_
  refine zw_istore_3 X dX1_follow_5 ?_
  refine zw_iload_1 X dX1_follow_6 ?_
  refine zw_ifne (tgt := 36) X dX1_follow_7 (by decide) (fun c_7 => ?_) (fun c_7 => ?_)
  · refine zw_aload_0 X dX1_follow_36 ?_
    refine zw_iload_2 X dX1_follow_37 ?_
    refine zw_cV_ii X dX1_follow_38 lk_X1_31 ok_MX1_isDigitAt vi_MX1_isDigitAt rm_X1_follow_X1_isDigitAt sh_13 rfl (Nat.le_of_ble_eq_true rfl) t_X1_isDigitAt ?_
    refine zw_ifeqB (tgt := 55) X dX1_follow_41 (by decide) (fun c_41 => ?_) (fun c_41 => ?_)
    · refine zw_iload_3 X dX1_follow_55 ?_
      refine zw_bipush (v := 99) X dX1_follow_56 bk_99 ?_
      refine zw_icmpeq (tgt := 73) X dX1_follow_58 (by decide) (fun c_58 => ?_) (fun c_58 => ?_)
      · refine zw_iconst (v := 1) X dX1_follow_73 ik_1 ?_
        refine zw_goto (tgt := 78) X dX1_follow_74 (by decide) ?_
        refine zw_istore_4 X dX1_follow_78 ?_
        refine zw_iload_1 X dX1_follow_80 ?_
        refine zw_iconst (v := 1) X dX1_follow_81 ik_1 ?_
        refine zw_icmpne (tgt := 94) X dX1_follow_82 (by decide) (fun c_82 => ?_) (fun c_82 => ?_)
        · refine zw_bipush (v := -6) X dX1_follow_94 bk_m6 ?_
          exact zw_iret X F dX1_follow_96 rfl (by first | (simp only [pFol, c_7, c_41, eq_true c_58, c_82, decide_true, decide_false, Bool.and_true, Bool.true_and, Bool.and_false, Bool.false_and, Bool.or_true, Bool.true_or, Bool.or_false, Bool.false_or, Bool.not_true, Bool.not_false, if_true, if_false, ite_true, ite_false, Bool.false_eq_true, not_true_eq_false, not_false_eq_true, bI_t, bI_f, decide_eq_true_eq, reduceCtorEq]; done) | (simp [pFol, c_7, c_41, eq_true c_58, c_82]; done) | simp_all) (rfl)
        · refine zw_iload_4 X dX1_follow_85 ?_
          refine zw_ifeq_f (tgt := 94) X dX1_follow_87 (by decide) (by decide) ?_
          refine zw_iconst (v := 0) X dX1_follow_90 ik_0 ?_
          refine zw_goto (tgt := 96) X dX1_follow_91 (by decide) ?_
          exact zw_iret X F dX1_follow_96 rfl (by first | (simp only [pFol, c_7, c_41, eq_true c_58, eq_true c_82, decide_true, decide_false, Bool.and_true, Bool.true_and, Bool.and_false, Bool.false_and, Bool.or_true, Bool.true_or, Bool.or_false, Bool.false_or, Bool.not_true, Bool.not_false, if_true, if_false, ite_true, ite_false, Bool.false_eq_true, not_true_eq_false, not_false_eq_true, bI_t, bI_f, decide_eq_true_eq, reduceCtorEq]; done) | (simp [pFol, c_7, c_41, eq_true c_58, eq_true c_82]; done) | simp_all) (rfl)
      · refine zw_iload_3 X dX1_follow_61 ?_
        refine zw_bipush (v := 115) X dX1_follow_62 bk_115 ?_
        refine zw_icmpeq (tgt := 73) X dX1_follow_64 (by decide) (fun c_64 => ?_) (fun c_64 => ?_)
        · refine zw_iconst (v := 1) X dX1_follow_73 ik_1 ?_
          refine zw_goto (tgt := 78) X dX1_follow_74 (by decide) ?_
          refine zw_istore_4 X dX1_follow_78 ?_
          refine zw_iload_1 X dX1_follow_80 ?_
          refine zw_iconst (v := 1) X dX1_follow_81 ik_1 ?_
          refine zw_icmpne (tgt := 94) X dX1_follow_82 (by decide) (fun c_82 => ?_) (fun c_82 => ?_)
          · refine zw_bipush (v := -6) X dX1_follow_94 bk_m6 ?_
            exact zw_iret X F dX1_follow_96 rfl (by first | (simp only [pFol, c_7, c_41, c_58, eq_true c_64, c_82, decide_true, decide_false, Bool.and_true, Bool.true_and, Bool.and_false, Bool.false_and, Bool.or_true, Bool.true_or, Bool.or_false, Bool.false_or, Bool.not_true, Bool.not_false, if_true, if_false, ite_true, ite_false, Bool.false_eq_true, not_true_eq_false, not_false_eq_true, bI_t, bI_f, decide_eq_true_eq, reduceCtorEq]; done) | (simp [pFol, c_7, c_41, c_58, eq_true c_64, c_82]; done) | simp_all) (rfl)
          · refine zw_iload_4 X dX1_follow_85 ?_
            refine zw_ifeq_f (tgt := 94) X dX1_follow_87 (by decide) (by decide) ?_
            refine zw_iconst (v := 0) X dX1_follow_90 ik_0 ?_
            refine zw_goto (tgt := 96) X dX1_follow_91 (by decide) ?_
            exact zw_iret X F dX1_follow_96 rfl (by first | (simp only [pFol, c_7, c_41, c_58, eq_true c_64, eq_true c_82, decide_true, decide_false, Bool.and_true, Bool.true_and, Bool.and_false, Bool.false_and, Bool.or_true, Bool.true_or, Bool.or_false, Bool.false_or, Bool.not_true, Bool.not_false, if_true, if_false, ite_true, ite_false, Bool.false_eq_true, not_true_eq_false, not_false_eq_true, bI_t, bI_f, decide_eq_true_eq, reduceCtorEq]; done) | (simp [pFol, c_7, c_41, c_58, eq_true c_64, eq_true c_82]; done) | simp_all) (rfl)
        · refine zw_iload_3 X dX1_follow_67 ?_
          refine zw_bipush (v := 104) X dX1_follow_68 bk_104 ?_
          refine zw_icmpne (tgt := 77) X dX1_follow_70 (by decide) (fun c_70 => ?_) (fun c_70 => ?_)
          · refine zw_iconst (v := 0) X dX1_follow_77 ik_0 ?_
            refine zw_istore_4 X dX1_follow_78 ?_
            refine zw_iload_1 X dX1_follow_80 ?_
            refine zw_iconst (v := 1) X dX1_follow_81 ik_1 ?_
            refine zw_icmpne (tgt := 94) X dX1_follow_82 (by decide) (fun c_82 => ?_) (fun c_82 => ?_)
            · refine zw_bipush (v := -6) X dX1_follow_94 bk_m6 ?_
              exact zw_iret X F dX1_follow_96 rfl (by first | (simp only [pFol, c_7, c_41, c_58, c_64, c_70, c_82, decide_true, decide_false, Bool.and_true, Bool.true_and, Bool.and_false, Bool.false_and, Bool.or_true, Bool.true_or, Bool.or_false, Bool.false_or, Bool.not_true, Bool.not_false, if_true, if_false, ite_true, ite_false, Bool.false_eq_true, not_true_eq_false, not_false_eq_true, bI_t, bI_f, decide_eq_true_eq, reduceCtorEq]; done) | (simp [pFol, c_7, c_41, c_58, c_64, c_70, c_82]; done) | simp_all) (rfl)
            · refine zw_iload_4 X dX1_follow_85 ?_
              refine zw_ifeq_t (tgt := 94) X dX1_follow_87 (by decide) (by decide) ?_
              refine zw_bipush (v := -6) X dX1_follow_94 bk_m6 ?_
              exact zw_iret X F dX1_follow_96 rfl (by first | (simp only [pFol, c_7, c_41, c_58, c_64, c_70, eq_true c_82, decide_true, decide_false, Bool.and_true, Bool.true_and, Bool.and_false, Bool.false_and, Bool.or_true, Bool.true_or, Bool.or_false, Bool.false_or, Bool.not_true, Bool.not_false, if_true, if_false, ite_true, ite_false, Bool.false_eq_true, not_true_eq_false, not_false_eq_true, bI_t, bI_f, decide_eq_true_eq, reduceCtorEq]; done) | (simp [pFol, c_7, c_41, c_58, c_64, c_70, eq_true c_82]; done) | simp_all) (rfl)
          · refine zw_iconst (v := 1) X dX1_follow_73 ik_1 ?_
            refine zw_goto (tgt := 78) X dX1_follow_74 (by decide) ?_
            refine zw_istore_4 X dX1_follow_78 ?_
            refine zw_iload_1 X dX1_follow_80 ?_
            refine zw_iconst (v := 1) X dX1_follow_81 ik_1 ?_
            refine zw_icmpne (tgt := 94) X dX1_follow_82 (by decide) (fun c_82 => ?_) (fun c_82 => ?_)
            · refine zw_bipush (v := -6) X dX1_follow_94 bk_m6 ?_
              exact zw_iret X F dX1_follow_96 rfl (by first | (simp only [pFol, c_7, c_41, c_58, c_64, eq_true c_70, c_82, decide_true, decide_false, Bool.and_true, Bool.true_and, Bool.and_false, Bool.false_and, Bool.or_true, Bool.true_or, Bool.or_false, Bool.false_or, Bool.not_true, Bool.not_false, if_true, if_false, ite_true, ite_false, Bool.false_eq_true, not_true_eq_false, not_false_eq_true, bI_t, bI_f, decide_eq_true_eq, reduceCtorEq]; done) | (simp [pFol, c_7, c_41, c_58, c_64, eq_true c_70, c_82]; done) | simp_all) (rfl)
            · refine zw_iload_4 X dX1_follow_85 ?_
              refine zw_ifeq_f (tgt := 94) X dX1_follow_87 (by decide) (by decide) ?_
              refine zw_iconst (v := 0) X dX1_follow_90 ik_0 ?_
              refine zw_goto (tgt := 96) X dX1_follow_91 (by decide) ?_
              exact zw_iret X F dX1_follow_96 rfl (by first | (simp only [pFol, c_7, c_41, c_58, c_64, eq_true c_70, eq_true c_82, decide_true, decide_false, Bool.and_true, Bool.true_and, Bool.and_false, Bool.false_and, Bool.or_true, Bool.true_or, Bool.or_false, Bool.false_or, Bool.not_true, Bool.not_false, if_true, if_false, ite_true, ite_false, Bool.false_eq_true, not_true_eq_false, not_false_eq_true, bI_t, bI_f, decide_eq_true_eq, reduceCtorEq]; done) | (simp [pFol, c_7, c_41, c_58, c_64, eq_true c_70, eq_true c_82]; done) | simp_all) (rfl)
    · refine zw_iload_1 X dX1_follow_44 ?_
      refine zw_iconst (v := 1) X dX1_follow_45 ik_1 ?_
      refine zw_icmpne (tgt := 53) X dX1_follow_46 (by decide) (fun c_46 => ?_) (fun c_46 => ?_)
      · refine zw_iconst (v := 0) X dX1_follow_53 ik_0 ?_
        exact zw_iret X F dX1_follow_54 rfl (by first | (simp only [pFol, c_7, c_41, c_46, decide_true, decide_false, Bool.and_true, Bool.true_and, Bool.and_false, Bool.false_and, Bool.or_true, Bool.true_or, Bool.or_false, Bool.false_or, Bool.not_true, Bool.not_false, if_true, if_false, ite_true, ite_false, Bool.false_eq_true, not_true_eq_false, not_false_eq_true, bI_t, bI_f, decide_eq_true_eq, reduceCtorEq]; done) | (simp [pFol, c_7, c_41, c_46]; done) | simp_all) (rfl)
      · refine zw_iconst (v := 2) X dX1_follow_49 ik_2 ?_
        refine zw_goto (tgt := 54) X dX1_follow_50 (by decide) ?_
        exact zw_iret X F dX1_follow_54 rfl (by first | (simp only [pFol, c_7, c_41, eq_true c_46, decide_true, decide_false, Bool.and_true, Bool.true_and, Bool.and_false, Bool.false_and, Bool.or_true, Bool.true_or, Bool.or_false, Bool.false_or, Bool.not_true, Bool.not_false, if_true, if_false, ite_true, ite_false, Bool.false_eq_true, not_true_eq_false, not_false_eq_true, bI_t, bI_f, decide_eq_true_eq, reduceCtorEq]; done) | (simp [pFol, c_7, c_41, eq_true c_46]; done) | simp_all) (rfl)
  · refine zw_iload_3 X dX1_follow_10 ?_
    refine zw_bipush (v := 65) X dX1_follow_11 bk_65 ?_
    refine zw_bipush (v := 70) X dX1_follow_13 bk_70 ?_
    refine zw_cN_iiii (host := "SilenceMinute") X dX1_follow_15 (by decide +kernel) ok_MX7_isWithin st_MX7_isWithin rm_X1_follow_X7_isWithin (Nat.le_of_ble_eq_true rfl) t_X7_isWithin ?_
    refine zw_ifeqB (tgt := 23) X dX1_follow_18 (by decide) (fun c_18 => ?_) (fun c_18 => ?_)
    · refine zw_iload_3 X dX1_follow_23 ?_
      refine zw_bipush (v := 46) X dX1_follow_24 bk_46 ?_
      refine zw_icmpne (tgt := 33) X dX1_follow_26 (by decide) (fun c_26 => ?_) (fun c_26 => ?_)
      · refine zw_bipush (v := -6) X dX1_follow_33 bk_m6 ?_
        exact zw_iret X F dX1_follow_35 rfl (by first | (simp only [pFol, eq_true c_7, c_18, c_26, decide_true, decide_false, Bool.and_true, Bool.true_and, Bool.and_false, Bool.false_and, Bool.or_true, Bool.true_or, Bool.or_false, Bool.false_or, Bool.not_true, Bool.not_false, if_true, if_false, ite_true, ite_false, Bool.false_eq_true, not_true_eq_false, not_false_eq_true, bI_t, bI_f, decide_eq_true_eq, reduceCtorEq]; done) | (simp [pFol, eq_true c_7, c_18, c_26]; done) | simp_all) (rfl)
      · refine zw_iconst (v := 0) X dX1_follow_29 ik_0 ?_
        refine zw_goto (tgt := 35) X dX1_follow_30 (by decide) ?_
        exact zw_iret X F dX1_follow_35 rfl (by first | (simp only [pFol, eq_true c_7, c_18, eq_true c_26, decide_true, decide_false, Bool.and_true, Bool.true_and, Bool.and_false, Bool.false_and, Bool.or_true, Bool.true_or, Bool.or_false, Bool.false_or, Bool.not_true, Bool.not_false, if_true, if_false, ite_true, ite_false, Bool.false_eq_true, not_true_eq_false, not_false_eq_true, bI_t, bI_f, decide_eq_true_eq, reduceCtorEq]; done) | (simp [pFol, eq_true c_7, c_18, eq_true c_26]; done) | simp_all) (rfl)
    · refine zw_iconst (v := 1) X dX1_follow_21 ik_1 ?_
      exact zw_iret X F dX1_follow_22 rfl (by first | (simp only [pFol, eq_true c_7, c_18, decide_true, decide_false, Bool.and_true, Bool.true_and, Bool.and_false, Bool.false_and, Bool.or_true, Bool.true_or, Bool.or_false, Bool.false_or, Bool.not_true, Bool.not_false, if_true, if_false, ite_true, ite_false, Bool.false_eq_true, not_true_eq_false, not_false_eq_true, bI_t, bI_f, decide_eq_true_eq, reduceCtorEq]; done) | (simp [pFol, eq_true c_7, c_18]; done) | simp_all) (rfl)
set_option maxRecDepth 20000 in
set_option maxHeartbeats 4000000 in
theorem t_X1_actLength {σ : St} {x : Int32} : Ct MX1_actLength [.ref 13, .int x] σ (some (.int (pLen σ x))) (σ) := by
  refine ct_of (ls0 := [some (.ref 13), some (.int x)]) ok_MX1_actLength rfl (Nat.le_of_ble_eq_true rfl) rfl ?_
  intro g X F
  refine zw_aload_0 X dX1_actLength_0 ?_
  refine zw_iload_1 X dX1_actLength_1 ?_
  refine zw_cV_ii X dX1_actLength_2 lk_X1_19 ok_MX1_signAt vi_MX1_signAt rm_X1_actLength_X1_signAt sh_13 rfl (Nat.le_of_ble_eq_true rfl) t_X1_signAt ?_
  refine zw_bipush (v := 46) X dX1_actLength_5 bk_46 ?_
  refine zw_icmpne (tgt := 12) X dX1_actLength_7 (by decide) (fun c_7 => ?_) (fun c_7 => ?_)
  · refine zw_aload_0 X dX1_actLength_12 ?_
    refine zw_iload_1 X dX1_actLength_13 ?_
    refine zw_iconst (v := 1) X dX1_actLength_14 ik_1 ?_
    refine zw_iadd X dX1_actLength_15 ?_
    refine zw_cV_ii X dX1_actLength_16 lk_X1_31 ok_MX1_isDigitAt vi_MX1_isDigitAt rm_X1_actLength_X1_isDigitAt sh_13 rfl (Nat.le_of_ble_eq_true rfl) t_X1_isDigitAt ?_
    refine zw_ifeqB (tgt := 26) X dX1_actLength_19 (by decide) (fun c_19 => ?_) (fun c_19 => ?_)
    · refine zw_iconst (v := 2) X dX1_actLength_26 ik_2 ?_
      exact zw_iret X F dX1_actLength_27 rfl (by first | (simp only [pLen, c_7, c_19, decide_true, decide_false, Bool.and_true, Bool.true_and, Bool.and_false, Bool.false_and, Bool.or_true, Bool.true_or, Bool.or_false, Bool.false_or, Bool.not_true, Bool.not_false, if_true, if_false, ite_true, ite_false, Bool.false_eq_true, not_true_eq_false, not_false_eq_true, bI_t, bI_f, decide_eq_true_eq, reduceCtorEq]; done) | (simp [pLen, c_7, c_19]; done) | simp_all) (rfl)
    · refine zw_iconst (v := 3) X dX1_actLength_22 ik_3 ?_
      refine zw_goto (tgt := 27) X dX1_actLength_23 (by decide) ?_
      exact zw_iret X F dX1_actLength_27 rfl (by first | (simp only [pLen, c_7, c_19, decide_true, decide_false, Bool.and_true, Bool.true_and, Bool.and_false, Bool.false_and, Bool.or_true, Bool.true_or, Bool.or_false, Bool.false_or, Bool.not_true, Bool.not_false, if_true, if_false, ite_true, ite_false, Bool.false_eq_true, not_true_eq_false, not_false_eq_true, bI_t, bI_f, decide_eq_true_eq, reduceCtorEq]; done) | (simp [pLen, c_7, c_19]; done) | simp_all) (rfl)
  · refine zw_iconst (v := 1) X dX1_actLength_10 ik_1 ?_
    exact zw_iret X F dX1_actLength_11 rfl (by first | (simp only [pLen, eq_true c_7, decide_true, decide_false, Bool.and_true, Bool.true_and, Bool.and_false, Bool.false_and, Bool.or_true, Bool.true_or, Bool.or_false, Bool.false_or, Bool.not_true, Bool.not_false, if_true, if_false, ite_true, ite_false, Bool.false_eq_true, not_true_eq_false, not_false_eq_true, bI_t, bI_f, decide_eq_true_eq, reduceCtorEq]; done) | (simp [pLen, eq_true c_7]; done) | simp_all) (rfl)
set_option maxRecDepth 20000 in
set_option maxHeartbeats 4000000 in
theorem t_X1_faultPlace {σ : St} : Ct MX1_faultPlace [.ref 13] σ (some (.int (pFault σ))) σ := by
  refine ct_of (ls0 := [some (.ref 13), none, none]) ok_MX1_faultPlace rfl (Nat.le_of_ble_eq_true rfl) rfl ?_
  intro g X F
  refine zw_iconst (v := 0) X dX1_faultPlace_0 ik_0 ?_
  refine zw_istore_1 X dX1_faultPlace_1 ?_
  refine zw_iconst (v := 0) X dX1_faultPlace_2 ik_0 ?_
  refine zw_istore_2 X dX1_faultPlace_3 ?_
  refine zfind (S := fun j => ∀ A T : Int32, A = pWh σ j → T = nI j → ZW g 4 [some (.ref 13), some (.int A), some (.int T)] [] σ) (P := fun n => decide (pWh σ (n + 1) = -6)) (N := clN (σ 13 1)) (fun j hj ih hb A T hA hT0 => ?_) (fun hb A T hA hT0 => ?_) _ _ rfl rfl
  · subst hA hT0
    refine zw_iload_2 X dX1_faultPlace_4 ?_
    refine zw_aload_0 X dX1_faultPlace_5 ?_
    refine zw_getI X dX1_faultPlace_6 fl_X1_15 ck_X1 sh_13 rfl ?_
    refine zw_icmpge_f (tgt := 33) X dX1_faultPlace_9 (by decide) ((clN_lt (Nat.le_of_lt hj)).mpr hj) ?_
    refine zw_aload_0 X dX1_faultPlace_12 ?_
    refine zw_iload_1 X dX1_faultPlace_13 ?_
    refine zw_iload_2 X dX1_faultPlace_14 ?_
    refine zw_cV_iii X dX1_faultPlace_15 lk_X1_27 ok_MX1_follow vi_MX1_follow rm_X1_faultPlace_X1_follow sh_13 rfl (Nat.le_of_ble_eq_true rfl) t_X1_follow ?_
    refine zw_istore_1 X dX1_faultPlace_18 ?_
    refine zw_iload_1 X dX1_faultPlace_19 ?_
    refine zw_bipush (v := -6) X dX1_faultPlace_20 bk_m6 ?_
    refine zw_icmpne (tgt := 27) X dX1_faultPlace_22 (by decide) (fun c_22 => ?_) (fun c_22 => ?_)
    · refine zw_iinc_2_p1 X dX1_faultPlace_27 ?_
      refine zw_goto (tgt := 4) X dX1_faultPlace_30 (by decide) ?_
      exact ih (decide_eq_false c_22) _ _ rfl (nI_1 j)
    · refine zw_iload_2 X dX1_faultPlace_25 ?_
      exact zw_iret X F dX1_faultPlace_26 rfl (by rw [pFault, show pFst σ = j from fstB_at (decide_eq_true c_22) hb hj, if_pos hj]) (rfl)
  · subst hA hT0
    have e0 : pFst σ = clN (σ 13 1) := fstB_no hb
    refine zw_iload_2 X dX1_faultPlace_4 ?_
    refine zw_aload_0 X dX1_faultPlace_5 ?_
    refine zw_getI X dX1_faultPlace_6 fl_X1_15 ck_X1 sh_13 rfl ?_
    refine zw_icmpge_t (tgt := 33) X dX1_faultPlace_9 (by decide) (fun h => Nat.lt_irrefl _ ((clN_lt (Nat.le_refl _)).mp h)) ?_
    refine zw_iload_1 X dX1_faultPlace_33 ?_
    refine zw_ifne (tgt := 42) X dX1_faultPlace_34 (by decide) (fun c_34 => ?_) (fun c_34 => ?_)
    · refine zw_aload_0 X dX1_faultPlace_42 ?_
      refine zw_getI X dX1_faultPlace_43 fl_X1_15 ck_X1 sh_13 rfl ?_
      exact zw_iret X F dX1_faultPlace_46 rfl (by first | (simp only [pFault, e0, c_34, decide_true, decide_false, Bool.and_true, Bool.true_and, Bool.and_false, Bool.false_and, Bool.or_true, Bool.true_or, Bool.or_false, Bool.false_or, Bool.not_true, Bool.not_false, if_true, if_false, ite_true, ite_false, Bool.false_eq_true, not_true_eq_false, not_false_eq_true, bI_t, bI_f, decide_eq_true_eq, reduceCtorEq]; done) | (simp [pFault, e0, c_34]; done) | simp_all) (rfl)
    · refine zw_bipush (v := -6) X dX1_faultPlace_37 bk_m6 ?_
      refine zw_goto (tgt := 46) X dX1_faultPlace_39 (by decide) ?_
      exact zw_iret X F dX1_faultPlace_46 rfl (by first | (simp only [pFault, e0, eq_true c_34, decide_true, decide_false, Bool.and_true, Bool.true_and, Bool.and_false, Bool.false_and, Bool.or_true, Bool.true_or, Bool.or_false, Bool.false_or, Bool.not_true, Bool.not_false, if_true, if_false, ite_true, ite_false, Bool.false_eq_true, not_true_eq_false, not_false_eq_true, bI_t, bI_f, decide_eq_true_eq, reduceCtorEq]; done) | (simp [pFault, e0, eq_true c_34]; done) | simp_all) (rfl)
def wBf (n : Int32) : Int32 := if n - 1 < 0 then 0 else n - 1
def sVal (σ : St) (mv wo : Int32) : Int32 := if σ 21 0 = mv then wo - σ 21 1 else -(σ 21 2)
def sLv1 (σ : St) (n : Int32) : St := ups σ 21 0 (if n = 0 then -6 else 1 - rem n 2)
def sLv2 (σ : St) (n : Int32) : St := ups (sLv1 σ n) 21 1 (if n = 0 then -6 else n)
def sLv (σ : St) (n : Int32) : St := ups (sLv2 σ n) 21 2 (wBf n)
def sSt (f s : Int32) (n : Nat) (τ : St) : St := if -(wBf (19 - nI n)) < sVal τ (rem (19 - nI n) 2) (if rem (19 - nI n) 2 = 0 then f else s) then τ else sLv τ (19 - nI n)
def sSet (σ : St) (f s : Int32) : St := itr (sSt f s) 20 (sLv σ 20)
theorem dn_nI (c : Int32) (n : Nat) : c - nI n + (-1) = c - nI (n + 1) := by
  rw [nI_succ, ← Int32.sub_eq_add_neg, Int32.sub_sub]
theorem dn_19 : ∀ n, n < 20 → ¬ (19 : Int32) - nI n < 0 := by decide
theorem dn_5 : ∀ n, n < 6 → ¬ (5 : Int32) - nI n < 0 := by decide
theorem dn_5i : ∀ n, n < 6 → vp_in (5 - nI n) 6 := by
  intro n hn
  have h : ∀ n, n < 6 → (5 : Int32) - nI n = nI (5 - n) := by decide
  rw [h n hn]
  exact vp_in_nI (by omega) (by decide)
set_option maxRecDepth 20000 in
set_option maxHeartbeats 4000000 in
theorem t_X2_moverBehind {σ : St} {n : Int32} : Ct MX2_moverBehind [.int n] σ (some (.int (rem n 2))) (σ) := by
  refine ct_of (ls0 := [some (.int n)]) ok_MX2_moverBehind rfl (Nat.le_of_ble_eq_true rfl) rfl ?_
  intro g X F
  refine zw_iload_0 X dX2_moverBehind_0 ?_
  refine zw_iconst (v := 2) X dX2_moverBehind_1 ik_2 ?_
  refine zw_irem X dX2_moverBehind_2 (by decide) ?_
  exact zw_iret X F dX2_moverBehind_3 rfl (rfl) (rfl)
set_option maxRecDepth 20000 in
set_option maxHeartbeats 4000000 in
theorem t_X2_wordBefore {σ : St} {n : Int32} : Ct MX2_wordBefore [.int n] σ (some (.int (wBf n))) (σ) := by
  refine ct_of (ls0 := [some (.int n)]) ok_MX2_wordBefore rfl (Nat.le_of_ble_eq_true rfl) rfl ?_
  intro g X F
  refine zw_iload_0 X dX2_wordBefore_0 ?_
  refine zw_iconst (v := 1) X dX2_wordBefore_1 ik_1 ?_
  refine zw_isub X dX2_wordBefore_2 ?_
  refine zw_iconst (v := 0) X dX2_wordBefore_3 ik_0 ?_
  refine zw_max X dX2_wordBefore_4 lm_X2_26 ls_max li_math lc_max ⟨Nat.le_of_ble_eq_true rfl, Nat.le_of_ble_eq_true rfl⟩ (Nat.le_of_ble_eq_true rfl) ?_
  exact zw_iret X F dX2_wordBefore_7 rfl (rfl) (rfl)
set_option maxRecDepth 20000 in
set_option maxHeartbeats 4000000 in
theorem t_X2_valueFor {σ : St} {m v : Int32} : Ct MX2_valueFor [.ref 21, .int m, .int v] σ (some (.int (sVal σ m v))) (σ) := by
  refine ct_of (ls0 := [some (.ref 21), some (.int m), some (.int v)]) ok_MX2_valueFor rfl (Nat.le_of_ble_eq_true rfl) rfl ?_
  intro g X F
  refine zw_aload_0 X dX2_valueFor_0 ?_
  refine zw_getI X dX2_valueFor_1 fl_X2_31 ck_X2 sh_21 rfl ?_
  refine zw_iload_1 X dX2_valueFor_4 ?_
  refine zw_icmpne (tgt := 17) X dX2_valueFor_5 (by decide) (fun c_5 => ?_) (fun c_5 => ?_)
  · refine zw_aload_0 X dX2_valueFor_17 ?_
    refine zw_getI X dX2_valueFor_18 fl_X2_38 ck_X2 sh_21 rfl ?_
    refine zw_ineg X dX2_valueFor_21 ?_
    exact zw_iret X F dX2_valueFor_22 rfl (by first | (simp only [sVal, c_5, decide_true, decide_false, Bool.and_true, Bool.true_and, Bool.and_false, Bool.false_and, Bool.or_true, Bool.true_or, Bool.or_false, Bool.false_or, Bool.not_true, Bool.not_false, if_true, if_false, ite_true, ite_false, Bool.false_eq_true, not_true_eq_false, not_false_eq_true, bI_t, bI_f, decide_eq_true_eq, reduceCtorEq]; done) | (simp [sVal, c_5]; done) | simp_all) (rfl)
  · refine zw_iload_2 X dX2_valueFor_8 ?_
    refine zw_aload_0 X dX2_valueFor_9 ?_
    refine zw_getI X dX2_valueFor_10 fl_X2_35 ck_X2 sh_21 rfl ?_
    refine zw_isub X dX2_valueFor_13 ?_
    refine zw_goto (tgt := 22) X dX2_valueFor_14 (by decide) ?_
    exact zw_iret X F dX2_valueFor_22 rfl (by first | (simp only [sVal, eq_true c_5, decide_true, decide_false, Bool.and_true, Bool.true_and, Bool.and_false, Bool.false_and, Bool.or_true, Bool.true_or, Bool.or_false, Bool.false_or, Bool.not_true, Bool.not_false, if_true, if_false, ite_true, ite_false, Bool.false_eq_true, not_true_eq_false, not_false_eq_true, bI_t, bI_f, decide_eq_true_eq, reduceCtorEq]; done) | (simp [sVal, eq_true c_5]; done) | simp_all) (rfl)
set_option maxRecDepth 20000 in
set_option maxHeartbeats 4000000 in
theorem t_X2_leaveOff {σ : St} {n : Int32} : Ct MX2_leaveOff [.ref 21, .int n] σ (none) (sLv σ n) := by
  refine ct_of (ls0 := [some (.ref 21), some (.int n)]) ok_MX2_leaveOff rfl (Nat.le_of_ble_eq_true rfl) rfl ?_
  intro g X F
  refine zw_aload_0 X dX2_leaveOff_0 ?_
  refine zw_iload_1 X dX2_leaveOff_1 ?_
  refine zw_ifne (tgt := 10) X dX2_leaveOff_2 (by decide) (fun c_2 => ?_) (fun c_2 => ?_)
  · refine zw_iconst (v := 1) X dX2_leaveOff_10 ik_1 ?_
    refine zw_iload_1 X dX2_leaveOff_11 ?_
    refine zw_cS_ii X dX2_leaveOff_12 lk_X2_15 ok_MX2_moverBehind st_MX2_moverBehind rm_X2_leaveOff_X2_moverBehind (Nat.le_of_ble_eq_true rfl) t_X2_moverBehind ?_
    refine zw_isub X dX2_leaveOff_15 ?_
    refine zw_put X dX2_leaveOff_16 fl_X2_31 ck_X2 ft_2_0 sh_21 rfl ?_
    refine zw_aload_0 X dX2_leaveOff_19 ?_
    refine zw_iload_1 X dX2_leaveOff_20 ?_
    refine zw_ifne (tgt := 29) X dX2_leaveOff_21 (by decide) (fun c_21 => ?_) (fun c_21 => ?_)
    · refine zw_iload_1 X dX2_leaveOff_29 ?_
      refine zw_put X dX2_leaveOff_30 fl_X2_35 ck_X2 ft_2_1 sh_21 rfl ?_
      refine zw_aload_0 X dX2_leaveOff_33 ?_
      refine zw_iload_1 X dX2_leaveOff_34 ?_
      refine zw_cS_ii X dX2_leaveOff_35 lk_X2_23 ok_MX2_wordBefore st_MX2_wordBefore rm_X2_leaveOff_X2_wordBefore (Nat.le_of_ble_eq_true rfl) t_X2_wordBefore ?_
      refine zw_put X dX2_leaveOff_38 fl_X2_38 ck_X2 ft_2_2 sh_21 rfl ?_
      exact zw_vret X F dX2_leaveOff_41 rfl (by first | (simp only [sLv, sLv2, sLv1, c_2, c_21, decide_true, decide_false, Bool.and_true, Bool.true_and, Bool.and_false, Bool.false_and, Bool.or_true, Bool.true_or, Bool.or_false, Bool.false_or, Bool.not_true, Bool.not_false, if_true, if_false, ite_true, ite_false, Bool.false_eq_true, not_true_eq_false, not_false_eq_true, bI_t, bI_f, decide_eq_true_eq, reduceCtorEq]; done) | (simp [sLv, sLv2, sLv1, c_2, c_21]; done) | simp_all)
    · refine zw_bipush (v := -6) X dX2_leaveOff_24 bk_m6 ?_
      refine zw_goto (tgt := 30) X dX2_leaveOff_26 (by decide) ?_
      refine zw_put X dX2_leaveOff_30 fl_X2_35 ck_X2 ft_2_1 sh_21 rfl ?_
      refine zw_aload_0 X dX2_leaveOff_33 ?_
      refine zw_iload_1 X dX2_leaveOff_34 ?_
      refine zw_cS_ii X dX2_leaveOff_35 lk_X2_23 ok_MX2_wordBefore st_MX2_wordBefore rm_X2_leaveOff_X2_wordBefore (Nat.le_of_ble_eq_true rfl) t_X2_wordBefore ?_
      refine zw_put X dX2_leaveOff_38 fl_X2_38 ck_X2 ft_2_2 sh_21 rfl ?_
      exact zw_vret X F dX2_leaveOff_41 rfl (by first | (simp only [sLv, sLv2, sLv1, c_2, eq_true c_21, decide_true, decide_false, Bool.and_true, Bool.true_and, Bool.and_false, Bool.false_and, Bool.or_true, Bool.true_or, Bool.or_false, Bool.false_or, Bool.not_true, Bool.not_false, if_true, if_false, ite_true, ite_false, Bool.false_eq_true, not_true_eq_false, not_false_eq_true, bI_t, bI_f, decide_eq_true_eq, reduceCtorEq]; done) | (simp [sLv, sLv2, sLv1, c_2, eq_true c_21]; done) | simp_all)
  · refine zw_bipush (v := -6) X dX2_leaveOff_5 bk_m6 ?_
    refine zw_goto (tgt := 16) X dX2_leaveOff_7 (by decide) ?_
    refine zw_put X dX2_leaveOff_16 fl_X2_31 ck_X2 ft_2_0 sh_21 rfl ?_
    refine zw_aload_0 X dX2_leaveOff_19 ?_
    refine zw_iload_1 X dX2_leaveOff_20 ?_
    refine zw_ifne (tgt := 29) X dX2_leaveOff_21 (by decide) (fun c_21 => ?_) (fun c_21 => ?_)
    · refine zw_iload_1 X dX2_leaveOff_29 ?_
      refine zw_put X dX2_leaveOff_30 fl_X2_35 ck_X2 ft_2_1 sh_21 rfl ?_
      refine zw_aload_0 X dX2_leaveOff_33 ?_
      refine zw_iload_1 X dX2_leaveOff_34 ?_
      refine zw_cS_ii X dX2_leaveOff_35 lk_X2_23 ok_MX2_wordBefore st_MX2_wordBefore rm_X2_leaveOff_X2_wordBefore (Nat.le_of_ble_eq_true rfl) t_X2_wordBefore ?_
      refine zw_put X dX2_leaveOff_38 fl_X2_38 ck_X2 ft_2_2 sh_21 rfl ?_
      exact zw_vret X F dX2_leaveOff_41 rfl (by first | (simp only [sLv, sLv2, sLv1, eq_true c_2, c_21, decide_true, decide_false, Bool.and_true, Bool.true_and, Bool.and_false, Bool.false_and, Bool.or_true, Bool.true_or, Bool.or_false, Bool.false_or, Bool.not_true, Bool.not_false, if_true, if_false, ite_true, ite_false, Bool.false_eq_true, not_true_eq_false, not_false_eq_true, bI_t, bI_f, decide_eq_true_eq, reduceCtorEq]; done) | (simp [sLv, sLv2, sLv1, eq_true c_2, c_21]; done) | simp_all)
    · refine zw_bipush (v := -6) X dX2_leaveOff_24 bk_m6 ?_
      refine zw_goto (tgt := 30) X dX2_leaveOff_26 (by decide) ?_
      refine zw_put X dX2_leaveOff_30 fl_X2_35 ck_X2 ft_2_1 sh_21 rfl ?_
      refine zw_aload_0 X dX2_leaveOff_33 ?_
      refine zw_iload_1 X dX2_leaveOff_34 ?_
      refine zw_cS_ii X dX2_leaveOff_35 lk_X2_23 ok_MX2_wordBefore st_MX2_wordBefore rm_X2_leaveOff_X2_wordBefore (Nat.le_of_ble_eq_true rfl) t_X2_wordBefore ?_
      refine zw_put X dX2_leaveOff_38 fl_X2_38 ck_X2 ft_2_2 sh_21 rfl ?_
      exact zw_vret X F dX2_leaveOff_41 rfl (by first | (simp only [sLv, sLv2, sLv1, eq_true c_2, eq_true c_21, decide_true, decide_false, Bool.and_true, Bool.true_and, Bool.and_false, Bool.false_and, Bool.or_true, Bool.true_or, Bool.or_false, Bool.false_or, Bool.not_true, Bool.not_false, if_true, if_false, ite_true, ite_false, Bool.false_eq_true, not_true_eq_false, not_false_eq_true, bI_t, bI_f, decide_eq_true_eq, reduceCtorEq]; done) | (simp [sLv, sLv2, sLv1, eq_true c_2, eq_true c_21]; done) | simp_all)
set_option maxRecDepth 20000 in
set_option maxHeartbeats 4000000 in
theorem t_X2_settle {σ : St} {f s : Int32} : Ct MX2_settle [.ref 21, .int f, .int s] σ (none) (sSet σ f s) := by
  refine ct_of (ls0 := [some (.ref 21), some (.int f), some (.int s), none, none, none]) ok_MX2_settle rfl (Nat.le_of_ble_eq_true rfl) rfl ?_
  intro g X F
  refine zw_aload_0 X dX2_settle_0 ?_
  refine zw_bipush (v := 20) X dX2_settle_1 bk_20 ?_
  refine zw_cV_iv X dX2_settle_3 lk_X2_11 ok_MX2_leaveOff vi_MX2_leaveOff rm_X2_settle_X2_leaveOff sh_21 rfl (Nat.le_of_ble_eq_true rfl) t_X2_leaveOff ?_
  refine zw_bipush (v := 19) X dX2_settle_6 bk_19 ?_
  refine zw_istore_3 X dX2_settle_8 ?_
  refine zw_fg_4 ?_
  refine zw_fg_5 ?_
  refine zloop (α := St) (S := fun n a => ∀ (s9 : St) (v9_3 : Int32), s9 = a → v9_3 = 19 - nI n → ZW g 9 [some (.ref 21), some (.int f), some (.int s), some (.int v9_3), none, none] [] s9) (N := 20) (f := (sSt f s)) (a0 := (sLv σ 20)) (fun n9 a9 hn9 ha9 ih9 s9 v9_3 hs9 hv9_3 => ?_) (fun a9 ha9 s9 v9_3 hs9 hv9_3 => ?_) _ _ rfl rfl
  · subst hs9 hv9_3
    refine zw_iload_3 X dX2_settle_9 ?_
    refine zw_iflt_f (tgt := 58) X dX2_settle_10 (by decide) (dn_19 _ hn9) ?_
    refine zw_iload_3 X dX2_settle_13 ?_
    refine zw_cS_ii X dX2_settle_14 lk_X2_15 ok_MX2_moverBehind st_MX2_moverBehind rm_X2_settle_X2_moverBehind (Nat.le_of_ble_eq_true rfl) t_X2_moverBehind ?_
    refine zw_istore_4 X dX2_settle_17 ?_
    refine zw_aload_0 X dX2_settle_19 ?_
    refine zw_iload_4 X dX2_settle_20 ?_
    refine zw_iload_4 X dX2_settle_22 ?_
    refine zw_ifne (tgt := 31) X dX2_settle_24 (by decide) (fun c_24 => ?_) (fun c_24 => ?_)
    · refine zw_iload_2 X dX2_settle_31 ?_
      refine zw_cV_iii X dX2_settle_32 lk_X2_19 ok_MX2_valueFor vi_MX2_valueFor rm_X2_settle_X2_valueFor sh_21 rfl (Nat.le_of_ble_eq_true rfl) t_X2_valueFor ?_
      refine zw_istore_5 X dX2_settle_35 ?_
      refine zw_iload_5 X dX2_settle_37 ?_
      refine zw_iload_3 X dX2_settle_39 ?_
      refine zw_cS_ii X dX2_settle_40 lk_X2_23 ok_MX2_wordBefore st_MX2_wordBefore rm_X2_settle_X2_wordBefore (Nat.le_of_ble_eq_true rfl) t_X2_wordBefore ?_
      refine zw_ineg X dX2_settle_43 ?_
      refine zw_icmpgt (tgt := 52) X dX2_settle_44 (by decide) (fun c_44 => ?_) (fun c_44 => ?_)
      · refine zw_iinc_3_m1 X dX2_settle_52 ?_
        refine zw_goto (tgt := 9) X dX2_settle_55 (by decide) ?_
        refine zw_fg_4 ?_
        refine zw_fg_5 ?_
        exact ih9 _ _ (by first | (simp only [sSt, c_24, c_44, decide_true, decide_false, Bool.and_true, Bool.true_and, Bool.and_false, Bool.false_and, Bool.or_true, Bool.true_or, Bool.or_false, Bool.false_or, Bool.not_true, Bool.not_false, if_true, if_false, ite_true, ite_false, Bool.false_eq_true, not_true_eq_false, not_false_eq_true, bI_t, bI_f, decide_eq_true_eq, reduceCtorEq]; done) | (simp [sSt, c_24, c_44]; done) | simp_all) (dn_nI 19 n9)
      · refine zw_aload_0 X dX2_settle_47 ?_
        refine zw_iload_3 X dX2_settle_48 ?_
        refine zw_cV_iv X dX2_settle_49 lk_X2_11 ok_MX2_leaveOff vi_MX2_leaveOff rm_X2_settle_X2_leaveOff sh_21 rfl (Nat.le_of_ble_eq_true rfl) t_X2_leaveOff ?_
        refine zw_iinc_3_m1 X dX2_settle_52 ?_
        refine zw_goto (tgt := 9) X dX2_settle_55 (by decide) ?_
        refine zw_fg_4 ?_
        refine zw_fg_5 ?_
        exact ih9 _ _ (by first | (simp only [sSt, c_24, c_44, decide_true, decide_false, Bool.and_true, Bool.true_and, Bool.and_false, Bool.false_and, Bool.or_true, Bool.true_or, Bool.or_false, Bool.false_or, Bool.not_true, Bool.not_false, if_true, if_false, ite_true, ite_false, Bool.false_eq_true, not_true_eq_false, not_false_eq_true, bI_t, bI_f, decide_eq_true_eq, reduceCtorEq]; done) | (simp [sSt, c_24, c_44]; done) | simp_all) (dn_nI 19 n9)
    · refine zw_iload_1 X dX2_settle_27 ?_
      refine zw_goto (tgt := 32) X dX2_settle_28 (by decide) ?_
      refine zw_cV_iii X dX2_settle_32 lk_X2_19 ok_MX2_valueFor vi_MX2_valueFor rm_X2_settle_X2_valueFor sh_21 rfl (Nat.le_of_ble_eq_true rfl) t_X2_valueFor ?_
      refine zw_istore_5 X dX2_settle_35 ?_
      refine zw_iload_5 X dX2_settle_37 ?_
      refine zw_iload_3 X dX2_settle_39 ?_
      refine zw_cS_ii X dX2_settle_40 lk_X2_23 ok_MX2_wordBefore st_MX2_wordBefore rm_X2_settle_X2_wordBefore (Nat.le_of_ble_eq_true rfl) t_X2_wordBefore ?_
      refine zw_ineg X dX2_settle_43 ?_
      refine zw_icmpgt (tgt := 52) X dX2_settle_44 (by decide) (fun c_44 => ?_) (fun c_44 => ?_)
      · refine zw_iinc_3_m1 X dX2_settle_52 ?_
        refine zw_goto (tgt := 9) X dX2_settle_55 (by decide) ?_
        refine zw_fg_4 ?_
        refine zw_fg_5 ?_
        exact ih9 _ _ (by first | (simp only [sSt, eq_true c_24, c_44, decide_true, decide_false, Bool.and_true, Bool.true_and, Bool.and_false, Bool.false_and, Bool.or_true, Bool.true_or, Bool.or_false, Bool.false_or, Bool.not_true, Bool.not_false, if_true, if_false, ite_true, ite_false, Bool.false_eq_true, not_true_eq_false, not_false_eq_true, bI_t, bI_f, decide_eq_true_eq, reduceCtorEq]; done) | (simp [sSt, eq_true c_24, c_44]; done) | simp_all) (dn_nI 19 n9)
      · refine zw_aload_0 X dX2_settle_47 ?_
        refine zw_iload_3 X dX2_settle_48 ?_
        refine zw_cV_iv X dX2_settle_49 lk_X2_11 ok_MX2_leaveOff vi_MX2_leaveOff rm_X2_settle_X2_leaveOff sh_21 rfl (Nat.le_of_ble_eq_true rfl) t_X2_leaveOff ?_
        refine zw_iinc_3_m1 X dX2_settle_52 ?_
        refine zw_goto (tgt := 9) X dX2_settle_55 (by decide) ?_
        refine zw_fg_4 ?_
        refine zw_fg_5 ?_
        exact ih9 _ _ (by first | (simp only [sSt, eq_true c_24, c_44, decide_true, decide_false, Bool.and_true, Bool.true_and, Bool.and_false, Bool.false_and, Bool.or_true, Bool.true_or, Bool.or_false, Bool.false_or, Bool.not_true, Bool.not_false, if_true, if_false, ite_true, ite_false, Bool.false_eq_true, not_true_eq_false, not_false_eq_true, bI_t, bI_f, decide_eq_true_eq, reduceCtorEq]; done) | (simp [sSt, eq_true c_24, c_44]; done) | simp_all) (dn_nI 19 n9)
  · subst hs9 hv9_3
    refine zw_iload_3 X dX2_settle_9 ?_
    refine zw_iflt_t (tgt := 58) X dX2_settle_10 (by decide) (by decide) ?_
    exact zw_vret X F dX2_settle_58 rfl (ha9)
def sRid (σ : St) (t : Int32) : Bool := !decide (σ 19 2 &&& ((1 : Int32) <<< (t &&& 31)) = 0)
def sAll (σ : St) : Int32 := itr (fun n a => a * (if sRid σ (nI n) then 3 else 1)) 6 1
def sSp (n : Nat) (a : Int32 × St) : Int32 × St := if sRid a.2 (5 - nI n) then (a.1 / 3, ups a.2 20 (ix (5 - nI n)) (rem a.1 3)) else (a.1, ups a.2 20 (ix (5 - nI n)) 3)
def sSpr (σ : St) (c : Int32) : St := (itr sSp 6 (c, σ)).2
def sNum (σ : St) : Int32 := itr (fun n a => 10 * a + σ 20 n) 6 0
/-- over the twos: one, the other -/
def twoI (P : Nat → Nat → Bool) (i j : Nat) (a : Int32 × Int32) : Int32 × Int32 := (a.1 ||| (if P i (i + 1 + j) then a.2 else 0), a.2 <<< ((1 : Int32) &&& 31))
def twoO (P : Nat → Nat → Bool) (i : Nat) (a : Int32 × Int32) : Int32 × Int32 := itr (twoI P i) (5 - i) a
def twos (P : Nat → Nat → Bool) : Int32 := (itr (twoO P) 6 (0, 1)).1
def sTwo (σ : St) : Int32 := twos (fun i j => decide (σ 20 i = σ 20 j))
def sMeet (σ : St) (k : Nat) : Int32 := twos (fun i j => ttog σ k (nI i) (nI j))
def sC1 (τ : St) (c : Nat) : St := sSpr τ (nI c)
def sC2 (τ : St) (c : Nat) : St := ups (sC1 τ c) 19 1 (if sC1 τ c 19 0 = 0 then sNum (sC1 τ c) else sC1 τ c 19 1)
def sC3 (τ : St) (c : Nat) : St := ups (sC2 τ c) 19 0 (sC2 τ c 19 0 + 1)
def sCst (ne to : Int32) (c : Nat) (τ : St) : St := if decide (sTwo (sC1 τ c) &&& ne = 0) && decide (to &&& (sTwo (sC1 τ c) ^^^ (-1)) = 0) then sC3 τ c else sC1 τ c
def sB1 (σ : St) : St := ups (ups σ 19 0 0) 19 1 (-6)
def sB (σ : St) : St := ups (sB1 σ) 19 2 (trol (sB1 σ) 1)
def sCnt (σ : St) (ap to : Int32) : St := if to &&& (sMeet (sB σ) 1 ^^^ (-1)) = 0 then itr (sCst (ap &&& sMeet (sB σ) 1) to) (clN (sAll (sB σ))) (sB σ) else sB σ
set_option maxRecDepth 20000 in
set_option maxHeartbeats 4000000 in
theorem t_X3_isRider {σ : St} {t : Int32} : Ct MX3_isRider [.ref 19, .int t] σ (some (.int (bI (sRid σ t)))) (σ) := by
  refine ct_of (ls0 := [some (.ref 19), some (.int t)]) ok_MX3_isRider rfl (Nat.le_of_ble_eq_true rfl) rfl ?_
  intro g X F
  refine zw_aload_0 X dX3_isRider_0 ?_
  refine zw_getI X dX3_isRider_1 fl_X3_28 ck_X3 sh_19 rfl ?_
  refine zw_iconst (v := 1) X dX3_isRider_4 ik_1 ?_
  refine zw_iload_1 X dX3_isRider_5 ?_
  refine zw_ishl X dX3_isRider_6 ?_
  refine zw_iand X dX3_isRider_7 ?_
  refine zw_ifeq (tgt := 15) X dX3_isRider_8 (by decide) (fun c_8 => ?_) (fun c_8 => ?_)
  · refine zw_iconst (v := 0) X dX3_isRider_15 ik_0 ?_
    exact zw_zret X F dX3_isRider_16 rfl (by first | (simp only [sRid, bI_0', bI_1', bI_0, bI_1, bI_inj, eq_true c_8, decide_true, decide_false, Bool.and_true, Bool.true_and, Bool.and_false, Bool.false_and, Bool.or_true, Bool.true_or, Bool.or_false, Bool.false_or, Bool.not_true, Bool.not_false, if_true, if_false, ite_true, ite_false, Bool.false_eq_true, not_true_eq_false, not_false_eq_true, bI_t, bI_f, decide_eq_true_eq, reduceCtorEq]; done) | (simp [sRid, bI_0', bI_1', bI_0, bI_1, bI_inj, eq_true c_8]; done) | simp_all) (rfl)
  · refine zw_iconst (v := 1) X dX3_isRider_11 ik_1 ?_
    refine zw_goto (tgt := 16) X dX3_isRider_12 (by decide) ?_
    exact zw_zret X F dX3_isRider_16 rfl (by first | (simp only [sRid, bI_0', bI_1', bI_0, bI_1, bI_inj, c_8, decide_true, decide_false, Bool.and_true, Bool.true_and, Bool.and_false, Bool.false_and, Bool.or_true, Bool.true_or, Bool.or_false, Bool.false_or, Bool.not_true, Bool.not_false, if_true, if_false, ite_true, ite_false, Bool.false_eq_true, not_true_eq_false, not_false_eq_true, bI_t, bI_f, decide_eq_true_eq, reduceCtorEq]; done) | (simp [sRid, bI_0', bI_1', bI_0, bI_1, bI_inj, c_8]; done) | simp_all) (rfl)
set_option maxRecDepth 20000 in
set_option maxHeartbeats 4000000 in
theorem t_X3_waysInAll {σ : St} : Ct MX3_waysInAll [.ref 19] σ (some (.int (sAll σ))) (σ) := by
  refine ct_of (ls0 := [some (.ref 19), none, none]) ok_MX3_waysInAll rfl (Nat.le_of_ble_eq_true rfl) rfl ?_
  intro g X F
  refine zw_iconst (v := 1) X dX3_waysInAll_0 ik_1 ?_
  refine zw_istore_1 X dX3_waysInAll_1 ?_
  refine zw_iconst (v := 0) X dX3_waysInAll_2 ik_0 ?_
  refine zw_istore_2 X dX3_waysInAll_3 ?_
  refine zloop (α := Int32) (S := fun n a => ∀ (v4_1 : Int32) (v4_2 : Int32), v4_1 = a → v4_2 = nI n → ZW g 4 [some (.ref 19), some (.int v4_1), some (.int v4_2)] [] σ) (N := 6) (f := (fun n a => a * (if sRid σ (nI n) then 3 else 1))) (a0 := (1 : Int32)) (fun n4 a4 hn4 ha4 ih4 v4_1 v4_2 hv4_1 hv4_2 => ?_) (fun a4 ha4 v4_1 v4_2 hv4_1 hv4_2 => ?_) _ _ rfl rfl
  · subst hv4_1 hv4_2
    refine zw_iload_2 X dX3_waysInAll_4 ?_
    refine zw_bipush (v := 6) X dX3_waysInAll_5 bk_6 ?_
    refine zw_icmpge_f (tgt := 32) X dX3_waysInAll_7 (by decide) (nI_lt hn4 (by decide)) ?_
    refine zw_iload_1 X dX3_waysInAll_10 ?_
    refine zw_aload_0 X dX3_waysInAll_11 ?_
    refine zw_iload_2 X dX3_waysInAll_12 ?_
    refine zw_cV_ii X dX3_waysInAll_13 lk_X3_48 ok_MX3_isRider vi_MX3_isRider rm_X3_waysInAll_X3_isRider sh_19 rfl (Nat.le_of_ble_eq_true rfl) t_X3_isRider ?_
    refine zw_ifeqB (tgt := 23) X dX3_waysInAll_16 (by decide) (fun c_16 => ?_) (fun c_16 => ?_)
    · refine zw_iconst (v := 1) X dX3_waysInAll_23 ik_1 ?_
      refine zw_imul X dX3_waysInAll_24 ?_
      refine zw_istore_1 X dX3_waysInAll_25 ?_
      refine zw_iinc_2_p1 X dX3_waysInAll_26 ?_
      refine zw_goto (tgt := 4) X dX3_waysInAll_29 (by decide) ?_
      exact ih4 _ _ (by first | (simp only [c_16, decide_true, decide_false, Bool.and_true, Bool.true_and, Bool.and_false, Bool.false_and, Bool.or_true, Bool.true_or, Bool.or_false, Bool.false_or, Bool.not_true, Bool.not_false, if_true, if_false, ite_true, ite_false, Bool.false_eq_true, not_true_eq_false, not_false_eq_true, bI_t, bI_f, decide_eq_true_eq, reduceCtorEq]; done) | (simp [c_16]; done) | simp_all) (nI_1 n4)
    · refine zw_iconst (v := 3) X dX3_waysInAll_19 ik_3 ?_
      refine zw_goto (tgt := 24) X dX3_waysInAll_20 (by decide) ?_
      refine zw_imul X dX3_waysInAll_24 ?_
      refine zw_istore_1 X dX3_waysInAll_25 ?_
      refine zw_iinc_2_p1 X dX3_waysInAll_26 ?_
      refine zw_goto (tgt := 4) X dX3_waysInAll_29 (by decide) ?_
      exact ih4 _ _ (by first | (simp only [c_16, decide_true, decide_false, Bool.and_true, Bool.true_and, Bool.and_false, Bool.false_and, Bool.or_true, Bool.true_or, Bool.or_false, Bool.false_or, Bool.not_true, Bool.not_false, if_true, if_false, ite_true, ite_false, Bool.false_eq_true, not_true_eq_false, not_false_eq_true, bI_t, bI_f, decide_eq_true_eq, reduceCtorEq]; done) | (simp [c_16]; done) | simp_all) (nI_1 n4)
  · subst hv4_1 hv4_2
    refine zw_iload_2 X dX3_waysInAll_4 ?_
    refine zw_bipush (v := 6) X dX3_waysInAll_5 bk_6 ?_
    refine zw_icmpge_t (tgt := 32) X dX3_waysInAll_7 (by decide) (by decide) ?_
    refine zw_iload_1 X dX3_waysInAll_32 ?_
    exact zw_iret X F dX3_waysInAll_33 rfl (by first | (simp only [sAll, ha4, decide_true, decide_false, Bool.and_true, Bool.true_and, Bool.and_false, Bool.false_and, Bool.or_true, Bool.true_or, Bool.or_false, Bool.false_or, Bool.not_true, Bool.not_false, if_true, if_false, ite_true, ite_false, Bool.false_eq_true, not_true_eq_false, not_false_eq_true, bI_t, bI_f, decide_eq_true_eq, reduceCtorEq]; done) | (simp [sAll, ha4]; done) | simp_all) (rfl)
set_option maxRecDepth 20000 in
set_option maxHeartbeats 4000000 in
theorem t_X3_spread {σ : St} {c : Int32} : Ct MX3_spread [.ref 19, .int c] σ (none) (sSpr σ c) := by
  refine ct_of (ls0 := [some (.ref 19), some (.int c), none, none]) ok_MX3_spread rfl (Nat.le_of_ble_eq_true rfl) rfl ?_
  intro g X F
  refine zw_iload_1 X dX3_spread_0 ?_
  refine zw_istore_2 X dX3_spread_1 ?_
  refine zw_iconst (v := 5) X dX3_spread_2 ik_5 ?_
  refine zw_istore_3 X dX3_spread_3 ?_
  refine zloop (α := Int32 × St) (S := fun n a => ∀ (v4_2 : Int32) (s4 : St) (v4_3 : Int32), v4_2 = a.1 → s4 = a.2 → v4_3 = 5 - nI n → ZW g 4 [some (.ref 19), some (.int c), some (.int v4_2), some (.int v4_3)] [] s4) (N := 6) (f := sSp) (a0 := ((c, σ) : Int32 × St)) (fun n4 a4 hn4 ha4 ih4 v4_2 s4 v4_3 hv4_2 hs4 hv4_3 => ?_) (fun a4 ha4 v4_2 s4 v4_3 hv4_2 hs4 hv4_3 => ?_) _ _ _ rfl rfl rfl
  · subst hv4_2 hs4 hv4_3
    refine zw_iload_3 X dX3_spread_4 ?_
    refine zw_iflt_f (tgt := 45) X dX3_spread_5 (by decide) (dn_5 _ hn4) ?_
    refine zw_aload_0 X dX3_spread_8 ?_
    refine zw_iload_3 X dX3_spread_9 ?_
    refine zw_cV_ii X dX3_spread_10 lk_X3_48 ok_MX3_isRider vi_MX3_isRider rm_X3_spread_X3_isRider sh_19 rfl (Nat.le_of_ble_eq_true rfl) t_X3_isRider ?_
    refine zw_ifeqB (tgt := 32) X dX3_spread_13 (by decide) (fun c_13 => ?_) (fun c_13 => ?_)
    · refine zw_aload_0 X dX3_spread_32 ?_
      refine zw_getR X dX3_spread_33 fl_X3_9 ck_X3 sh_19 rfl ?_
      refine zw_iload_3 X dX3_spread_36 ?_
      refine zw_iconst (v := 3) X dX3_spread_37 ik_3 ?_
      refine zw_iast X dX3_spread_38 sh_20 (dn_5i _ hn4) ?_
      refine zw_iinc_3_m1 X dX3_spread_39 ?_
      refine zw_goto (tgt := 4) X dX3_spread_42 (by decide) ?_
      exact ih4 _ _ _ (by first | (simp only [sSp, rem, c_13, decide_true, decide_false, Bool.and_true, Bool.true_and, Bool.and_false, Bool.false_and, Bool.or_true, Bool.true_or, Bool.or_false, Bool.false_or, Bool.not_true, Bool.not_false, if_true, if_false, ite_true, ite_false, Bool.false_eq_true, not_true_eq_false, not_false_eq_true, bI_t, bI_f, decide_eq_true_eq, reduceCtorEq]; done) | (simp [sSp, rem, c_13]; done) | simp_all) (by first | (simp only [sSp, rem, c_13, decide_true, decide_false, Bool.and_true, Bool.true_and, Bool.and_false, Bool.false_and, Bool.or_true, Bool.true_or, Bool.or_false, Bool.false_or, Bool.not_true, Bool.not_false, if_true, if_false, ite_true, ite_false, Bool.false_eq_true, not_true_eq_false, not_false_eq_true, bI_t, bI_f, decide_eq_true_eq, reduceCtorEq]; done) | (simp [sSp, rem, c_13]; done) | simp_all) (dn_nI 5 n4)
    · refine zw_aload_0 X dX3_spread_16 ?_
      refine zw_getR X dX3_spread_17 fl_X3_9 ck_X3 sh_19 rfl ?_
      refine zw_iload_3 X dX3_spread_20 ?_
      refine zw_iload_2 X dX3_spread_21 ?_
      refine zw_iconst (v := 3) X dX3_spread_22 ik_3 ?_
      refine zw_irem X dX3_spread_23 (by decide) ?_
      refine zw_iast X dX3_spread_24 sh_20 (dn_5i _ hn4) ?_
      refine zw_iload_2 X dX3_spread_25 ?_
      refine zw_iconst (v := 3) X dX3_spread_26 ik_3 ?_
      refine zw_idiv X dX3_spread_27 (by decide) ?_
      refine zw_istore_2 X dX3_spread_28 ?_
      refine zw_goto (tgt := 39) X dX3_spread_29 (by decide) ?_
      refine zw_iinc_3_m1 X dX3_spread_39 ?_
      refine zw_goto (tgt := 4) X dX3_spread_42 (by decide) ?_
      exact ih4 _ _ _ (by first | (simp only [sSp, rem, c_13, decide_true, decide_false, Bool.and_true, Bool.true_and, Bool.and_false, Bool.false_and, Bool.or_true, Bool.true_or, Bool.or_false, Bool.false_or, Bool.not_true, Bool.not_false, if_true, if_false, ite_true, ite_false, Bool.false_eq_true, not_true_eq_false, not_false_eq_true, bI_t, bI_f, decide_eq_true_eq, reduceCtorEq]; done) | (simp [sSp, rem, c_13]; done) | simp_all) (by first | (simp only [sSp, rem, c_13, decide_true, decide_false, Bool.and_true, Bool.true_and, Bool.and_false, Bool.false_and, Bool.or_true, Bool.true_or, Bool.or_false, Bool.false_or, Bool.not_true, Bool.not_false, if_true, if_false, ite_true, ite_false, Bool.false_eq_true, not_true_eq_false, not_false_eq_true, bI_t, bI_f, decide_eq_true_eq, reduceCtorEq]; done) | (simp [sSp, rem, c_13]; done) | simp_all) (dn_nI 5 n4)
  · subst hv4_2 hs4 hv4_3
    refine zw_iload_3 X dX3_spread_4 ?_
    refine zw_iflt_t (tgt := 45) X dX3_spread_5 (by decide) (by decide) ?_
    exact zw_vret X F dX3_spread_45 rfl (by rw [sSpr, ← ha4])
set_option maxRecDepth 20000 in
set_option maxHeartbeats 4000000 in
theorem t_X3_digitsAsNumber {σ : St} : Ct MX3_digitsAsNumber [.ref 19] σ (some (.int (sNum σ))) (σ) := by
  refine ct_of (ls0 := [some (.ref 19), none, none]) ok_MX3_digitsAsNumber rfl (Nat.le_of_ble_eq_true rfl) rfl ?_
  intro g X F
  refine zw_iconst (v := 0) X dX3_digitsAsNumber_0 ik_0 ?_
  refine zw_istore_1 X dX3_digitsAsNumber_1 ?_
  refine zw_iconst (v := 0) X dX3_digitsAsNumber_2 ik_0 ?_
  refine zw_istore_2 X dX3_digitsAsNumber_3 ?_
  refine zloop (α := Int32) (S := fun n a => ∀ (v4_1 : Int32) (v4_2 : Int32), v4_1 = a → v4_2 = nI n → ZW g 4 [some (.ref 19), some (.int v4_1), some (.int v4_2)] [] σ) (N := 6) (f := (fun n a => 10 * a + σ 20 n)) (a0 := (0 : Int32)) (fun n4 a4 hn4 ha4 ih4 v4_1 v4_2 hv4_1 hv4_2 => ?_) (fun a4 ha4 v4_1 v4_2 hv4_1 hv4_2 => ?_) _ _ rfl rfl
  · subst hv4_1 hv4_2
    refine zw_iload_2 X dX3_digitsAsNumber_4 ?_
    refine zw_bipush (v := 6) X dX3_digitsAsNumber_5 bk_6 ?_
    refine zw_icmpge_f (tgt := 28) X dX3_digitsAsNumber_7 (by decide) (nI_lt hn4 (by decide)) ?_
    refine zw_bipush (v := 10) X dX3_digitsAsNumber_10 bk_10 ?_
    refine zw_iload_1 X dX3_digitsAsNumber_12 ?_
    refine zw_imul X dX3_digitsAsNumber_13 ?_
    refine zw_aload_0 X dX3_digitsAsNumber_14 ?_
    refine zw_getR X dX3_digitsAsNumber_15 fl_X3_9 ck_X3 sh_19 rfl ?_
    refine zw_iload_2 X dX3_digitsAsNumber_18 ?_
    refine zw_ialdN X dX3_digitsAsNumber_19 sh_20 hn4 (by decide) ?_
    refine zw_iadd X dX3_digitsAsNumber_20 ?_
    refine zw_istore_1 X dX3_digitsAsNumber_21 ?_
    refine zw_iinc_2_p1 X dX3_digitsAsNumber_22 ?_
    refine zw_goto (tgt := 4) X dX3_digitsAsNumber_25 (by decide) ?_
    exact ih4 _ _ (by first | rfl | (simp only [decide_true, decide_false, Bool.and_true, Bool.true_and, Bool.and_false, Bool.false_and, Bool.or_true, Bool.true_or, Bool.or_false, Bool.false_or, Bool.not_true, Bool.not_false, if_true, if_false, ite_true, ite_false, Bool.false_eq_true, not_true_eq_false, not_false_eq_true, bI_t, bI_f, decide_eq_true_eq, reduceCtorEq]; done) | (simp; done) | simp_all) (nI_1 n4)
  · subst hv4_1 hv4_2
    refine zw_iload_2 X dX3_digitsAsNumber_4 ?_
    refine zw_bipush (v := 6) X dX3_digitsAsNumber_5 bk_6 ?_
    refine zw_icmpge_t (tgt := 28) X dX3_digitsAsNumber_7 (by decide) (by decide) ?_
    refine zw_iload_1 X dX3_digitsAsNumber_28 ?_
    exact zw_iret X F dX3_digitsAsNumber_29 rfl (by first | (simp only [sNum, ha4, decide_true, decide_false, Bool.and_true, Bool.true_and, Bool.and_false, Bool.false_and, Bool.or_true, Bool.true_or, Bool.or_false, Bool.false_or, Bool.not_true, Bool.not_false, if_true, if_false, ite_true, ite_false, Bool.false_eq_true, not_true_eq_false, not_false_eq_true, bI_t, bI_f, decide_eq_true_eq, reduceCtorEq]; done) | (simp [sNum, ha4]; done) | simp_all) (rfl)
set_option maxRecDepth 20000 in
set_option maxHeartbeats 4000000 in
theorem t_X3_twosInOneCompartment {σ : St} : Ct MX3_twosInOneCompartment [.ref 19] σ (some (.int (sTwo σ))) (σ) := by
  refine ct_of (ls0 := [some (.ref 19), none, none, none, none]) ok_MX3_twosInOneCompartment rfl (Nat.le_of_ble_eq_true rfl) rfl ?_
  intro g X F
  refine zw_iconst (v := 0) X dX3_twosInOneCompartment_0 ik_0 ?_
  refine zw_istore_1 X dX3_twosInOneCompartment_1 ?_
  refine zw_iconst (v := 1) X dX3_twosInOneCompartment_2 ik_1 ?_
  refine zw_istore_2 X dX3_twosInOneCompartment_3 ?_
  refine zw_iconst (v := 0) X dX3_twosInOneCompartment_4 ik_0 ?_
  refine zw_istore_3 X dX3_twosInOneCompartment_5 ?_
  refine zw_fg_4 ?_
  refine zloop (α := Int32 × Int32) (S := fun n a => ∀ (v6_1 : Int32) (v6_2 : Int32) (v6_3 : Int32), v6_1 = a.1 → v6_2 = a.2 → v6_3 = nI n → ZW g 6 [some (.ref 19), some (.int v6_1), some (.int v6_2), some (.int v6_3), none] [] σ) (N := 6) (f := (twoO (fun i j => decide (σ 20 i = σ 20 j)))) (a0 := ((0, 1) : Int32 × Int32)) (fun n6 a6 hn6 ha6 ih6 v6_1 v6_2 v6_3 hv6_1 hv6_2 hv6_3 => ?_) (fun a6 ha6 v6_1 v6_2 v6_3 hv6_1 hv6_2 hv6_3 => ?_) _ _ _ rfl rfl rfl
  · subst hv6_1 hv6_2 hv6_3
    refine zw_iload_3 X dX3_twosInOneCompartment_6 ?_
    refine zw_bipush (v := 6) X dX3_twosInOneCompartment_7 bk_6 ?_
    refine zw_icmpge_f (tgt := 64) X dX3_twosInOneCompartment_9 (by decide) (nI_lt hn6 (by decide)) ?_
    refine zw_iload_3 X dX3_twosInOneCompartment_12 ?_
    refine zw_iconst (v := 1) X dX3_twosInOneCompartment_13 ik_1 ?_
    refine zw_iadd X dX3_twosInOneCompartment_14 ?_
    refine zw_istore_4 X dX3_twosInOneCompartment_15 ?_
    refine zloop (α := Int32 × Int32) (S := fun n a => ∀ (v17_1 : Int32) (v17_2 : Int32) (v17_4 : Int32), v17_1 = a.1 → v17_2 = a.2 → v17_4 = nI (n6 + 1 + n) → ZW g 17 [some (.ref 19), some (.int v17_1), some (.int v17_2), some (.int (nI n6)), some (.int v17_4)] [] σ) (N := (5 - n6)) (f := (twoI (fun i j => decide (σ 20 i = σ 20 j)) n6)) (a0 := a6) (fun n17 a17 hn17 ha17 ih17 v17_1 v17_2 v17_4 hv17_1 hv17_2 hv17_4 => ?_) (fun a17 ha17 v17_1 v17_2 v17_4 hv17_1 hv17_2 hv17_4 => ?_) _ _ _ rfl rfl (nI_1 n6)
    · subst hv17_1 hv17_2 hv17_4
      refine zw_iload_4 X dX3_twosInOneCompartment_17 ?_
      refine zw_bipush (v := 6) X dX3_twosInOneCompartment_19 bk_6 ?_
      refine zw_icmpge_f (tgt := 58) X dX3_twosInOneCompartment_21 (by decide) (nI_lt (b := 6) (by omega) (by decide)) ?_
      refine zw_iload_1 X dX3_twosInOneCompartment_24 ?_
      refine zw_aload_0 X dX3_twosInOneCompartment_25 ?_
      refine zw_getR X dX3_twosInOneCompartment_26 fl_X3_9 ck_X3 sh_19 rfl ?_
      refine zw_iload_3 X dX3_twosInOneCompartment_29 ?_
      refine zw_ialdN X dX3_twosInOneCompartment_30 sh_20 hn6 (by decide) ?_
      refine zw_aload_0 X dX3_twosInOneCompartment_31 ?_
      refine zw_getR X dX3_twosInOneCompartment_32 fl_X3_9 ck_X3 sh_19 rfl ?_
      refine zw_iload_4 X dX3_twosInOneCompartment_35 ?_
      refine zw_ialdN X dX3_twosInOneCompartment_37 sh_20 (show n6 + 1 + n17 < 6 by omega) (by decide) ?_
      refine zw_icmpne (tgt := 45) X dX3_twosInOneCompartment_38 (by decide) (fun c_38 => ?_) (fun c_38 => ?_)
      · refine zw_iconst (v := 0) X dX3_twosInOneCompartment_45 ik_0 ?_
        refine zw_ior X dX3_twosInOneCompartment_46 ?_
        refine zw_istore_1 X dX3_twosInOneCompartment_47 ?_
        refine zw_iload_2 X dX3_twosInOneCompartment_48 ?_
        refine zw_iconst (v := 1) X dX3_twosInOneCompartment_49 ik_1 ?_
        refine zw_ishl X dX3_twosInOneCompartment_50 ?_
        refine zw_istore_2 X dX3_twosInOneCompartment_51 ?_
        refine zw_iinc_4_p1 X dX3_twosInOneCompartment_52 ?_
        refine zw_goto (tgt := 17) X dX3_twosInOneCompartment_55 (by decide) ?_
        exact ih17 _ _ _ (by first | (simp only [twoI, c_38, decide_true, decide_false, Bool.and_true, Bool.true_and, Bool.and_false, Bool.false_and, Bool.or_true, Bool.true_or, Bool.or_false, Bool.false_or, Bool.not_true, Bool.not_false, if_true, if_false, ite_true, ite_false, Bool.false_eq_true, not_true_eq_false, not_false_eq_true, bI_t, bI_f, decide_eq_true_eq, reduceCtorEq]; done) | (simp [twoI, c_38]; done) | simp_all) (by first | (simp only [twoI, c_38, decide_true, decide_false, Bool.and_true, Bool.true_and, Bool.and_false, Bool.false_and, Bool.or_true, Bool.true_or, Bool.or_false, Bool.false_or, Bool.not_true, Bool.not_false, if_true, if_false, ite_true, ite_false, Bool.false_eq_true, not_true_eq_false, not_false_eq_true, bI_t, bI_f, decide_eq_true_eq, reduceCtorEq]; done) | (simp [twoI, c_38]; done) | simp_all) (nI_1 _)
      · refine zw_iload_2 X dX3_twosInOneCompartment_41 ?_
        refine zw_goto (tgt := 46) X dX3_twosInOneCompartment_42 (by decide) ?_
        refine zw_ior X dX3_twosInOneCompartment_46 ?_
        refine zw_istore_1 X dX3_twosInOneCompartment_47 ?_
        refine zw_iload_2 X dX3_twosInOneCompartment_48 ?_
        refine zw_iconst (v := 1) X dX3_twosInOneCompartment_49 ik_1 ?_
        refine zw_ishl X dX3_twosInOneCompartment_50 ?_
        refine zw_istore_2 X dX3_twosInOneCompartment_51 ?_
        refine zw_iinc_4_p1 X dX3_twosInOneCompartment_52 ?_
        refine zw_goto (tgt := 17) X dX3_twosInOneCompartment_55 (by decide) ?_
        exact ih17 _ _ _ (by first | (simp only [twoI, eq_true c_38, decide_true, decide_false, Bool.and_true, Bool.true_and, Bool.and_false, Bool.false_and, Bool.or_true, Bool.true_or, Bool.or_false, Bool.false_or, Bool.not_true, Bool.not_false, if_true, if_false, ite_true, ite_false, Bool.false_eq_true, not_true_eq_false, not_false_eq_true, bI_t, bI_f, decide_eq_true_eq, reduceCtorEq]; done) | (simp [twoI, eq_true c_38]; done) | simp_all) (by first | (simp only [twoI, eq_true c_38, decide_true, decide_false, Bool.and_true, Bool.true_and, Bool.and_false, Bool.false_and, Bool.or_true, Bool.true_or, Bool.or_false, Bool.false_or, Bool.not_true, Bool.not_false, if_true, if_false, ite_true, ite_false, Bool.false_eq_true, not_true_eq_false, not_false_eq_true, bI_t, bI_f, decide_eq_true_eq, reduceCtorEq]; done) | (simp [twoI, eq_true c_38]; done) | simp_all) (nI_1 _)
    · subst hv17_1 hv17_2 hv17_4
      refine zw_iload_4 X dX3_twosInOneCompartment_17 ?_
      refine zw_bipush (v := 6) X dX3_twosInOneCompartment_19 bk_6 ?_
      refine zw_icmpge_t (tgt := 58) X dX3_twosInOneCompartment_21 (by decide) (nI_nlt (a := n6 + 1 + (5 - n6)) (b := 6) (by omega) (by omega)) ?_
      refine zw_iinc_3_p1 X dX3_twosInOneCompartment_58 ?_
      refine zw_goto (tgt := 6) X dX3_twosInOneCompartment_61 (by decide) ?_
      refine zw_fg_4 ?_
      exact ih6 _ _ _ (by first | (simp only [twoO, ha17, decide_true, decide_false, Bool.and_true, Bool.true_and, Bool.and_false, Bool.false_and, Bool.or_true, Bool.true_or, Bool.or_false, Bool.false_or, Bool.not_true, Bool.not_false, if_true, if_false, ite_true, ite_false, Bool.false_eq_true, not_true_eq_false, not_false_eq_true, bI_t, bI_f, decide_eq_true_eq, reduceCtorEq]; done) | (simp [twoO, ha17]; done) | simp_all) (by first | (simp only [twoO, ha17, decide_true, decide_false, Bool.and_true, Bool.true_and, Bool.and_false, Bool.false_and, Bool.or_true, Bool.true_or, Bool.or_false, Bool.false_or, Bool.not_true, Bool.not_false, if_true, if_false, ite_true, ite_false, Bool.false_eq_true, not_true_eq_false, not_false_eq_true, bI_t, bI_f, decide_eq_true_eq, reduceCtorEq]; done) | (simp [twoO, ha17]; done) | simp_all) (nI_1 n6)
  · subst hv6_1 hv6_2 hv6_3
    refine zw_iload_3 X dX3_twosInOneCompartment_6 ?_
    refine zw_bipush (v := 6) X dX3_twosInOneCompartment_7 bk_6 ?_
    refine zw_icmpge_t (tgt := 64) X dX3_twosInOneCompartment_9 (by decide) (by decide) ?_
    refine zw_iload_1 X dX3_twosInOneCompartment_64 ?_
    exact zw_iret X F dX3_twosInOneCompartment_65 rfl (by first | (simp only [sTwo, twos, ha6, decide_true, decide_false, Bool.and_true, Bool.true_and, Bool.and_false, Bool.false_and, Bool.or_true, Bool.true_or, Bool.or_false, Bool.false_or, Bool.not_true, Bool.not_false, if_true, if_false, ite_true, ite_false, Bool.false_eq_true, not_true_eq_false, not_false_eq_true, bI_t, bI_f, decide_eq_true_eq, reduceCtorEq]; done) | (simp [sTwo, twos, ha6]; done) | simp_all) (rfl)
set_option maxRecDepth 20000 in
set_option maxHeartbeats 4000000 in
theorem t_X3_meetableTwos {σ : St} {k : Nat} (hT : isT k) : Ct MX3_meetableTwos [.ref k] σ (some (.int (sMeet σ k))) (σ) := by
  refine ct_of (ls0 := [some (.ref k), none, none, none, none]) ok_MX3_meetableTwos rfl (Nat.le_of_ble_eq_true rfl) rfl ?_
  intro g X F
  refine zw_iconst (v := 0) X dX3_meetableTwos_0 ik_0 ?_
  refine zw_istore_1 X dX3_meetableTwos_1 ?_
  refine zw_iconst (v := 1) X dX3_meetableTwos_2 ik_1 ?_
  refine zw_istore_2 X dX3_meetableTwos_3 ?_
  refine zw_iconst (v := 0) X dX3_meetableTwos_4 ik_0 ?_
  refine zw_istore_3 X dX3_meetableTwos_5 ?_
  refine zw_fg_4 ?_
  refine zloop (α := Int32 × Int32) (S := fun n a => ∀ (v6_1 : Int32) (v6_2 : Int32) (v6_3 : Int32), v6_1 = a.1 → v6_2 = a.2 → v6_3 = nI n → ZW g 6 [some (.ref k), some (.int v6_1), some (.int v6_2), some (.int v6_3), none] [] σ) (N := 6) (f := (twoO (fun i j => ttog σ k (nI i) (nI j)))) (a0 := ((0, 1) : Int32 × Int32)) (fun n6 a6 hn6 ha6 ih6 v6_1 v6_2 v6_3 hv6_1 hv6_2 hv6_3 => ?_) (fun a6 ha6 v6_1 v6_2 v6_3 hv6_1 hv6_2 hv6_3 => ?_) _ _ _ rfl rfl rfl
  · subst hv6_1 hv6_2 hv6_3
    refine zw_iload_3 X dX3_meetableTwos_6 ?_
    refine zw_bipush (v := 6) X dX3_meetableTwos_7 bk_6 ?_
    refine zw_icmpge_f (tgt := 58) X dX3_meetableTwos_9 (by decide) (nI_lt hn6 (by decide)) ?_
    refine zw_iload_3 X dX3_meetableTwos_12 ?_
    refine zw_iconst (v := 1) X dX3_meetableTwos_13 ik_1 ?_
    refine zw_iadd X dX3_meetableTwos_14 ?_
    refine zw_istore_4 X dX3_meetableTwos_15 ?_
    refine zloop (α := Int32 × Int32) (S := fun n a => ∀ (v17_1 : Int32) (v17_2 : Int32) (v17_4 : Int32), v17_1 = a.1 → v17_2 = a.2 → v17_4 = nI (n6 + 1 + n) → ZW g 17 [some (.ref k), some (.int v17_1), some (.int v17_2), some (.int (nI n6)), some (.int v17_4)] [] σ) (N := (5 - n6)) (f := (twoI (fun i j => ttog σ k (nI i) (nI j)) n6)) (a0 := a6) (fun n17 a17 hn17 ha17 ih17 v17_1 v17_2 v17_4 hv17_1 hv17_2 hv17_4 => ?_) (fun a17 ha17 v17_1 v17_2 v17_4 hv17_1 hv17_2 hv17_4 => ?_) _ _ _ rfl rfl (nI_1 n6)
    · subst hv17_1 hv17_2 hv17_4
      refine zw_iload_4 X dX3_meetableTwos_17 ?_
      refine zw_bipush (v := 6) X dX3_meetableTwos_19 bk_6 ?_
      refine zw_icmpge_f (tgt := 52) X dX3_meetableTwos_21 (by decide) (nI_lt (b := 6) (by omega) (by decide)) ?_
      refine zw_iload_1 X dX3_meetableTwos_24 ?_
      refine zw_aload_0 X dX3_meetableTwos_25 ?_
      refine zw_iload_3 X dX3_meetableTwos_26 ?_
      refine zw_iload_4 X dX3_meetableTwos_27 ?_
      refine zw_cV_iii X dX3_meetableTwos_29 lk_X3_52 ok_MX5_rideTogether vi_MX5_rideTogether rm_X3_meetableTwos_X5_rideTogether hT.1 rfl (Nat.le_of_ble_eq_true rfl) (t_X5_rideTogether hT) ?_
      refine zw_ifeqB (tgt := 39) X dX3_meetableTwos_32 (by decide) (fun c_32 => ?_) (fun c_32 => ?_)
      · refine zw_iconst (v := 0) X dX3_meetableTwos_39 ik_0 ?_
        refine zw_ior X dX3_meetableTwos_40 ?_
        refine zw_istore_1 X dX3_meetableTwos_41 ?_
        refine zw_iload_2 X dX3_meetableTwos_42 ?_
        refine zw_iconst (v := 1) X dX3_meetableTwos_43 ik_1 ?_
        refine zw_ishl X dX3_meetableTwos_44 ?_
        refine zw_istore_2 X dX3_meetableTwos_45 ?_
        refine zw_iinc_4_p1 X dX3_meetableTwos_46 ?_
        refine zw_goto (tgt := 17) X dX3_meetableTwos_49 (by decide) ?_
        exact ih17 _ _ _ (by first | (simp only [twoI, c_32, decide_true, decide_false, Bool.and_true, Bool.true_and, Bool.and_false, Bool.false_and, Bool.or_true, Bool.true_or, Bool.or_false, Bool.false_or, Bool.not_true, Bool.not_false, if_true, if_false, ite_true, ite_false, Bool.false_eq_true, not_true_eq_false, not_false_eq_true, bI_t, bI_f, decide_eq_true_eq, reduceCtorEq]; done) | (simp [twoI, c_32]; done) | simp_all) (by first | (simp only [twoI, c_32, decide_true, decide_false, Bool.and_true, Bool.true_and, Bool.and_false, Bool.false_and, Bool.or_true, Bool.true_or, Bool.or_false, Bool.false_or, Bool.not_true, Bool.not_false, if_true, if_false, ite_true, ite_false, Bool.false_eq_true, not_true_eq_false, not_false_eq_true, bI_t, bI_f, decide_eq_true_eq, reduceCtorEq]; done) | (simp [twoI, c_32]; done) | simp_all) (nI_1 _)
      · refine zw_iload_2 X dX3_meetableTwos_35 ?_
        refine zw_goto (tgt := 40) X dX3_meetableTwos_36 (by decide) ?_
        refine zw_ior X dX3_meetableTwos_40 ?_
        refine zw_istore_1 X dX3_meetableTwos_41 ?_
        refine zw_iload_2 X dX3_meetableTwos_42 ?_
        refine zw_iconst (v := 1) X dX3_meetableTwos_43 ik_1 ?_
        refine zw_ishl X dX3_meetableTwos_44 ?_
        refine zw_istore_2 X dX3_meetableTwos_45 ?_
        refine zw_iinc_4_p1 X dX3_meetableTwos_46 ?_
        refine zw_goto (tgt := 17) X dX3_meetableTwos_49 (by decide) ?_
        exact ih17 _ _ _ (by first | (simp only [twoI, c_32, decide_true, decide_false, Bool.and_true, Bool.true_and, Bool.and_false, Bool.false_and, Bool.or_true, Bool.true_or, Bool.or_false, Bool.false_or, Bool.not_true, Bool.not_false, if_true, if_false, ite_true, ite_false, Bool.false_eq_true, not_true_eq_false, not_false_eq_true, bI_t, bI_f, decide_eq_true_eq, reduceCtorEq]; done) | (simp [twoI, c_32]; done) | simp_all) (by first | (simp only [twoI, c_32, decide_true, decide_false, Bool.and_true, Bool.true_and, Bool.and_false, Bool.false_and, Bool.or_true, Bool.true_or, Bool.or_false, Bool.false_or, Bool.not_true, Bool.not_false, if_true, if_false, ite_true, ite_false, Bool.false_eq_true, not_true_eq_false, not_false_eq_true, bI_t, bI_f, decide_eq_true_eq, reduceCtorEq]; done) | (simp [twoI, c_32]; done) | simp_all) (nI_1 _)
    · subst hv17_1 hv17_2 hv17_4
      refine zw_iload_4 X dX3_meetableTwos_17 ?_
      refine zw_bipush (v := 6) X dX3_meetableTwos_19 bk_6 ?_
      refine zw_icmpge_t (tgt := 52) X dX3_meetableTwos_21 (by decide) (nI_nlt (a := n6 + 1 + (5 - n6)) (b := 6) (by omega) (by omega)) ?_
      refine zw_iinc_3_p1 X dX3_meetableTwos_52 ?_
      refine zw_goto (tgt := 6) X dX3_meetableTwos_55 (by decide) ?_
      refine zw_fg_4 ?_
      exact ih6 _ _ _ (by first | (simp only [twoO, ha17, decide_true, decide_false, Bool.and_true, Bool.true_and, Bool.and_false, Bool.false_and, Bool.or_true, Bool.true_or, Bool.or_false, Bool.false_or, Bool.not_true, Bool.not_false, if_true, if_false, ite_true, ite_false, Bool.false_eq_true, not_true_eq_false, not_false_eq_true, bI_t, bI_f, decide_eq_true_eq, reduceCtorEq]; done) | (simp [twoO, ha17]; done) | simp_all) (by first | (simp only [twoO, ha17, decide_true, decide_false, Bool.and_true, Bool.true_and, Bool.and_false, Bool.false_and, Bool.or_true, Bool.true_or, Bool.or_false, Bool.false_or, Bool.not_true, Bool.not_false, if_true, if_false, ite_true, ite_false, Bool.false_eq_true, not_true_eq_false, not_false_eq_true, bI_t, bI_f, decide_eq_true_eq, reduceCtorEq]; done) | (simp [twoO, ha17]; done) | simp_all) (nI_1 n6)
  · subst hv6_1 hv6_2 hv6_3
    refine zw_iload_3 X dX3_meetableTwos_6 ?_
    refine zw_bipush (v := 6) X dX3_meetableTwos_7 bk_6 ?_
    refine zw_icmpge_t (tgt := 58) X dX3_meetableTwos_9 (by decide) (by decide) ?_
    refine zw_iload_1 X dX3_meetableTwos_58 ?_
    exact zw_iret X F dX3_meetableTwos_59 rfl (by first | (simp only [sMeet, twos, ha6, decide_true, decide_false, Bool.and_true, Bool.true_and, Bool.and_false, Bool.false_and, Bool.or_true, Bool.true_or, Bool.or_false, Bool.false_or, Bool.not_true, Bool.not_false, if_true, if_false, ite_true, ite_false, Bool.false_eq_true, not_true_eq_false, not_false_eq_true, bI_t, bI_f, decide_eq_true_eq, reduceCtorEq]; done) | (simp [sMeet, twos, ha6]; done) | simp_all) (rfl)
set_option maxRecDepth 20000 in
set_option maxHeartbeats 4000000 in
theorem t_X3_countWays {σ : St} {ap to : Int32} : Ct MX3_countWays [.ref 19, .ref 1, .int ap, .int to] σ (none) (sCnt σ ap to) := by
  refine ct_of (ls0 := [some (.ref 19), some (.ref 1), some (.int ap), some (.int to), none, none, none, none, none]) ok_MX3_countWays rfl (Nat.le_of_ble_eq_true rfl) rfl ?_
  intro g X F
  refine zw_aload_0 X dX3_countWays_0 ?_
  refine zw_iconst (v := 0) X dX3_countWays_1 ik_0 ?_
  refine zw_put X dX3_countWays_2 fl_X3_15 ck_X3 ft_3_0 sh_19 rfl ?_
  refine zw_aload_0 X dX3_countWays_5 ?_
  refine zw_bipush (v := -6) X dX3_countWays_6 bk_m6 ?_
  refine zw_put X dX3_countWays_8 fl_X3_19 ck_X3 ft_3_1 sh_19 rfl ?_
  refine zw_aload_0 X dX3_countWays_11 ?_
  refine zw_aload_1 X dX3_countWays_12 ?_
  refine zw_cV_ni X dX3_countWays_13 lk_X3_22 ok_MX5_ridersOfLine vi_MX5_ridersOfLine rm_X3_countWays_X5_ridersOfLine sh_1 rfl (Nat.le_of_ble_eq_true rfl) (t_X5_ridersOfLine isT_1) ?_
  refine zw_put X dX3_countWays_16 fl_X3_28 ck_X3 ft_3_2 sh_19 rfl ?_
  refine zw_aload_1 X dX3_countWays_19 ?_
  refine zw_cS_ri X dX3_countWays_20 lk_X3_31 ok_MX3_meetableTwos st_MX3_meetableTwos rm_X3_countWays_X3_meetableTwos (Nat.le_of_ble_eq_true rfl) (t_X3_meetableTwos isT_1) ?_
  refine zw_istore_4 X dX3_countWays_23 ?_
  refine zw_iload_3 X dX3_countWays_25 ?_
  refine zw_iload_4 X dX3_countWays_26 ?_
  refine zw_iconst (v := -1) X dX3_countWays_28 ik_m1 ?_
  refine zw_ixor X dX3_countWays_29 ?_
  refine zw_iand X dX3_countWays_30 ?_
  refine zw_ifeq (tgt := 35) X dX3_countWays_31 (by decide) (fun c_31 => ?_) (fun c_31 => ?_)
  · refine zw_iload_2 X dX3_countWays_35 ?_
    refine zw_iload_4 X dX3_countWays_36 ?_
    refine zw_iand X dX3_countWays_38 ?_
    refine zw_istore_5 X dX3_countWays_39 ?_
    refine zw_aload_0 X dX3_countWays_41 ?_
    refine zw_cV_ni X dX3_countWays_42 lk_X3_35 ok_MX3_waysInAll vi_MX3_waysInAll rm_X3_countWays_X3_waysInAll sh_19 rfl (Nat.le_of_ble_eq_true rfl) t_X3_waysInAll ?_
    refine zw_istore_6 X dX3_countWays_45 ?_
    refine zw_iconst (v := 0) X dX3_countWays_47 ik_0 ?_
    refine zw_istore_7 X dX3_countWays_48 ?_
    refine zw_fg_8 ?_
    refine zloop (α := St) (S := fun n a => ∀ (s50 : St) (v50_7 : Int32), s50 = a → v50_7 = nI n → ZW g 50 [some (.ref 19), some (.ref 1), some (.int ap), some (.int to), some (.int (sMeet (sB σ) 1)), some (.int (ap &&& sMeet (sB σ) 1)), some (.int (sAll (sB σ))), some (.int v50_7), none] [] s50) (N := (clN (sAll (sB σ)))) (f := (sCst (ap &&& sMeet (sB σ) 1) to)) (a0 := (sB σ)) (fun n50 a50 hn50 ha50 ih50 s50 v50_7 hs50 hv50_7 => ?_) (fun a50 ha50 s50 v50_7 hs50 hv50_7 => ?_) _ _ rfl rfl
    · subst hs50 hv50_7
      refine zw_iload_7 X dX3_countWays_50 ?_
      refine zw_iload_6 X dX3_countWays_52 ?_
      refine zw_icmpge_f (tgt := 124) X dX3_countWays_54 (by decide) ((clN_lt (Nat.le_of_lt hn50)).mpr hn50) ?_
      refine zw_aload_0 X dX3_countWays_57 ?_
      refine zw_iload_7 X dX3_countWays_58 ?_
      refine zw_cV_iv X dX3_countWays_60 lk_X3_38 ok_MX3_spread vi_MX3_spread rm_X3_countWays_X3_spread sh_19 rfl (Nat.le_of_ble_eq_true rfl) t_X3_spread ?_
      refine zw_aload_0 X dX3_countWays_63 ?_
      refine zw_cV_ni X dX3_countWays_64 lk_X3_42 ok_MX3_twosInOneCompartment vi_MX3_twosInOneCompartment rm_X3_countWays_X3_twosInOneCompartment sh_19 rfl (Nat.le_of_ble_eq_true rfl) t_X3_twosInOneCompartment ?_
      refine zw_istore_8 X dX3_countWays_67 ?_
      refine zw_iload_8 X dX3_countWays_69 ?_
      refine zw_iload_5 X dX3_countWays_71 ?_
      refine zw_iand X dX3_countWays_73 ?_
      refine zw_ifne (tgt := 118) X dX3_countWays_74 (by decide) (fun c_74 => ?_) (fun c_74 => ?_)
      · refine zw_iinc_7_p1 X dX3_countWays_118 ?_
        refine zw_goto (tgt := 50) X dX3_countWays_121 (by decide) ?_
        refine zw_fg_8 ?_
        exact ih50 _ _ (by first | (simp only [sCst, sC1, sC2, sC3, eq_true c_31, c_74, decide_true, decide_false, Bool.and_true, Bool.true_and, Bool.and_false, Bool.false_and, Bool.or_true, Bool.true_or, Bool.or_false, Bool.false_or, Bool.not_true, Bool.not_false, if_true, if_false, ite_true, ite_false, Bool.false_eq_true, not_true_eq_false, not_false_eq_true, bI_t, bI_f, decide_eq_true_eq, reduceCtorEq]; done) | (simp [sCst, sC1, sC2, sC3, eq_true c_31, c_74]; done) | simp_all) (nI_1 n50)
      · refine zw_iload_3 X dX3_countWays_77 ?_
        refine zw_iload_8 X dX3_countWays_78 ?_
        refine zw_iconst (v := -1) X dX3_countWays_80 ik_m1 ?_
        refine zw_ixor X dX3_countWays_81 ?_
        refine zw_iand X dX3_countWays_82 ?_
        refine zw_ifne (tgt := 118) X dX3_countWays_83 (by decide) (fun c_83 => ?_) (fun c_83 => ?_)
        · refine zw_iinc_7_p1 X dX3_countWays_118 ?_
          refine zw_goto (tgt := 50) X dX3_countWays_121 (by decide) ?_
          refine zw_fg_8 ?_
          exact ih50 _ _ (by first | (simp only [sCst, sC1, sC2, sC3, eq_true c_31, eq_true c_74, c_83, decide_true, decide_false, Bool.and_true, Bool.true_and, Bool.and_false, Bool.false_and, Bool.or_true, Bool.true_or, Bool.or_false, Bool.false_or, Bool.not_true, Bool.not_false, if_true, if_false, ite_true, ite_false, Bool.false_eq_true, not_true_eq_false, not_false_eq_true, bI_t, bI_f, decide_eq_true_eq, reduceCtorEq]; done) | (simp [sCst, sC1, sC2, sC3, eq_true c_31, eq_true c_74, c_83]; done) | simp_all) (nI_1 n50)
        · refine zw_aload_0 X dX3_countWays_86 ?_
          refine zw_aload_0 X dX3_countWays_87 ?_
          refine zw_getI X dX3_countWays_88 fl_X3_15 ck_X3 sh_19 rfl ?_
          refine zw_ifne (tgt := 101) X dX3_countWays_91 (by decide) (fun c_91 => ?_) (fun c_91 => ?_)
          · refine zw_aload_0 X dX3_countWays_101 ?_
            refine zw_getI X dX3_countWays_102 fl_X3_19 ck_X3 sh_19 rfl ?_
            refine zw_put X dX3_countWays_105 fl_X3_19 ck_X3 ft_3_1 sh_19 rfl ?_
            refine zw_aload_0 X dX3_countWays_108 ?_
            refine zw_dup_r X dX3_countWays_109 ?_
            refine zw_getI X dX3_countWays_110 fl_X3_15 ck_X3 sh_19 rfl ?_
            refine zw_iconst (v := 1) X dX3_countWays_113 ik_1 ?_
            refine zw_iadd X dX3_countWays_114 ?_
            refine zw_put X dX3_countWays_115 fl_X3_15 ck_X3 ft_3_0 sh_19 rfl ?_
            refine zw_iinc_7_p1 X dX3_countWays_118 ?_
            refine zw_goto (tgt := 50) X dX3_countWays_121 (by decide) ?_
            refine zw_fg_8 ?_
            exact ih50 _ _ (by first | (simp only [sCst, sC1, sC2, sC3, eq_true c_31, eq_true c_74, eq_true c_83, c_91, decide_true, decide_false, Bool.and_true, Bool.true_and, Bool.and_false, Bool.false_and, Bool.or_true, Bool.true_or, Bool.or_false, Bool.false_or, Bool.not_true, Bool.not_false, if_true, if_false, ite_true, ite_false, Bool.false_eq_true, not_true_eq_false, not_false_eq_true, bI_t, bI_f, decide_eq_true_eq, reduceCtorEq]; done) | (simp [sCst, sC1, sC2, sC3, eq_true c_31, eq_true c_74, eq_true c_83, c_91]; done) | simp_all) (nI_1 n50)
          · refine zw_aload_0 X dX3_countWays_94 ?_
            refine zw_cV_ni X dX3_countWays_95 lk_X3_45 ok_MX3_digitsAsNumber vi_MX3_digitsAsNumber rm_X3_countWays_X3_digitsAsNumber sh_19 rfl (Nat.le_of_ble_eq_true rfl) t_X3_digitsAsNumber ?_
            refine zw_goto (tgt := 105) X dX3_countWays_98 (by decide) ?_
            refine zw_put X dX3_countWays_105 fl_X3_19 ck_X3 ft_3_1 sh_19 rfl ?_
            refine zw_aload_0 X dX3_countWays_108 ?_
            refine zw_dup_r X dX3_countWays_109 ?_
            refine zw_getI X dX3_countWays_110 fl_X3_15 ck_X3 sh_19 rfl ?_
            refine zw_iconst (v := 1) X dX3_countWays_113 ik_1 ?_
            refine zw_iadd X dX3_countWays_114 ?_
            refine zw_put X dX3_countWays_115 fl_X3_15 ck_X3 ft_3_0 sh_19 rfl ?_
            refine zw_iinc_7_p1 X dX3_countWays_118 ?_
            refine zw_goto (tgt := 50) X dX3_countWays_121 (by decide) ?_
            refine zw_fg_8 ?_
            exact ih50 _ _ (by first | (simp only [sCst, sC1, sC2, sC3, eq_true c_31, eq_true c_74, eq_true c_83, eq_true c_91, decide_true, decide_false, Bool.and_true, Bool.true_and, Bool.and_false, Bool.false_and, Bool.or_true, Bool.true_or, Bool.or_false, Bool.false_or, Bool.not_true, Bool.not_false, if_true, if_false, ite_true, ite_false, Bool.false_eq_true, not_true_eq_false, not_false_eq_true, bI_t, bI_f, decide_eq_true_eq, reduceCtorEq]; done) | (simp [sCst, sC1, sC2, sC3, eq_true c_31, eq_true c_74, eq_true c_83, eq_true c_91]; done) | simp_all) (nI_1 n50)
    · subst hs50 hv50_7
      refine zw_iload_7 X dX3_countWays_50 ?_
      refine zw_iload_6 X dX3_countWays_52 ?_
      refine zw_icmpge_t (tgt := 124) X dX3_countWays_54 (by decide) (fun h => Nat.lt_irrefl _ ((clN_lt (Nat.le_refl _)).mp h)) ?_
      exact zw_vret X F dX3_countWays_124 rfl (by simp only [sCnt]; rw [if_pos]; exact ha50; exact c_31)
  · exact zw_vret X F dX3_countWays_34 rfl (by simp only [sCnt]; rw [if_neg]; rfl; exact c_31)
def isS (k : Nat) : Prop := sh k = .inl (4, [some (k + 1), some (k + 2), none]) ∧ sh (k + 1) = .inr (8, false) ∧ sh (k + 2) = .inr (8, false)
theorem isS_16 : isS 16 := ⟨rfl, rfl, rfl⟩
theorem isS_29 : isS 29 := ⟨rfl, rfl, rfl⟩
theorem isS_39 : isS 39 := ⟨rfl, rfl, rfl⟩
def gcp0 (σ : St) (k j : Nat) : St := ups σ k 2 (σ j 2)
def gcst (k j n : Nat) (τ : St) : St := cpA (cpA τ (k + 1) (j + 1) n) (k + 2) (j + 2) n
def gcopy (σ : St) (k j : Nat) : St := itr (gcst k j) 8 (gcp0 σ k j)
def gAdd1 (σ : St) (m : Int32) : St := ups σ 17 (ix (σ 16 2)) m
def gAdd2 (σ : St) (m t : Int32) : St := ups (gAdd1 σ m) 18 (ix (gAdd1 σ m 16 2)) t
def gAdd (σ : St) (m t : Int32) : St := ups (gAdd2 σ m t) 16 2 (gAdd2 σ m t 16 2 + 1)
def gNum (σ : St) : Nat := min (clN (σ 16 2)) 8
def gSus (σ : St) : Int32 := itr (fun n a => a &&& tcomp σ 1 (σ 18 n) (σ 17 n)) (gNum σ) (trol σ 1)
theorem gN1 {σ : St} {n : Nat} (h : n < gNum σ) : nI n < σ 16 2 := (clN_lt (Nat.le_of_lt (Nat.lt_of_lt_of_le h (Nat.min_le_left _ _)))).mpr (Nat.lt_of_lt_of_le h (Nat.min_le_left _ _))
theorem gN2 {σ : St} {n : Nat} (h : n < gNum σ) : n < 8 := Nat.lt_of_lt_of_le h (Nat.min_le_right _ _)
theorem gN3 {σ : St} (h : nI (gNum σ) < σ 16 2) : ¬ nI (gNum σ) < 8 := by
  have h1 := (clN_lt (Nat.min_le_left (clN (σ 16 2)) 8)).mp h
  have h2 : gNum σ = 8 := by unfold gNum at h1 ⊢; omega
  rw [h2]; decide
set_option maxRecDepth 20000 in
set_option maxHeartbeats 4000000 in
theorem t_X4_copyFrom {σ : St} {k j : Nat} (hS : isS k) (hJ : isS j) : Ct MX4_copyFrom [.ref k, .ref j] σ (none) (gcopy σ k j) := by
  refine ct_of (ls0 := [some (.ref k), some (.ref j), none]) ok_MX4_copyFrom rfl (Nat.le_of_ble_eq_true rfl) rfl ?_
  intro g X F
  refine zw_aload_0 X dX4_copyFrom_0 ?_
  refine zw_aload_1 X dX4_copyFrom_1 ?_
  refine zw_getI X dX4_copyFrom_2 fl_X4_16 ck_X4 hJ.1 rfl ?_
  refine zw_put X dX4_copyFrom_5 fl_X4_16 ck_X4 ft_4_2 hS.1 rfl ?_
  refine zw_iconst (v := 0) X dX4_copyFrom_8 ik_0 ?_
  refine zw_istore_2 X dX4_copyFrom_9 ?_
  refine zloop (α := St) (S := fun n a => ∀ (s10 : St) (v10_2 : Int32), s10 = a → v10_2 = nI n → ZW g 10 [some (.ref k), some (.ref j), some (.int v10_2)] [] s10) (N := 8) (f := (gcst k j)) (a0 := (gcp0 σ k j)) (fun n10 a10 hn10 ha10 ih10 s10 v10_2 hs10 hv10_2 => ?_) (fun a10 ha10 s10 v10_2 hs10 hv10_2 => ?_) _ _ rfl rfl
  · subst hs10 hv10_2
    refine zw_iload_2 X dX4_copyFrom_10 ?_
    refine zw_bipush (v := 8) X dX4_copyFrom_11 bk_8 ?_
    refine zw_icmpge_f (tgt := 46) X dX4_copyFrom_13 (by decide) (nI_lt hn10 (by decide)) ?_
    refine zw_aload_0 X dX4_copyFrom_16 ?_
    refine zw_getR X dX4_copyFrom_17 fl_X4_9 ck_X4 hS.1 rfl ?_
    refine zw_iload_2 X dX4_copyFrom_20 ?_
    refine zw_aload_1 X dX4_copyFrom_21 ?_
    refine zw_getR X dX4_copyFrom_22 fl_X4_9 ck_X4 hJ.1 rfl ?_
    refine zw_iload_2 X dX4_copyFrom_25 ?_
    refine zw_ialdN X dX4_copyFrom_26 hJ.2.1 hn10 (by decide) ?_
    refine zw_iastN X dX4_copyFrom_27 hS.2.1 hn10 (by decide) ?_
    refine zw_aload_0 X dX4_copyFrom_28 ?_
    refine zw_getR X dX4_copyFrom_29 fl_X4_13 ck_X4 hS.1 rfl ?_
    refine zw_iload_2 X dX4_copyFrom_32 ?_
    refine zw_aload_1 X dX4_copyFrom_33 ?_
    refine zw_getR X dX4_copyFrom_34 fl_X4_13 ck_X4 hJ.1 rfl ?_
    refine zw_iload_2 X dX4_copyFrom_37 ?_
    refine zw_ialdN X dX4_copyFrom_38 hJ.2.2 hn10 (by decide) ?_
    refine zw_iastN X dX4_copyFrom_39 hS.2.2 hn10 (by decide) ?_
    refine zw_iinc_2_p1 X dX4_copyFrom_40 ?_
    refine zw_goto (tgt := 10) X dX4_copyFrom_43 (by decide) ?_
    exact ih10 _ _ (by first | (simp only [gcst, cpA, decide_true, decide_false, Bool.and_true, Bool.true_and, Bool.and_false, Bool.false_and, Bool.or_true, Bool.true_or, Bool.or_false, Bool.false_or, Bool.not_true, Bool.not_false, if_true, if_false, ite_true, ite_false, Bool.false_eq_true, not_true_eq_false, not_false_eq_true, bI_t, bI_f, decide_eq_true_eq, reduceCtorEq]; done) | (simp [gcst, cpA]; done) | simp_all) (nI_1 n10)
  · subst hs10 hv10_2
    refine zw_iload_2 X dX4_copyFrom_10 ?_
    refine zw_bipush (v := 8) X dX4_copyFrom_11 bk_8 ?_
    refine zw_icmpge_t (tgt := 46) X dX4_copyFrom_13 (by decide) (by decide) ?_
    exact zw_vret X F dX4_copyFrom_46 rfl (ha10)
set_option maxRecDepth 20000 in
set_option maxHeartbeats 4000000 in
theorem t_X4_add {σ : St} {m t : Int32} : Ct MX4_add [.ref 16, .int m, .int t] σ (some (.int (bI (wIn (σ 16 2) 8)))) (if wIn (σ 16 2) 8 then gAdd σ m t else σ) := by
  refine ct_of (ls0 := [some (.ref 16), some (.int m), some (.int t)]) ok_MX4_add rfl (Nat.le_of_ble_eq_true rfl) rfl ?_
  intro g X F
  refine zw_aload_0 X dX4_add_0 ?_
  refine zw_getI X dX4_add_1 fl_X4_16 ck_X4 sh_16 rfl ?_
  refine zw_iflt (tgt := 16) X dX4_add_4 (by decide) (fun c_4 => ?_) (fun c_4 => ?_)
  · refine zw_iconst (v := 0) X dX4_add_16 ik_0 ?_
    exact zw_zret X F dX4_add_17 rfl (by first | (simp only [wIn, bI_0', bI_1', bI_0, bI_1, bI_inj, c_4, decide_true, decide_false, Bool.and_true, Bool.true_and, Bool.and_false, Bool.false_and, Bool.or_true, Bool.true_or, Bool.or_false, Bool.false_or, Bool.not_true, Bool.not_false, if_true, if_false, ite_true, ite_false, Bool.false_eq_true, not_true_eq_false, not_false_eq_true, bI_t, bI_f, decide_eq_true_eq, reduceCtorEq]; done) | (simp [wIn, bI_0', bI_1', bI_0, bI_1, bI_inj, c_4]; done) | simp_all) (by simp [wIn, gAdd, gAdd1, gAdd2, c_4])
  · refine zw_aload_0 X dX4_add_7 ?_
    refine zw_getI X dX4_add_8 fl_X4_16 ck_X4 sh_16 rfl ?_
    refine zw_bipush (v := 8) X dX4_add_11 bk_8 ?_
    refine zw_icmplt (tgt := 18) X dX4_add_13 (by decide) (fun c_13 => ?_) (fun c_13 => ?_)
    · refine zw_aload_0 X dX4_add_18 ?_
      refine zw_getR X dX4_add_19 fl_X4_9 ck_X4 sh_16 rfl ?_
      refine zw_aload_0 X dX4_add_22 ?_
      refine zw_getI X dX4_add_23 fl_X4_16 ck_X4 sh_16 rfl ?_
      refine zw_iload_1 X dX4_add_26 ?_
      refine zw_iast X dX4_add_27 sh_17 (in8 c_4 c_13) ?_
      refine zw_aload_0 X dX4_add_28 ?_
      refine zw_getR X dX4_add_29 fl_X4_13 ck_X4 sh_16 rfl ?_
      refine zw_aload_0 X dX4_add_32 ?_
      refine zw_getI X dX4_add_33 fl_X4_16 ck_X4 sh_16 rfl ?_
      refine zw_iload_2 X dX4_add_36 ?_
      refine zw_iast X dX4_add_37 sh_18 (in8 c_4 c_13) ?_
      refine zw_aload_0 X dX4_add_38 ?_
      refine zw_dup_r X dX4_add_39 ?_
      refine zw_getI X dX4_add_40 fl_X4_16 ck_X4 sh_16 rfl ?_
      refine zw_iconst (v := 1) X dX4_add_43 ik_1 ?_
      refine zw_iadd X dX4_add_44 ?_
      refine zw_put X dX4_add_45 fl_X4_16 ck_X4 ft_4_2 sh_16 rfl ?_
      refine zw_iconst (v := 1) X dX4_add_48 ik_1 ?_
      exact zw_zret X F dX4_add_49 rfl (by first | (simp only [wIn, bI_0', bI_1', bI_0, bI_1, bI_inj, c_4, c_13, decide_true, decide_false, Bool.and_true, Bool.true_and, Bool.and_false, Bool.false_and, Bool.or_true, Bool.true_or, Bool.or_false, Bool.false_or, Bool.not_true, Bool.not_false, if_true, if_false, ite_true, ite_false, Bool.false_eq_true, not_true_eq_false, not_false_eq_true, bI_t, bI_f, decide_eq_true_eq, reduceCtorEq]; done) | (simp [wIn, bI_0', bI_1', bI_0, bI_1, bI_inj, c_4, c_13]; done) | simp_all) (by simp [wIn, gAdd, gAdd1, gAdd2, c_4, c_13])
    · refine zw_iconst (v := 0) X dX4_add_16 ik_0 ?_
      exact zw_zret X F dX4_add_17 rfl (by first | (simp only [wIn, bI_0', bI_1', bI_0, bI_1, bI_inj, c_4, c_13, decide_true, decide_false, Bool.and_true, Bool.true_and, Bool.and_false, Bool.false_and, Bool.or_true, Bool.true_or, Bool.or_false, Bool.false_or, Bool.not_true, Bool.not_false, if_true, if_false, ite_true, ite_false, Bool.false_eq_true, not_true_eq_false, not_false_eq_true, bI_t, bI_f, decide_eq_true_eq, reduceCtorEq]; done) | (simp [wIn, bI_0', bI_1', bI_0, bI_1, bI_inj, c_4, c_13]; done) | simp_all) (by simp [wIn, gAdd, gAdd1, gAdd2, c_4, c_13])
set_option maxRecDepth 20000 in
set_option maxHeartbeats 4000000 in
theorem t_X4_clear {σ : St} : Ct MX4_clear [.ref 16] σ (some (.int (σ 16 2))) (ups σ 16 2 0) := by
  refine ct_of (ls0 := [some (.ref 16), none]) ok_MX4_clear rfl (Nat.le_of_ble_eq_true rfl) rfl ?_
  intro g X F
  refine zw_aload_0 X dX4_clear_0 ?_
  refine zw_getI X dX4_clear_1 fl_X4_16 ck_X4 sh_16 rfl ?_
  refine zw_istore_1 X dX4_clear_4 ?_
  refine zw_aload_0 X dX4_clear_5 ?_
  refine zw_iconst (v := 0) X dX4_clear_6 ik_0 ?_
  refine zw_put X dX4_clear_7 fl_X4_16 ck_X4 ft_4_2 sh_16 rfl ?_
  refine zw_iload_1 X dX4_clear_10 ?_
  exact zw_iret X F dX4_clear_11 rfl (rfl) (rfl)
set_option maxRecDepth 20000 in
set_option maxHeartbeats 4000000 in
theorem t_X4_suspects {σ : St} : Ct MX4_suspects [.ref 16, .ref 1] σ (some (.int (gSus σ))) (σ) := by
  refine ct_of (ls0 := [some (.ref 16), some (.ref 1), none, none]) ok_MX4_suspects rfl (Nat.le_of_ble_eq_true rfl) rfl ?_
  intro g X F
  refine zw_aload_1 X dX4_suspects_0 ?_
  refine zw_cV_ni X dX4_suspects_1 lk_X4_20 ok_MX5_ridersOfLine vi_MX5_ridersOfLine rm_X4_suspects_X5_ridersOfLine sh_1 rfl (Nat.le_of_ble_eq_true rfl) (t_X5_ridersOfLine isT_1) ?_
  refine zw_istore_2 X dX4_suspects_4 ?_
  refine zw_iconst (v := 0) X dX4_suspects_5 ik_0 ?_
  refine zw_istore_3 X dX4_suspects_6 ?_
  refine zloop (α := Int32) (S := fun n a => ∀ (v7_2 : Int32) (v7_3 : Int32), v7_2 = a → v7_3 = nI n → ZW g 7 [some (.ref 16), some (.ref 1), some (.int v7_2), some (.int v7_3)] [] σ) (N := (gNum σ)) (f := (fun n a => a &&& tcomp σ 1 (σ 18 n) (σ 17 n))) (a0 := (trol σ 1)) (fun n7 a7 hn7 ha7 ih7 v7_2 v7_3 hv7_2 hv7_3 => ?_) (fun a7 ha7 v7_2 v7_3 hv7_2 hv7_3 => ?_) _ _ rfl rfl
  · subst hv7_2 hv7_3
    refine zw_iload_3 X dX4_suspects_7 ?_
    refine zw_aload_0 X dX4_suspects_8 ?_
    refine zw_getI X dX4_suspects_9 fl_X4_16 ck_X4 sh_16 rfl ?_
    refine zw_icmpge_f (tgt := 46) X dX4_suspects_12 (by decide) (gN1 hn7) ?_
    refine zw_iload_3 X dX4_suspects_15 ?_
    refine zw_bipush (v := 8) X dX4_suspects_16 bk_8 ?_
    refine zw_icmpge_f (tgt := 46) X dX4_suspects_18 (by decide) (nI_lt (b := 8) (gN2 hn7) (by decide)) ?_
    refine zw_iload_2 X dX4_suspects_21 ?_
    refine zw_aload_1 X dX4_suspects_22 ?_
    refine zw_aload_0 X dX4_suspects_23 ?_
    refine zw_getR X dX4_suspects_24 fl_X4_13 ck_X4 sh_16 rfl ?_
    refine zw_iload_3 X dX4_suspects_27 ?_
    refine zw_ialdN X dX4_suspects_28 sh_18 (gN2 hn7) (by decide) ?_
    refine zw_aload_0 X dX4_suspects_29 ?_
    refine zw_getR X dX4_suspects_30 fl_X4_9 ck_X4 sh_16 rfl ?_
    refine zw_iload_3 X dX4_suspects_33 ?_
    refine zw_ialdN X dX4_suspects_34 sh_17 (gN2 hn7) (by decide) ?_
    refine zw_cV_iii X dX4_suspects_35 lk_X4_26 ok_MX5_companionsOf vi_MX5_companionsOf rm_X4_suspects_X5_companionsOf sh_1 rfl (Nat.le_of_ble_eq_true rfl) (t_X5_companionsOf isT_1) ?_
    refine zw_iand X dX4_suspects_38 ?_
    refine zw_istore_2 X dX4_suspects_39 ?_
    refine zw_iinc_3_p1 X dX4_suspects_40 ?_
    refine zw_goto (tgt := 7) X dX4_suspects_43 (by decide) ?_
    exact ih7 _ _ (by first | rfl | (simp only [decide_true, decide_false, Bool.and_true, Bool.true_and, Bool.and_false, Bool.false_and, Bool.or_true, Bool.true_or, Bool.or_false, Bool.false_or, Bool.not_true, Bool.not_false, if_true, if_false, ite_true, ite_false, Bool.false_eq_true, not_true_eq_false, not_false_eq_true, bI_t, bI_f, decide_eq_true_eq, reduceCtorEq]; done) | (simp; done) | simp_all) (nI_1 n7)
  · subst hv7_2 hv7_3
    refine zw_iload_3 X dX4_suspects_7 ?_
    refine zw_aload_0 X dX4_suspects_8 ?_
    refine zw_getI X dX4_suspects_9 fl_X4_16 ck_X4 sh_16 rfl ?_
    refine zw_icmpge (tgt := 46) X dX4_suspects_12 (by decide) (fun c_12 => ?_) (fun c_12 => ?_)
    · refine zw_iload_2 X dX4_suspects_46 ?_
      exact zw_iret X F dX4_suspects_47 rfl (by first | (simp only [gSus, ha7, c_12, decide_true, decide_false, Bool.and_true, Bool.true_and, Bool.and_false, Bool.false_and, Bool.or_true, Bool.true_or, Bool.or_false, Bool.false_or, Bool.not_true, Bool.not_false, if_true, if_false, ite_true, ite_false, Bool.false_eq_true, not_true_eq_false, not_false_eq_true, bI_t, bI_f, decide_eq_true_eq, reduceCtorEq]; done) | (simp [gSus, ha7, c_12]; done) | simp_all) (rfl)
    · refine zw_iload_3 X dX4_suspects_15 ?_
      refine zw_bipush (v := 8) X dX4_suspects_16 bk_8 ?_
      refine zw_icmpge_t (tgt := 46) X dX4_suspects_18 (by decide) (gN3 c_12) ?_
      refine zw_iload_2 X dX4_suspects_46 ?_
      exact zw_iret X F dX4_suspects_47 rfl (by first | (simp only [gSus, ha7, c_12, decide_true, decide_false, Bool.and_true, Bool.true_and, Bool.and_false, Bool.false_and, Bool.or_true, Bool.true_or, Bool.or_false, Bool.false_or, Bool.not_true, Bool.not_false, if_true, if_false, ite_true, ite_false, Bool.false_eq_true, not_true_eq_false, not_false_eq_true, bI_t, bI_f, decide_eq_true_eq, reduceCtorEq]; done) | (simp [gSus, ha7, c_12]; done) | simp_all) (rfl)
def taB (σ : St) (x : Int32) : Int32 := 10 * (pSign σ (x + 1) - 48) + pSign σ (x + 2) - 48
def taS (σ : St) (x : Int32) : St := if pSign σ x = 46 then tpas σ 7 else if pDig σ (x + 1) then tsetB σ 7 (pSign σ x - 65) (taB σ x) else if trd σ 7 (pSign σ x - 65) (σ 7 1) then (if decide (pSign σ (x + 1) = 115) && !tmay σ 7 (pSign σ x - 65) then σ else if pSign σ (x + 1) = 99 then tcou σ 7 (pSign σ x - 65) else σ) else σ
def taR (σ : St) (x : Int32) : Int32 := if pSign σ x = 46 then (if decide (σ 7 1 < σ 7 0) then -6 else 3) else if pDig σ (x + 1) then -6 else if trd σ 7 (pSign σ x - 65) (σ 7 1) then (if decide (pSign σ (x + 1) = 115) && !tmay σ 7 (pSign σ x - 65) then 2 else -6) else 1
def tr1 (σ : St) (x : Int32) : St := ups (taS σ x) 15 1 (taR σ x)
def tr2 (σ : St) (x : Int32) : St := ups (tr1 σ x) 15 0 (tr1 σ x 15 0 + 1)
def trGo : Nat → Int32 → St → St
  | 0, _, σ => σ
  | n + 1, x, σ => if x < σ 13 1 then (if tr1 σ x 15 1 = -6 then trGo n (x + pLen (tr2 σ x) x) (tr2 σ x) else tr1 σ x) else σ
def tr0 (σ : St) : St := ups (ups σ 15 0 0) 15 1 (-6)
def trAll (σ : St) : St := trGo 60 0 (tr0 σ)
set_option maxRecDepth 20000 in
set_option maxHeartbeats 4000000 in
theorem t_X6_tryAct {σ : St} {x : Int32} : Ct MX6_tryAct [.ref 13, .int x, .ref 7] σ (some (.int (taR σ x))) (taS σ x) := by
  refine ct_of (ls0 := [some (.ref 13), some (.int x), some (.ref 7), none, none, none]) ok_MX6_tryAct rfl (Nat.le_of_ble_eq_true rfl) rfl ?_
  intro g X F
  refine zw_aload_0 X dX6_tryAct_0 ?_
  refine zw_iload_1 X dX6_tryAct_1 ?_
  refine zw_cV_ii X dX6_tryAct_2 lk_X6_31 ok_MX1_signAt vi_MX1_signAt rm_X6_tryAct_X1_signAt sh_13 rfl (Nat.le_of_ble_eq_true rfl) t_X1_signAt ?_
  refine zw_istore_3 X dX6_tryAct_5 ?_
  refine zw_iload_3 X dX6_tryAct_6 ?_
  refine zw_bipush (v := 46) X dX6_tryAct_7 bk_46 ?_
  refine zw_icmpne (tgt := 26) X dX6_tryAct_9 (by decide) (fun c_9 => ?_) (fun c_9 => ?_)
  · refine zw_iload_3 X dX6_tryAct_26 ?_
    refine zw_bipush (v := 65) X dX6_tryAct_27 bk_65 ?_
    refine zw_isub X dX6_tryAct_29 ?_
    refine zw_istore_4 X dX6_tryAct_30 ?_
    refine zw_aload_0 X dX6_tryAct_32 ?_
    refine zw_iload_1 X dX6_tryAct_33 ?_
    refine zw_iconst (v := 1) X dX6_tryAct_34 ik_1 ?_
    refine zw_iadd X dX6_tryAct_35 ?_
    refine zw_cV_ii X dX6_tryAct_36 lk_X6_31 ok_MX1_signAt vi_MX1_signAt rm_X6_tryAct_X1_signAt sh_13 rfl (Nat.le_of_ble_eq_true rfl) t_X1_signAt ?_
    refine zw_istore_5 X dX6_tryAct_39 ?_
    refine zw_aload_0 X dX6_tryAct_41 ?_
    refine zw_iload_1 X dX6_tryAct_42 ?_
    refine zw_iconst (v := 1) X dX6_tryAct_43 ik_1 ?_
    refine zw_iadd X dX6_tryAct_44 ?_
    refine zw_cV_ii X dX6_tryAct_45 lk_X6_40 ok_MX1_isDigitAt vi_MX1_isDigitAt rm_X6_tryAct_X1_isDigitAt sh_13 rfl (Nat.le_of_ble_eq_true rfl) t_X1_isDigitAt ?_
    refine zw_ifeqB (tgt := 79) X dX6_tryAct_48 (by decide) (fun c_48 => ?_) (fun c_48 => ?_)
    · refine zw_aload_2 X dX6_tryAct_79 ?_
      refine zw_iload_4 X dX6_tryAct_80 ?_
      refine zw_cV_ii X dX6_tryAct_82 lk_X6_48 ok_MX5_ridesNow vi_MX5_ridesNow rm_X6_tryAct_X5_ridesNow sh_7 rfl (Nat.le_of_ble_eq_true rfl) (t_X5_ridesNow isT_7) ?_
      refine zw_ifneB (tgt := 90) X dX6_tryAct_85 (by decide) (fun c_85 => ?_) (fun c_85 => ?_)
      · refine zw_iload_5 X dX6_tryAct_90 ?_
        refine zw_bipush (v := 115) X dX6_tryAct_92 bk_115 ?_
        refine zw_icmpne (tgt := 108) X dX6_tryAct_94 (by decide) (fun c_94 => ?_) (fun c_94 => ?_)
        · refine zw_iload_5 X dX6_tryAct_108 ?_
          refine zw_bipush (v := 99) X dX6_tryAct_110 bk_99 ?_
          refine zw_icmpne (tgt := 121) X dX6_tryAct_112 (by decide) (fun c_112 => ?_) (fun c_112 => ?_)
          · refine zw_bipush (v := -6) X dX6_tryAct_121 bk_m6 ?_
            exact zw_iret X F dX6_tryAct_123 rfl (by first | (simp only [taR, c_9, c_48, c_85, c_94, c_112, decide_true, decide_false, Bool.and_true, Bool.true_and, Bool.and_false, Bool.false_and, Bool.or_true, Bool.true_or, Bool.or_false, Bool.false_or, Bool.not_true, Bool.not_false, if_true, if_false, ite_true, ite_false, Bool.false_eq_true, not_true_eq_false, not_false_eq_true, bI_t, bI_f, decide_eq_true_eq, reduceCtorEq]; done) | (simp [taR, c_9, c_48, c_85, c_94, c_112]; done) | simp_all) (by first | (simp only [taS, taB, c_9, c_48, c_85, c_94, c_112, decide_true, decide_false, Bool.and_true, Bool.true_and, Bool.and_false, Bool.false_and, Bool.or_true, Bool.true_or, Bool.or_false, Bool.false_or, Bool.not_true, Bool.not_false, if_true, if_false, ite_true, ite_false, Bool.false_eq_true, not_true_eq_false, not_false_eq_true, bI_t, bI_f, decide_eq_true_eq, reduceCtorEq]; done) | (simp [taS, taB, c_9, c_48, c_85, c_94, c_112]; done) | simp_all)
          · refine zw_aload_2 X dX6_tryAct_115 ?_
            refine zw_iload_4 X dX6_tryAct_116 ?_
            refine zw_cV_iv X dX6_tryAct_118 lk_X6_54 ok_MX5_takeCough vi_MX5_takeCough rm_X6_tryAct_X5_takeCough sh_7 rfl (Nat.le_of_ble_eq_true rfl) (t_X5_takeCough isT_7) ?_
            refine zw_bipush (v := -6) X dX6_tryAct_121 bk_m6 ?_
            exact zw_iret X F dX6_tryAct_123 rfl (by first | (simp only [taR, c_9, c_48, c_85, c_94, eq_true c_112, decide_true, decide_false, Bool.and_true, Bool.true_and, Bool.and_false, Bool.false_and, Bool.or_true, Bool.true_or, Bool.or_false, Bool.false_or, Bool.not_true, Bool.not_false, if_true, if_false, ite_true, ite_false, Bool.false_eq_true, not_true_eq_false, not_false_eq_true, bI_t, bI_f, decide_eq_true_eq, reduceCtorEq]; done) | (simp [taR, c_9, c_48, c_85, c_94, eq_true c_112]; done) | simp_all) (by first | (simp only [taS, taB, c_9, c_48, c_85, c_94, eq_true c_112, decide_true, decide_false, Bool.and_true, Bool.true_and, Bool.and_false, Bool.false_and, Bool.or_true, Bool.true_or, Bool.or_false, Bool.false_or, Bool.not_true, Bool.not_false, if_true, if_false, ite_true, ite_false, Bool.false_eq_true, not_true_eq_false, not_false_eq_true, bI_t, bI_f, decide_eq_true_eq, reduceCtorEq]; done) | (simp [taS, taB, c_9, c_48, c_85, c_94, eq_true c_112]; done) | simp_all)
        · refine zw_aload_2 X dX6_tryAct_97 ?_
          refine zw_iload_4 X dX6_tryAct_98 ?_
          refine zw_cV_ii X dX6_tryAct_100 lk_X6_51 ok_MX5_maySpeak vi_MX5_maySpeak rm_X6_tryAct_X5_maySpeak sh_7 rfl (Nat.le_of_ble_eq_true rfl) (t_X5_maySpeak isT_7) ?_
          refine zw_ifneB (tgt := 108) X dX6_tryAct_103 (by decide) (fun c_103 => ?_) (fun c_103 => ?_)
          · refine zw_iload_5 X dX6_tryAct_108 ?_
            refine zw_bipush (v := 99) X dX6_tryAct_110 bk_99 ?_
            refine zw_icmpne (tgt := 121) X dX6_tryAct_112 (by decide) (fun c_112 => ?_) (fun c_112 => ?_)
            · refine zw_bipush (v := -6) X dX6_tryAct_121 bk_m6 ?_
              exact zw_iret X F dX6_tryAct_123 rfl (by first | (simp only [taR, c_9, c_48, c_85, eq_true c_94, c_103, c_112, decide_true, decide_false, Bool.and_true, Bool.true_and, Bool.and_false, Bool.false_and, Bool.or_true, Bool.true_or, Bool.or_false, Bool.false_or, Bool.not_true, Bool.not_false, if_true, if_false, ite_true, ite_false, Bool.false_eq_true, not_true_eq_false, not_false_eq_true, bI_t, bI_f, decide_eq_true_eq, reduceCtorEq]; done) | (simp [taR, c_9, c_48, c_85, eq_true c_94, c_103, c_112]; done) | simp_all) (by first | (simp only [taS, taB, c_9, c_48, c_85, eq_true c_94, c_103, c_112, decide_true, decide_false, Bool.and_true, Bool.true_and, Bool.and_false, Bool.false_and, Bool.or_true, Bool.true_or, Bool.or_false, Bool.false_or, Bool.not_true, Bool.not_false, if_true, if_false, ite_true, ite_false, Bool.false_eq_true, not_true_eq_false, not_false_eq_true, bI_t, bI_f, decide_eq_true_eq, reduceCtorEq]; done) | (simp [taS, taB, c_9, c_48, c_85, eq_true c_94, c_103, c_112]; done) | simp_all)
            · refine zw_aload_2 X dX6_tryAct_115 ?_
              refine zw_iload_4 X dX6_tryAct_116 ?_
              refine zw_cV_iv X dX6_tryAct_118 lk_X6_54 ok_MX5_takeCough vi_MX5_takeCough rm_X6_tryAct_X5_takeCough sh_7 rfl (Nat.le_of_ble_eq_true rfl) (t_X5_takeCough isT_7) ?_
              refine zw_bipush (v := -6) X dX6_tryAct_121 bk_m6 ?_
              exact zw_iret X F dX6_tryAct_123 rfl (by first | (simp only [taR, c_9, c_48, c_85, eq_true c_94, c_103, eq_true c_112, decide_true, decide_false, Bool.and_true, Bool.true_and, Bool.and_false, Bool.false_and, Bool.or_true, Bool.true_or, Bool.or_false, Bool.false_or, Bool.not_true, Bool.not_false, if_true, if_false, ite_true, ite_false, Bool.false_eq_true, not_true_eq_false, not_false_eq_true, bI_t, bI_f, decide_eq_true_eq, reduceCtorEq]; done) | (simp [taR, c_9, c_48, c_85, eq_true c_94, c_103, eq_true c_112]; done) | simp_all) (by first | (simp only [taS, taB, c_9, c_48, c_85, eq_true c_94, c_103, eq_true c_112, decide_true, decide_false, Bool.and_true, Bool.true_and, Bool.and_false, Bool.false_and, Bool.or_true, Bool.true_or, Bool.or_false, Bool.false_or, Bool.not_true, Bool.not_false, if_true, if_false, ite_true, ite_false, Bool.false_eq_true, not_true_eq_false, not_false_eq_true, bI_t, bI_f, decide_eq_true_eq, reduceCtorEq]; done) | (simp [taS, taB, c_9, c_48, c_85, eq_true c_94, c_103, eq_true c_112]; done) | simp_all)
          · refine zw_iconst (v := 2) X dX6_tryAct_106 ik_2 ?_
            exact zw_iret X F dX6_tryAct_107 rfl (by first | (simp only [taR, c_9, c_48, c_85, eq_true c_94, c_103, decide_true, decide_false, Bool.and_true, Bool.true_and, Bool.and_false, Bool.false_and, Bool.or_true, Bool.true_or, Bool.or_false, Bool.false_or, Bool.not_true, Bool.not_false, if_true, if_false, ite_true, ite_false, Bool.false_eq_true, not_true_eq_false, not_false_eq_true, bI_t, bI_f, decide_eq_true_eq, reduceCtorEq]; done) | (simp [taR, c_9, c_48, c_85, eq_true c_94, c_103]; done) | simp_all) (by first | (simp only [taS, taB, c_9, c_48, c_85, eq_true c_94, c_103, decide_true, decide_false, Bool.and_true, Bool.true_and, Bool.and_false, Bool.false_and, Bool.or_true, Bool.true_or, Bool.or_false, Bool.false_or, Bool.not_true, Bool.not_false, if_true, if_false, ite_true, ite_false, Bool.false_eq_true, not_true_eq_false, not_false_eq_true, bI_t, bI_f, decide_eq_true_eq, reduceCtorEq]; done) | (simp [taS, taB, c_9, c_48, c_85, eq_true c_94, c_103]; done) | simp_all)
      · refine zw_iconst (v := 1) X dX6_tryAct_88 ik_1 ?_
        exact zw_iret X F dX6_tryAct_89 rfl (by first | (simp only [taR, c_9, c_48, c_85, decide_true, decide_false, Bool.and_true, Bool.true_and, Bool.and_false, Bool.false_and, Bool.or_true, Bool.true_or, Bool.or_false, Bool.false_or, Bool.not_true, Bool.not_false, if_true, if_false, ite_true, ite_false, Bool.false_eq_true, not_true_eq_false, not_false_eq_true, bI_t, bI_f, decide_eq_true_eq, reduceCtorEq]; done) | (simp [taR, c_9, c_48, c_85]; done) | simp_all) (by first | (simp only [taS, taB, c_9, c_48, c_85, decide_true, decide_false, Bool.and_true, Bool.true_and, Bool.and_false, Bool.false_and, Bool.or_true, Bool.true_or, Bool.or_false, Bool.false_or, Bool.not_true, Bool.not_false, if_true, if_false, ite_true, ite_false, Bool.false_eq_true, not_true_eq_false, not_false_eq_true, bI_t, bI_f, decide_eq_true_eq, reduceCtorEq]; done) | (simp [taS, taB, c_9, c_48, c_85]; done) | simp_all)
    · refine zw_aload_2 X dX6_tryAct_51 ?_
      refine zw_iload_4 X dX6_tryAct_52 ?_
      refine zw_bipush (v := 10) X dX6_tryAct_54 bk_10 ?_
      refine zw_iload_5 X dX6_tryAct_56 ?_
      refine zw_bipush (v := 48) X dX6_tryAct_58 bk_48 ?_
      refine zw_isub X dX6_tryAct_60 ?_
      refine zw_imul X dX6_tryAct_61 ?_
      refine zw_aload_0 X dX6_tryAct_62 ?_
      refine zw_iload_1 X dX6_tryAct_63 ?_
      refine zw_iconst (v := 2) X dX6_tryAct_64 ik_2 ?_
      refine zw_iadd X dX6_tryAct_65 ?_
      refine zw_cV_ii X dX6_tryAct_66 lk_X6_31 ok_MX1_signAt vi_MX1_signAt rm_X6_tryAct_X1_signAt sh_13 rfl (Nat.le_of_ble_eq_true rfl) t_X1_signAt ?_
      refine zw_iadd X dX6_tryAct_69 ?_
      refine zw_bipush (v := 48) X dX6_tryAct_70 bk_48 ?_
      refine zw_isub X dX6_tryAct_72 ?_
      refine zw_cV_iiv X dX6_tryAct_73 lk_X6_44 ok_MX5_setBid vi_MX5_setBid rm_X6_tryAct_X5_setBid sh_7 rfl (Nat.le_of_ble_eq_true rfl) (t_X5_setBid isT_7) ?_
      refine zw_bipush (v := -6) X dX6_tryAct_76 bk_m6 ?_
      exact zw_iret X F dX6_tryAct_78 rfl (by first | (simp only [taR, c_9, c_48, decide_true, decide_false, Bool.and_true, Bool.true_and, Bool.and_false, Bool.false_and, Bool.or_true, Bool.true_or, Bool.or_false, Bool.false_or, Bool.not_true, Bool.not_false, if_true, if_false, ite_true, ite_false, Bool.false_eq_true, not_true_eq_false, not_false_eq_true, bI_t, bI_f, decide_eq_true_eq, reduceCtorEq]; done) | (simp [taR, c_9, c_48]; done) | simp_all) (by first | (simp only [taS, taB, c_9, c_48, decide_true, decide_false, Bool.and_true, Bool.true_and, Bool.and_false, Bool.false_and, Bool.or_true, Bool.true_or, Bool.or_false, Bool.false_or, Bool.not_true, Bool.not_false, if_true, if_false, ite_true, ite_false, Bool.false_eq_true, not_true_eq_false, not_false_eq_true, bI_t, bI_f, decide_eq_true_eq, reduceCtorEq]; done) | (simp [taS, taB, c_9, c_48]; done) | simp_all)
  · refine zw_aload_2 X dX6_tryAct_12 ?_
    refine zw_cV_ni X dX6_tryAct_13 lk_X6_34 ok_MX5_passMinute vi_MX5_passMinute rm_X6_tryAct_X5_passMinute sh_7 rfl (Nat.le_of_ble_eq_true rfl) (t_X5_passMinute isT_7) ?_
    refine zw_ifeqB (tgt := 24) X dX6_tryAct_16 (by decide) (fun c_16 => ?_) (fun c_16 => ?_)
    · refine zw_iconst (v := 3) X dX6_tryAct_24 ik_3 ?_
      exact zw_iret X F dX6_tryAct_25 rfl (by first | (simp only [taR, eq_true c_9, c_16, decide_true, decide_false, Bool.and_true, Bool.true_and, Bool.and_false, Bool.false_and, Bool.or_true, Bool.true_or, Bool.or_false, Bool.false_or, Bool.not_true, Bool.not_false, if_true, if_false, ite_true, ite_false, Bool.false_eq_true, not_true_eq_false, not_false_eq_true, bI_t, bI_f, decide_eq_true_eq, reduceCtorEq]; done) | (simp [taR, eq_true c_9, c_16]; done) | simp_all) (by first | (simp only [taS, taB, eq_true c_9, c_16, decide_true, decide_false, Bool.and_true, Bool.true_and, Bool.and_false, Bool.false_and, Bool.or_true, Bool.true_or, Bool.or_false, Bool.false_or, Bool.not_true, Bool.not_false, if_true, if_false, ite_true, ite_false, Bool.false_eq_true, not_true_eq_false, not_false_eq_true, bI_t, bI_f, decide_eq_true_eq, reduceCtorEq]; done) | (simp [taS, taB, eq_true c_9, c_16]; done) | simp_all)
    · refine zw_bipush (v := -6) X dX6_tryAct_19 bk_m6 ?_
      refine zw_goto (tgt := 25) X dX6_tryAct_21 (by decide) ?_
      exact zw_iret X F dX6_tryAct_25 rfl (by first | (simp only [taR, eq_true c_9, c_16, decide_true, decide_false, Bool.and_true, Bool.true_and, Bool.and_false, Bool.false_and, Bool.or_true, Bool.true_or, Bool.or_false, Bool.false_or, Bool.not_true, Bool.not_false, if_true, if_false, ite_true, ite_false, Bool.false_eq_true, not_true_eq_false, not_false_eq_true, bI_t, bI_f, decide_eq_true_eq, reduceCtorEq]; done) | (simp [taR, eq_true c_9, c_16]; done) | simp_all) (by first | (simp only [taS, taB, eq_true c_9, c_16, decide_true, decide_false, Bool.and_true, Bool.true_and, Bool.and_false, Bool.false_and, Bool.or_true, Bool.true_or, Bool.or_false, Bool.false_or, Bool.not_true, Bool.not_false, if_true, if_false, ite_true, ite_false, Bool.false_eq_true, not_true_eq_false, not_false_eq_true, bI_t, bI_f, decide_eq_true_eq, reduceCtorEq]; done) | (simp [taS, taB, eq_true c_9, c_16]; done) | simp_all)
set_option maxRecDepth 20000 in
set_option maxHeartbeats 4000000 in
theorem l_X6_tryRides {g : Gt} (X : CX g MX6_tryRides) : ∀ (n : Nat) (x T : Int32) (σ : St), n ≤ 60 → T = nI (60 - n) → FnZ g MX6_tryRides none (trGo n x σ) → ZW g 16 [some (.ref 15), some (.ref 13), some (.ref 7), some (.int x), some (.int T)] [] σ := by
  intro n
  induction n with
  | zero =>
    intro x T σ h0 hT F
    subst hT
    refine zw_iload_4 X dX6_tryRides_16 ?_
    refine zw_bipush (v := 60) X dX6_tryRides_18 bk_60 ?_
    refine zw_icmpge_t (tgt := 75) X dX6_tryRides_20 (by decide) (by decide) ?_
    exact zw_vret X F dX6_tryRides_75 rfl rfl
  | succ n ih =>
    intro x T σ h0 hT F
    subst hT
    refine zw_iload_4 X dX6_tryRides_16 ?_
    refine zw_bipush (v := 60) X dX6_tryRides_18 bk_60 ?_
    refine zw_icmpge_f (tgt := 75) X dX6_tryRides_20 (by decide) (nI_lt (b := 60) (by omega) (by decide)) ?_
    refine zw_iload_3 X dX6_tryRides_23 ?_
    refine zw_aload_1 X dX6_tryRides_24 ?_
    refine zw_getI X dX6_tryRides_25 fl_X6_20 ck_X1 sh_13 rfl ?_
    refine zw_icmpge (tgt := 75) X dX6_tryRides_28 (by decide) (fun c_28 => ?_) (fun c_28 => ?_)
    · exact zw_vret X F dX6_tryRides_75 rfl (by simp only [trGo]; rw [if_neg c_28])
    · refine zw_aload_0 X dX6_tryRides_31 ?_
      refine zw_aload_1 X dX6_tryRides_32 ?_
      refine zw_iload_3 X dX6_tryRides_33 ?_
      refine zw_aload_2 X dX6_tryRides_34 ?_
      refine zw_cS_riri X dX6_tryRides_35 lk_X6_23 ok_MX6_tryAct st_MX6_tryAct rm_X6_tryRides_X6_tryAct (Nat.le_of_ble_eq_true rfl) t_X6_tryAct ?_
      refine zw_put X dX6_tryRides_38 fl_X6_15 ck_X6 ft_6_1 sh_15 rfl ?_
      refine zw_aload_0 X dX6_tryRides_41 ?_
      refine zw_getI X dX6_tryRides_42 fl_X6_15 ck_X6 sh_15 rfl ?_
      refine zw_bipush (v := -6) X dX6_tryRides_45 bk_m6 ?_
      refine zw_icmpeq (tgt := 51) X dX6_tryRides_47 (by decide) (fun c_47 => ?_) (fun c_47 => ?_)
      · refine zw_aload_0 X dX6_tryRides_51 ?_
        refine zw_dup_r X dX6_tryRides_52 ?_
        refine zw_getI X dX6_tryRides_53 fl_X6_9 ck_X6 sh_15 rfl ?_
        refine zw_iconst (v := 1) X dX6_tryRides_56 ik_1 ?_
        refine zw_iadd X dX6_tryRides_57 ?_
        refine zw_put X dX6_tryRides_58 fl_X6_9 ck_X6 ft_6_0 sh_15 rfl ?_
        refine zw_iload_3 X dX6_tryRides_61 ?_
        refine zw_aload_1 X dX6_tryRides_62 ?_
        refine zw_iload_3 X dX6_tryRides_63 ?_
        refine zw_cV_ii X dX6_tryRides_64 lk_X6_27 ok_MX1_actLength vi_MX1_actLength rm_X6_tryRides_X1_actLength sh_13 rfl (Nat.le_of_ble_eq_true rfl) t_X1_actLength ?_
        refine zw_iadd X dX6_tryRides_67 ?_
        refine zw_istore_3 X dX6_tryRides_68 ?_
        refine zw_iinc_4_p1 X dX6_tryRides_69 ?_
        refine zw_goto (tgt := 16) X dX6_tryRides_72 (by decide) ?_
        exact ih _ _ _ (by omega) (by rw [show 60 - n = 60 - (n + 1) + 1 by omega]; exact nI_1 _) (by have h := F; simp only [trGo] at h; rw [if_pos c_28, if_pos] at h; exact h; exact c_47)
      · exact zw_vret X F dX6_tryRides_50 rfl (by simp only [trGo]; rw [if_pos c_28, if_neg]; rfl; exact c_47)
set_option maxRecDepth 20000 in
set_option maxHeartbeats 4000000 in
theorem t_X6_tryRides {σ : St} : Ct MX6_tryRides [.ref 15, .ref 13, .ref 7] σ (none) (trAll σ) := by
  refine ct_of (ls0 := [some (.ref 15), some (.ref 13), some (.ref 7), none, none]) ok_MX6_tryRides rfl (Nat.le_of_ble_eq_true rfl) rfl ?_
  intro g X F
  refine zw_iconst (v := 0) X dX6_tryRides_0 ik_0 ?_
  refine zw_istore_3 X dX6_tryRides_1 ?_
  refine zw_aload_0 X dX6_tryRides_2 ?_
  refine zw_iconst (v := 0) X dX6_tryRides_3 ik_0 ?_
  refine zw_put X dX6_tryRides_4 fl_X6_9 ck_X6 ft_6_0 sh_15 rfl ?_
  refine zw_aload_0 X dX6_tryRides_7 ?_
  refine zw_bipush (v := -6) X dX6_tryRides_8 bk_m6 ?_
  refine zw_put X dX6_tryRides_10 fl_X6_15 ck_X6 ft_6_1 sh_15 rfl ?_
  refine zw_iconst (v := 0) X dX6_tryRides_13 ik_0 ?_
  refine zw_istore_4 X dX6_tryRides_14 ?_
  exact l_X6_tryRides X 60 _ _ _ (Nat.le_refl _) rfl F
def isI (k t s : Nat) : Prop := sh k = .inl (0, [none, some t, some s]) ∧ isT t ∧ isS s
theorem isI_22 : isI 22 23 29 := ⟨rfl, isT_23, isS_29⟩
theorem isI_32 : isI 32 33 39 := ⟨rfl, isT_33, isS_39⟩
def iKeep (σ : St) (k t s : Nat) : St := ups (gcopy (tcopy σ t 1) s 16) k 0 1
def iBack (σ : St) (k t s : Nat) : St := gcopy (tcopy σ 1 t) 16 s
set_option maxRecDepth 20000 in
set_option maxHeartbeats 4000000 in
theorem t_X0_keep {σ : St} {k t s : Nat} (hI : isI k t s) : Ct MX0_keep [.ref k, .ref 1, .ref 16] σ (none) (iKeep σ k t s) := by
  refine ct_of (ls0 := [some (.ref k), some (.ref 1), some (.ref 16)]) ok_MX0_keep rfl (Nat.le_of_ble_eq_true rfl) rfl ?_
  intro g X F
  refine zw_aload_0 X dX0_keep_0 ?_
  refine zw_getR X dX0_keep_1 fl_X0_10 ck_X0 hI.1 rfl ?_
  refine zw_aload_1 X dX0_keep_4 ?_
  refine zw_cV_rv X dX0_keep_5 lk_X0_23 ok_MX5_copyFrom vi_MX5_copyFrom rm_X0_keep_X5_copyFrom hI.2.1.1 rfl (Nat.le_of_ble_eq_true rfl) (t_X5_copyFrom hI.2.1 isT_1) ?_
  refine zw_aload_0 X dX0_keep_8 ?_
  refine zw_getR X dX0_keep_9 fl_X0_19 ck_X0 hI.1 rfl ?_
  refine zw_aload_2 X dX0_keep_12 ?_
  refine zw_cV_rv X dX0_keep_13 lk_X0_27 ok_MX4_copyFrom vi_MX4_copyFrom rm_X0_keep_X4_copyFrom hI.2.2.1 rfl (Nat.le_of_ble_eq_true rfl) (t_X4_copyFrom hI.2.2 isS_16) ?_
  refine zw_aload_0 X dX0_keep_16 ?_
  refine zw_iconst (v := 1) X dX0_keep_17 ik_1 ?_
  refine zw_putT .boolean rfl rfl X dX0_keep_18 fl_X0_30 ck_X0 ft_0_0 hI.1 rfl ?_
  exact zw_vret X F dX0_keep_21 rfl (rfl)
set_option maxRecDepth 20000 in
set_option maxHeartbeats 4000000 in
theorem t_X0_bringBack {σ : St} {k t s : Nat} (hI : isI k t s) : Ct MX0_bringBack [.ref k, .ref 1, .ref 16] σ (some (.int (bI (!decide (σ k 0 = 0))))) (if σ k 0 = 0 then σ else iBack σ k t s) := by
  refine ct_of (ls0 := [some (.ref k), some (.ref 1), some (.ref 16)]) ok_MX0_bringBack rfl (Nat.le_of_ble_eq_true rfl) rfl ?_
  intro g X F
  refine zw_aload_0 X dX0_bringBack_0 ?_
  refine zw_getI X dX0_bringBack_1 fl_X0_30 ck_X0 hI.1 rfl ?_
  refine zw_ifne (tgt := 9) X dX0_bringBack_4 (by decide) (fun c_4 => ?_) (fun c_4 => ?_)
  · refine zw_aload_1 X dX0_bringBack_9 ?_
    refine zw_aload_0 X dX0_bringBack_10 ?_
    refine zw_getR X dX0_bringBack_11 fl_X0_10 ck_X0 hI.1 rfl ?_
    refine zw_cV_rv X dX0_bringBack_14 lk_X0_23 ok_MX5_copyFrom vi_MX5_copyFrom rm_X0_bringBack_X5_copyFrom sh_1 rfl (Nat.le_of_ble_eq_true rfl) (t_X5_copyFrom isT_1 hI.2.1) ?_
    refine zw_aload_2 X dX0_bringBack_17 ?_
    refine zw_aload_0 X dX0_bringBack_18 ?_
    refine zw_getR X dX0_bringBack_19 fl_X0_19 ck_X0 hI.1 rfl ?_
    refine zw_cV_rv X dX0_bringBack_22 lk_X0_27 ok_MX4_copyFrom vi_MX4_copyFrom rm_X0_bringBack_X4_copyFrom sh_16 rfl (Nat.le_of_ble_eq_true rfl) (t_X4_copyFrom isS_16 hI.2.2) ?_
    refine zw_iconst (v := 1) X dX0_bringBack_25 ik_1 ?_
    exact zw_zret X F dX0_bringBack_26 rfl (by first | (simp only [bI_0', bI_1', bI_0, bI_1, bI_inj, c_4, decide_true, decide_false, Bool.and_true, Bool.true_and, Bool.and_false, Bool.false_and, Bool.or_true, Bool.true_or, Bool.or_false, Bool.false_or, Bool.not_true, Bool.not_false, if_true, if_false, ite_true, ite_false, Bool.false_eq_true, not_true_eq_false, not_false_eq_true, bI_t, bI_f, decide_eq_true_eq, reduceCtorEq]; done) | (simp [bI_0', bI_1', bI_0, bI_1, bI_inj, c_4]; done) | simp_all) (by simp [iBack, c_4])
  · refine zw_iconst (v := 0) X dX0_bringBack_7 ik_0 ?_
    exact zw_zret X F dX0_bringBack_8 rfl (by first | (simp only [bI_0', bI_1', bI_0, bI_1, bI_inj, eq_true c_4, decide_true, decide_false, Bool.and_true, Bool.true_and, Bool.and_false, Bool.false_and, Bool.or_true, Bool.true_or, Bool.or_false, Bool.false_or, Bool.not_true, Bool.not_false, if_true, if_false, ite_true, ite_false, Bool.false_eq_true, not_true_eq_false, not_false_eq_true, bI_t, bI_f, decide_eq_true_eq, reduceCtorEq]; done) | (simp [bI_0', bI_1', bI_0, bI_1, bI_inj, eq_true c_4]; done) | simp_all) (by simp [iBack, eq_true c_4])
def us (x y : Int32) : Int32 := (x.toUInt32 >>> (y.toUInt32 &&& Int32.toUInt32 31)).toInt32
def bc1 (x : Int32) : Int32 := x - (us x 1 &&& 1431655765)
def bc2 (x : Int32) : Int32 := (x &&& 858993459) + (us x 2 &&& 858993459)
def bc3 (x : Int32) : Int32 := (x + us x 4) &&& 252645135
def bitC (x : Int32) : Int32 := (bc3 (bc2 (bc1 x)) + us (bc3 (bc2 (bc1 x))) 8 + us (bc3 (bc2 (bc1 x)) + us (bc3 (bc2 (bc1 x))) 8) 16) &&& 63
set_option maxRecDepth 20000 in
set_option maxHeartbeats 4000000 in
theorem t_J6_bitCount {σ : St} {x : Int32} : Ct MJ6_bitCount [.int x] σ (some (.int (bitC x))) (σ) := by
  refine ct_of (ls0 := [some (.int x)]) ok_MJ6_bitCount rfl (Nat.le_of_ble_eq_true rfl) rfl ?_
  intro g X F
  refine zw_iload_0 X dJ6_bitCount_0 ?_
  refine zw_iload_0 X dJ6_bitCount_1 ?_
  refine zw_iconst (v := 1) X dJ6_bitCount_2 ik_1 ?_
  refine zw_iushr X dJ6_bitCount_3 ?_
  refine zw_ldcw X dJ6_bitCount_4 kc_J6_265 ?_
  refine zw_iand X dJ6_bitCount_7 ?_
  refine zw_isub X dJ6_bitCount_8 ?_
  refine zw_istore_0 X dJ6_bitCount_9 ?_
  refine zw_iload_0 X dJ6_bitCount_10 ?_
  refine zw_ldcw X dJ6_bitCount_11 kc_J6_266 ?_
  refine zw_iand X dJ6_bitCount_14 ?_
  refine zw_iload_0 X dJ6_bitCount_15 ?_
  refine zw_iconst (v := 2) X dJ6_bitCount_16 ik_2 ?_
  refine zw_iushr X dJ6_bitCount_17 ?_
  refine zw_ldcw X dJ6_bitCount_18 kc_J6_266 ?_
  refine zw_iand X dJ6_bitCount_21 ?_
  refine zw_iadd X dJ6_bitCount_22 ?_
  refine zw_istore_0 X dJ6_bitCount_23 ?_
  refine zw_iload_0 X dJ6_bitCount_24 ?_
  refine zw_iload_0 X dJ6_bitCount_25 ?_
  refine zw_iconst (v := 4) X dJ6_bitCount_26 ik_4 ?_
  refine zw_iushr X dJ6_bitCount_27 ?_
  refine zw_iadd X dJ6_bitCount_28 ?_
  refine zw_ldcw X dJ6_bitCount_29 kc_J6_267 ?_
  refine zw_iand X dJ6_bitCount_32 ?_
  refine zw_istore_0 X dJ6_bitCount_33 ?_
  refine zw_iload_0 X dJ6_bitCount_34 ?_
  refine zw_iload_0 X dJ6_bitCount_35 ?_
  refine zw_bipush (v := 8) X dJ6_bitCount_36 bk_8 ?_
  refine zw_iushr X dJ6_bitCount_38 ?_
  refine zw_iadd X dJ6_bitCount_39 ?_
  refine zw_istore_0 X dJ6_bitCount_40 ?_
  refine zw_iload_0 X dJ6_bitCount_41 ?_
  refine zw_iload_0 X dJ6_bitCount_42 ?_
  refine zw_bipush (v := 16) X dJ6_bitCount_43 bk_16 ?_
  refine zw_iushr X dJ6_bitCount_45 ?_
  refine zw_iadd X dJ6_bitCount_46 ?_
  refine zw_istore_0 X dJ6_bitCount_47 ?_
  refine zw_iload_0 X dJ6_bitCount_48 ?_
  refine zw_bipush (v := 63) X dJ6_bitCount_49 bk_63 ?_
  refine zw_iand X dJ6_bitCount_51 ?_
  exact zw_iret X F dJ6_bitCount_52 rfl (rfl) (rfl)
end
