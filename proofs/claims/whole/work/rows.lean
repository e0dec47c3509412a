section
-- ===== PART A: goes FIRST, ahead of the names: the tables' words, and 'selects' of the private methods out of them =====
/-- a private method of a class that the tables say can be made, by its rows of tables_1 -/
def lw_okq (q : MethodName × Nat) : Prop := (q.1.cls ≠ "java/lang/invoke/MethodHandle" ∧ q.1.cls ≠ "java/lang/invoke/VarHandle") ∧ Cond.instantiable q.1.cls q.2 ∈ tables_1 ∧ Cond.privateMethod q.1 ∈ tables_1 ∧ Cond.instanceMethod q.1 ∈ tables_1
theorem lw_p0 : lw_okq (⟨"SilenceMinute$Pad", "follow", "(II)I"⟩, 2) := ⟨⟨by decide +kernel, by decide +kernel⟩, List.mem_of_getElem? (i := 73) (by decide +kernel), List.mem_of_getElem? (i := 288) (by decide +kernel), List.mem_of_getElem? (i := 289) (by decide +kernel)⟩
theorem lw_p1 : lw_okq (⟨"SilenceMinute", "padCanBe", "()Z"⟩, 9) := ⟨⟨by decide +kernel, by decide +kernel⟩, List.mem_of_getElem? (i := 13) (by decide +kernel), List.mem_of_getElem? (i := 305) (by decide +kernel), List.mem_of_getElem? (i := 306) (by decide +kernel)⟩
theorem lw_p2 : lw_okq (⟨"SilenceMinute$Train", "payGuard", "(II)V"⟩, 11) := ⟨⟨by decide +kernel, by decide +kernel⟩, List.mem_of_getElem? (i := 21) (by decide +kernel), List.mem_of_getElem? (i := 329) (by decide +kernel), List.mem_of_getElem? (i := 330) (by decide +kernel)⟩
theorem lw_p3 : lw_okq (⟨"SilenceMinute", "letAllMinutesPass", "()V"⟩, 9) := ⟨⟨by decide +kernel, by decide +kernel⟩, List.mem_of_getElem? (i := 13) (by decide +kernel), List.mem_of_getElem? (i := 397) (by decide +kernel), List.mem_of_getElem? (i := 398) (by decide +kernel)⟩
theorem lw_p4 : lw_okq (⟨"SilenceMinute", "keepsSilence", "(II)Z"⟩, 9) := ⟨⟨by decide +kernel, by decide +kernel⟩, List.mem_of_getElem? (i := 13) (by decide +kernel), List.mem_of_getElem? (i := 414) (by decide +kernel), List.mem_of_getElem? (i := 415) (by decide +kernel)⟩
theorem lw_p5 : lw_okq (⟨"SilenceMinute", "paidInTrial", "(I)I"⟩, 9) := ⟨⟨by decide +kernel, by decide +kernel⟩, List.mem_of_getElem? (i := 13) (by decide +kernel), List.mem_of_getElem? (i := 425) (by decide +kernel), List.mem_of_getElem? (i := 426) (by decide +kernel)⟩
theorem lw_p6 : lw_okq (⟨"SilenceMinute$Seating", "waysInAll", "()I"⟩, 4) := ⟨⟨by decide +kernel, by decide +kernel⟩, List.mem_of_getElem? (i := 120) (by decide +kernel), List.mem_of_getElem? (i := 449) (by decide +kernel), List.mem_of_getElem? (i := 450) (by decide +kernel)⟩
theorem lw_p7 : lw_okq (⟨"SilenceMinute$Seating", "isRider", "(I)Z"⟩, 4) := ⟨⟨by decide +kernel, by decide +kernel⟩, List.mem_of_getElem? (i := 120) (by decide +kernel), List.mem_of_getElem? (i := 453) (by decide +kernel), List.mem_of_getElem? (i := 454) (by decide +kernel)⟩
theorem lw_p8 : lw_okq (⟨"SilenceMinute$Seating", "spread", "(I)V"⟩, 4) := ⟨⟨by decide +kernel, by decide +kernel⟩, List.mem_of_getElem? (i := 120) (by decide +kernel), List.mem_of_getElem? (i := 457) (by decide +kernel), List.mem_of_getElem? (i := 458) (by decide +kernel)⟩
theorem lw_p9 : lw_okq (⟨"SilenceMinute$Seating", "twosInOneCompartment", "()I"⟩, 4) := ⟨⟨by decide +kernel, by decide +kernel⟩, List.mem_of_getElem? (i := 120) (by decide +kernel), List.mem_of_getElem? (i := 461) (by decide +kernel), List.mem_of_getElem? (i := 462) (by decide +kernel)⟩
theorem lw_p10 : lw_okq (⟨"SilenceMinute$Seating", "digitsAsNumber", "()I"⟩, 4) := ⟨⟨by decide +kernel, by decide +kernel⟩, List.mem_of_getElem? (i := 120) (by decide +kernel), List.mem_of_getElem? (i := 465) (by decide +kernel), List.mem_of_getElem? (i := 466) (by decide +kernel)⟩
theorem lw_p11 : lw_okq (⟨"SilenceMinute", "topPayer", "()I"⟩, 9) := ⟨⟨by decide +kernel, by decide +kernel⟩, List.mem_of_getElem? (i := 13) (by decide +kernel), List.mem_of_getElem? (i := 485) (by decide +kernel), List.mem_of_getElem? (i := 486) (by decide +kernel)⟩
theorem lw_p12 : lw_okq (⟨"SilenceMinute", "paidByCompartment", "(I)I"⟩, 9) := ⟨⟨by decide +kernel, by decide +kernel⟩, List.mem_of_getElem? (i := 13) (by decide +kernel), List.mem_of_getElem? (i := 489) (by decide +kernel), List.mem_of_getElem? (i := 490) (by decide +kernel)⟩
theorem lw_p13 : lw_okq (⟨"SilenceMinute$Sale", "leaveOff", "(I)V"⟩, 3) := ⟨⟨by decide +kernel, by decide +kernel⟩, List.mem_of_getElem? (i := 141) (by decide +kernel), List.mem_of_getElem? (i := 544) (by decide +kernel), List.mem_of_getElem? (i := 545) (by decide +kernel)⟩
theorem lw_p14 : lw_okq (⟨"SilenceMinute$Sale", "valueFor", "(II)I"⟩, 3) := ⟨⟨by decide +kernel, by decide +kernel⟩, List.mem_of_getElem? (i := 141) (by decide +kernel), List.mem_of_getElem? (i := 555) (by decide +kernel), List.mem_of_getElem? (i := 556) (by decide +kernel)⟩
theorem lw_p15 : lw_okq (⟨"SilenceMinute", "chancesToCough", "(I)I"⟩, 9) := ⟨⟨by decide +kernel, by decide +kernel⟩, List.mem_of_getElem? (i := 13) (by decide +kernel), List.mem_of_getElem? (i := 565) (by decide +kernel), List.mem_of_getElem? (i := 566) (by decide +kernel)⟩
def lw_privs_1 : List (MethodName × Nat) := [(⟨"SilenceMinute$Pad", "follow", "(II)I"⟩, 2), (⟨"SilenceMinute", "padCanBe", "()Z"⟩, 9), (⟨"SilenceMinute$Train", "payGuard", "(II)V"⟩, 11), (⟨"SilenceMinute", "letAllMinutesPass", "()V"⟩, 9), (⟨"SilenceMinute", "keepsSilence", "(II)Z"⟩, 9), (⟨"SilenceMinute", "paidInTrial", "(I)I"⟩, 9), (⟨"SilenceMinute$Seating", "waysInAll", "()I"⟩, 4), (⟨"SilenceMinute$Seating", "isRider", "(I)Z"⟩, 4), (⟨"SilenceMinute$Seating", "spread", "(I)V"⟩, 4), (⟨"SilenceMinute$Seating", "twosInOneCompartment", "()I"⟩, 4), (⟨"SilenceMinute$Seating", "digitsAsNumber", "()I"⟩, 4), (⟨"SilenceMinute", "topPayer", "()I"⟩, 9), (⟨"SilenceMinute", "paidByCompartment", "(I)I"⟩, 9), (⟨"SilenceMinute$Sale", "leaveOff", "(I)V"⟩, 3), (⟨"SilenceMinute$Sale", "valueFor", "(II)I"⟩, 3), (⟨"SilenceMinute", "chancesToCough", "(I)I"⟩, 9)]
theorem lw_r1 : ∀ q ∈ lw_privs_1, lw_okq q := List.forall_mem_cons.mpr ⟨lw_p0, List.forall_mem_cons.mpr ⟨lw_p1, List.forall_mem_cons.mpr ⟨lw_p2, List.forall_mem_cons.mpr ⟨lw_p3, List.forall_mem_cons.mpr ⟨lw_p4, List.forall_mem_cons.mpr ⟨lw_p5, List.forall_mem_cons.mpr ⟨lw_p6, List.forall_mem_cons.mpr ⟨lw_p7, List.forall_mem_cons.mpr ⟨lw_p8, List.forall_mem_cons.mpr ⟨lw_p9, List.forall_mem_cons.mpr ⟨lw_p10, List.forall_mem_cons.mpr ⟨lw_p11, List.forall_mem_cons.mpr ⟨lw_p12, List.forall_mem_cons.mpr ⟨lw_p13, List.forall_mem_cons.mpr ⟨lw_p14, List.forall_mem_cons.mpr ⟨lw_p15, fun _ h => absurd h List.not_mem_nil⟩⟩⟩⟩⟩⟩⟩⟩⟩⟩⟩⟩⟩⟩⟩⟩
theorem lw_p16 : lw_okq (⟨"SilenceMinute", "imageAt", "(I)LSilenceMinute$Image;"⟩, 9) := ⟨⟨by decide +kernel, by decide +kernel⟩, List.mem_of_getElem? (i := 13) (by decide +kernel), List.mem_of_getElem? (i := 588) (by decide +kernel), List.mem_of_getElem? (i := 589) (by decide +kernel)⟩
theorem lw_p17 : lw_okq (⟨"SilenceMinute", "toldOf", "(II)I"⟩, 9) := ⟨⟨by decide +kernel, by decide +kernel⟩, List.mem_of_getElem? (i := 13) (by decide +kernel), List.mem_of_getElem? (i := 613) (by decide +kernel), List.mem_of_getElem? (i := 614) (by decide +kernel)⟩
theorem lw_p18 : lw_okq (⟨"SilenceMinuteModel", "rides", "(II)Z"⟩, 27) := ⟨⟨by decide +kernel, by decide +kernel⟩, List.mem_of_getElem? (i := 617) (by decide +kernel), List.mem_of_getElem? (i := 727) (by decide +kernel), List.mem_of_getElem? (i := 728) (by decide +kernel)⟩
theorem lw_p19 : lw_okq (⟨"SilenceMinuteModel", "faultOf", "()I"⟩, 27) := ⟨⟨by decide +kernel, by decide +kernel⟩, List.mem_of_getElem? (i := 617) (by decide +kernel), List.mem_of_getElem? (i := 758) (by decide +kernel), List.mem_of_getElem? (i := 759) (by decide +kernel)⟩
theorem lw_p20 : lw_okq (⟨"SilenceMinuteModel", "goRides", "()I"⟩, 27) := ⟨⟨by decide +kernel, by decide +kernel⟩, List.mem_of_getElem? (i := 617) (by decide +kernel), List.mem_of_getElem? (i := 772) (by decide +kernel), List.mem_of_getElem? (i := 773) (by decide +kernel)⟩
theorem lw_p21 : lw_okq (⟨"SilenceMinuteModel", "asNow", "()V"⟩, 27) := ⟨⟨by decide +kernel, by decide +kernel⟩, List.mem_of_getElem? (i := 617) (by decide +kernel), List.mem_of_getElem? (i := 776) (by decide +kernel), List.mem_of_getElem? (i := 777) (by decide +kernel)⟩
theorem lw_p22 : lw_okq (⟨"SilenceMinuteModel", "pass", "()V"⟩, 27) := ⟨⟨by decide +kernel, by decide +kernel⟩, List.mem_of_getElem? (i := 617) (by decide +kernel), List.mem_of_getElem? (i := 780) (by decide +kernel), List.mem_of_getElem? (i := 781) (by decide +kernel)⟩
theorem lw_p23 : lw_okq (⟨"SilenceMinuteModel", "holder", "(I)I"⟩, 27) := ⟨⟨by decide +kernel, by decide +kernel⟩, List.mem_of_getElem? (i := 617) (by decide +kernel), List.mem_of_getElem? (i := 784) (by decide +kernel), List.mem_of_getElem? (i := 785) (by decide +kernel)⟩
theorem lw_p24 : lw_okq (⟨"SilenceMinuteModel", "isTunnel", "(I)Z"⟩, 27) := ⟨⟨by decide +kernel, by decide +kernel⟩, List.mem_of_getElem? (i := 617) (by decide +kernel), List.mem_of_getElem? (i := 788) (by decide +kernel), List.mem_of_getElem? (i := 789) (by decide +kernel)⟩
theorem lw_p25 : lw_okq (⟨"SilenceMinuteModel", "whyNot", "(II)I"⟩, 27) := ⟨⟨by decide +kernel, by decide +kernel⟩, List.mem_of_getElem? (i := 617) (by decide +kernel), List.mem_of_getElem? (i := 795) (by decide +kernel), List.mem_of_getElem? (i := 796) (by decide +kernel)⟩
theorem lw_p26 : lw_okq (⟨"SilenceMinuteModel", "ridesNow", "(I)Z"⟩, 27) := ⟨⟨by decide +kernel, by decide +kernel⟩, List.mem_of_getElem? (i := 617) (by decide +kernel), List.mem_of_getElem? (i := 799) (by decide +kernel), List.mem_of_getElem? (i := 800) (by decide +kernel)⟩
theorem lw_p27 : lw_okq (⟨"SilenceMinuteModel", "maySpeak", "(I)Z"⟩, 27) := ⟨⟨by decide +kernel, by decide +kernel⟩, List.mem_of_getElem? (i := 617) (by decide +kernel), List.mem_of_getElem? (i := 803) (by decide +kernel), List.mem_of_getElem? (i := 804) (by decide +kernel)⟩
theorem lw_p28 : lw_okq (⟨"SilenceMinuteModel", "cough", "(I)V"⟩, 27) := ⟨⟨by decide +kernel, by decide +kernel⟩, List.mem_of_getElem? (i := 617) (by decide +kernel), List.mem_of_getElem? (i := 807) (by decide +kernel), List.mem_of_getElem? (i := 808) (by decide +kernel)⟩
theorem lw_p29 : lw_okq (⟨"SilenceMinuteModel", "barOfRides", "()I"⟩, 27) := ⟨⟨by decide +kernel, by decide +kernel⟩, List.mem_of_getElem? (i := 617) (by decide +kernel), List.mem_of_getElem? (i := 815) (by decide +kernel), List.mem_of_getElem? (i := 816) (by decide +kernel)⟩
theorem lw_p30 : lw_okq (⟨"SilenceMinuteModel", "toEnd", "()V"⟩, 27) := ⟨⟨by decide +kernel, by decide +kernel⟩, List.mem_of_getElem? (i := 617) (by decide +kernel), List.mem_of_getElem? (i := 839) (by decide +kernel), List.mem_of_getElem? (i := 840) (by decide +kernel)⟩
theorem lw_p31 : lw_okq (⟨"SilenceMinuteModel", "ridesAtAll", "(I)Z"⟩, 27) := ⟨⟨by decide +kernel, by decide +kernel⟩, List.mem_of_getElem? (i := 617) (by decide +kernel), List.mem_of_getElem? (i := 855) (by decide +kernel), List.mem_of_getElem? (i := 856) (by decide +kernel)⟩
def lw_privs_2 : List (MethodName × Nat) := [(⟨"SilenceMinute", "imageAt", "(I)LSilenceMinute$Image;"⟩, 9), (⟨"SilenceMinute", "toldOf", "(II)I"⟩, 9), (⟨"SilenceMinuteModel", "rides", "(II)Z"⟩, 27), (⟨"SilenceMinuteModel", "faultOf", "()I"⟩, 27), (⟨"SilenceMinuteModel", "goRides", "()I"⟩, 27), (⟨"SilenceMinuteModel", "asNow", "()V"⟩, 27), (⟨"SilenceMinuteModel", "pass", "()V"⟩, 27), (⟨"SilenceMinuteModel", "holder", "(I)I"⟩, 27), (⟨"SilenceMinuteModel", "isTunnel", "(I)Z"⟩, 27), (⟨"SilenceMinuteModel", "whyNot", "(II)I"⟩, 27), (⟨"SilenceMinuteModel", "ridesNow", "(I)Z"⟩, 27), (⟨"SilenceMinuteModel", "maySpeak", "(I)Z"⟩, 27), (⟨"SilenceMinuteModel", "cough", "(I)V"⟩, 27), (⟨"SilenceMinuteModel", "barOfRides", "()I"⟩, 27), (⟨"SilenceMinuteModel", "toEnd", "()V"⟩, 27), (⟨"SilenceMinuteModel", "ridesAtAll", "(I)Z"⟩, 27)]
theorem lw_r2 : ∀ q ∈ lw_privs_2, lw_okq q := List.forall_mem_cons.mpr ⟨lw_p16, List.forall_mem_cons.mpr ⟨lw_p17, List.forall_mem_cons.mpr ⟨lw_p18, List.forall_mem_cons.mpr ⟨lw_p19, List.forall_mem_cons.mpr ⟨lw_p20, List.forall_mem_cons.mpr ⟨lw_p21, List.forall_mem_cons.mpr ⟨lw_p22, List.forall_mem_cons.mpr ⟨lw_p23, List.forall_mem_cons.mpr ⟨lw_p24, List.forall_mem_cons.mpr ⟨lw_p25, List.forall_mem_cons.mpr ⟨lw_p26, List.forall_mem_cons.mpr ⟨lw_p27, List.forall_mem_cons.mpr ⟨lw_p28, List.forall_mem_cons.mpr ⟨lw_p29, List.forall_mem_cons.mpr ⟨lw_p30, List.forall_mem_cons.mpr ⟨lw_p31, fun _ h => absurd h List.not_mem_nil⟩⟩⟩⟩⟩⟩⟩⟩⟩⟩⟩⟩⟩⟩⟩⟩
theorem lw_p32 : lw_okq (⟨"SilenceMinuteModel", "rideAtOnce", "(II)Z"⟩, 27) := ⟨⟨by decide +kernel, by decide +kernel⟩, List.mem_of_getElem? (i := 617) (by decide +kernel), List.mem_of_getElem? (i := 859) (by decide +kernel), List.mem_of_getElem? (i := 860) (by decide +kernel)⟩
theorem lw_p33 : lw_okq (⟨"SilenceMinuteModel", "goWord", "(III)I"⟩, 27) := ⟨⟨by decide +kernel, by decide +kernel⟩, List.mem_of_getElem? (i := 617) (by decide +kernel), List.mem_of_getElem? (i := 867) (by decide +kernel), List.mem_of_getElem? (i := 868) (by decide +kernel)⟩
theorem lw_p34 : lw_okq (⟨"SilenceMinuteModel", "humSet", "()I"⟩, 27) := ⟨⟨by decide +kernel, by decide +kernel⟩, List.mem_of_getElem? (i := 617) (by decide +kernel), List.mem_of_getElem? (i := 891) (by decide +kernel), List.mem_of_getElem? (i := 892) (by decide +kernel)⟩
def lw_privs_3 : List (MethodName × Nat) := [(⟨"SilenceMinuteModel", "rideAtOnce", "(II)Z"⟩, 27), (⟨"SilenceMinuteModel", "goWord", "(III)I"⟩, 27), (⟨"SilenceMinuteModel", "humSet", "()I"⟩, 27)]
theorem lw_r3 : ∀ q ∈ lw_privs_3, lw_okq q := List.forall_mem_cons.mpr ⟨lw_p32, List.forall_mem_cons.mpr ⟨lw_p33, List.forall_mem_cons.mpr ⟨lw_p34, fun _ h => absurd h List.not_mem_nil⟩⟩⟩
def lw_privs : List (MethodName × Nat) := lw_privs_1 ++ (lw_privs_2 ++ (lw_privs_3))
def lw_tbl : List Cond := k2_sels lw_privs ++ tables_1
theorem lw_privs_ok : ∀ q ∈ lw_privs, lw_okq q := by
  show ∀ q ∈ lw_privs_1 ++ (lw_privs_2 ++ (lw_privs_3)), lw_okq q
  exact List.forall_mem_append.mpr ⟨lw_r1, List.forall_mem_append.mpr ⟨lw_r2, lw_r3⟩⟩
def RX0 : String := "SilenceMinute$Image"
def TX0 : u_T := fun k => match k with
  | 0 => ("SilenceMinute$Image", "kept", "Z", false)
  | 1 => ("SilenceMinute$Image", "train", "LSilenceMinute$Train;", true)
  | _ => ("SilenceMinute$Image", "sights", "LSilenceMinute$Sights;", true)
def tyX0 : Nat → FieldType := fun k => match k with
  | 0 => .boolean
  | 1 => .object "SilenceMinute$Train"
  | _ => .object "SilenceMinute$Sights"
theorem nmX0 : ∀ a, a < 3 → ∀ b, b < 3 → a ≠ b → (TX0 a).2.1 ≠ (TX0 b).2.1 := by decide +kernel
theorem tyX0_ok : ∀ k, k < 3 → parseFieldDescriptor (TX0 k).2.2.1 = some (tyX0 k) := by decide +kernel
def RX1 : String := "SilenceMinute$Pad"
def TX1 : u_T := fun k => match k with
  | 0 => ("SilenceMinute$Pad", "signs", "[I", true)
  | _ => ("SilenceMinute$Pad", "count", "I", false)
def tyX1 : Nat → FieldType := fun k => match k with
  | 0 => .array .int
  | _ => .int
theorem nmX1 : ∀ a, a < 2 → ∀ b, b < 2 → a ≠ b → (TX1 a).2.1 ≠ (TX1 b).2.1 := by decide +kernel
theorem tyX1_ok : ∀ k, k < 2 → parseFieldDescriptor (TX1 k).2.2.1 = some (tyX1 k) := by decide +kernel
def RX2 : String := "SilenceMinute$Sale"
def TX2 : u_T := fun k => match k with
  | 0 => ("SilenceMinute$Sale", "winner", "I", false)
  | 1 => ("SilenceMinute$Sale", "price", "I", false)
  | _ => ("SilenceMinute$Sale", "loss", "I", false)
def tyX2 : Nat → FieldType := fun k => match k with
  | 0 => .int
  | 1 => .int
  | _ => .int
theorem nmX2 : ∀ a, a < 3 → ∀ b, b < 3 → a ≠ b → (TX2 a).2.1 ≠ (TX2 b).2.1 := by decide +kernel
theorem tyX2_ok : ∀ k, k < 3 → parseFieldDescriptor (TX2 k).2.2.1 = some (tyX2 k) := by decide +kernel
def RX3 : String := "SilenceMinute$Seating"
def TX3 : u_T := fun k => match k with
  | 0 => ("SilenceMinute$Seating", "ways", "I", false)
  | 1 => ("SilenceMinute$Seating", "first", "I", false)
  | 2 => ("SilenceMinute$Seating", "riders", "I", false)
  | _ => ("SilenceMinute$Seating", "digits", "[I", true)
def tyX3 : Nat → FieldType := fun k => match k with
  | 0 => .int
  | 1 => .int
  | 2 => .int
  | _ => .array .int
theorem nmX3 : ∀ a, a < 4 → ∀ b, b < 4 → a ≠ b → (TX3 a).2.1 ≠ (TX3 b).2.1 := by decide +kernel
theorem tyX3_ok : ∀ k, k < 4 → parseFieldDescriptor (TX3 k).2.2.1 = some (tyX3 k) := by decide +kernel
def RX4 : String := "SilenceMinute$Sights"
def TX4 : u_T := fun k => match k with
  | 0 => ("SilenceMinute$Sights", "minutes", "[I", true)
  | 1 => ("SilenceMinute$Sights", "travellers", "[I", true)
  | _ => ("SilenceMinute$Sights", "count", "I", false)
def tyX4 : Nat → FieldType := fun k => match k with
  | 0 => .array .int
  | 1 => .array .int
  | _ => .int
theorem nmX4 : ∀ a, a < 3 → ∀ b, b < 3 → a ≠ b → (TX4 a).2.1 ≠ (TX4 b).2.1 := by decide +kernel
theorem tyX4_ok : ∀ k, k < 3 → parseFieldDescriptor (TX4 k).2.2.1 = some (tyX4 k) := by decide +kernel
def RX5 : String := "SilenceMinute$Train"
def TX5 : u_T := fun k => match k with
  | 0 => ("SilenceMinute$Train", "length", "I", false)
  | 1 => ("SilenceMinute$Train", "minute", "I", false)
  | 2 => ("SilenceMinute$Train", "guard", "I", false)
  | 3 => ("SilenceMinute$Train", "fineAmount", "I", false)
  | 4 => ("SilenceMinute$Train", "finesPaid", "I", false)
  | 5 => ("SilenceMinute$Train", "tunnels", "I", false)
  | 6 => ("SilenceMinute$Train", "from", "[I", true)
  | 7 => ("SilenceMinute$Train", "to", "[I", true)
  | 8 => ("SilenceMinute$Train", "seats", "[I", true)
  | 9 => ("SilenceMinute$Train", "purses", "[I", true)
  | _ => ("SilenceMinute$Train", "bids", "[I", true)
def tyX5 : Nat → FieldType := fun k => match k with
  | 0 => .int
  | 1 => .int
  | 2 => .int
  | 3 => .int
  | 4 => .int
  | 5 => .int
  | 6 => .array .int
  | 7 => .array .int
  | 8 => .array .int
  | 9 => .array .int
  | _ => .array .int
theorem nmX5 : ∀ a, a < 11 → ∀ b, b < 11 → a ≠ b → (TX5 a).2.1 ≠ (TX5 b).2.1 := by decide +kernel
theorem tyX5_ok : ∀ k, k < 11 → parseFieldDescriptor (TX5 k).2.2.1 = some (tyX5 k) := by decide +kernel
def RX6 : String := "SilenceMinute$Verdict"
def TX6 : u_T := fun k => match k with
  | 0 => ("SilenceMinute$Verdict", "acts", "I", false)
  | _ => ("SilenceMinute$Verdict", "why", "I", false)
def tyX6 : Nat → FieldType := fun k => match k with
  | 0 => .int
  | _ => .int
theorem nmX6 : ∀ a, a < 2 → ∀ b, b < 2 → a ≠ b → (TX6 a).2.1 ≠ (TX6 b).2.1 := by decide +kernel
theorem tyX6_ok : ∀ k, k < 2 → parseFieldDescriptor (TX6 k).2.2.1 = some (tyX6 k) := by decide +kernel
def RX7 : String := "SilenceMinute"
def TX7 : u_T := fun k => match k with
  | 0 => ("SilenceMinute", "now", "LSilenceMinute$Train;", true)
  | 1 => ("SilenceMinute", "trial", "LSilenceMinute$Train;", true)
  | 2 => ("SilenceMinute", "pad", "LSilenceMinute$Pad;", true)
  | 3 => ("SilenceMinute", "verdict", "LSilenceMinute$Verdict;", true)
  | 4 => ("SilenceMinute", "sights", "LSilenceMinute$Sights;", true)
  | 5 => ("SilenceMinute", "seating", "LSilenceMinute$Seating;", true)
  | 6 => ("SilenceMinute", "sale", "LSilenceMinute$Sale;", true)
  | 7 => ("SilenceMinute", "firstImage", "LSilenceMinute$Image;", true)
  | _ => ("SilenceMinute", "secondImage", "LSilenceMinute$Image;", true)
def tyX7 : Nat → FieldType := fun k => match k with
  | 0 => .object "SilenceMinute$Train"
  | 1 => .object "SilenceMinute$Train"
  | 2 => .object "SilenceMinute$Pad"
  | 3 => .object "SilenceMinute$Verdict"
  | 4 => .object "SilenceMinute$Sights"
  | 5 => .object "SilenceMinute$Seating"
  | 6 => .object "SilenceMinute$Sale"
  | 7 => .object "SilenceMinute$Image"
  | _ => .object "SilenceMinute$Image"
theorem nmX7 : ∀ a, a < 9 → ∀ b, b < 9 → a ≠ b → (TX7 a).2.1 ≠ (TX7 b).2.1 := by decide +kernel
theorem tyX7_ok : ∀ k, k < 9 → parseFieldDescriptor (TX7 k).2.2.1 = some (tyX7 k) := by decide +kernel
def RX8 : String := "SilenceMinuteModel"
def TX8 : u_T := fun k => match k with
  | 0 => ("SilenceMinuteModel", "length", "I", false)
  | 1 => ("SilenceMinuteModel", "tunnels", "I", false)
  | 2 => ("SilenceMinuteModel", "from", "[I", true)
  | 3 => ("SilenceMinuteModel", "to", "[I", true)
  | 4 => ("SilenceMinuteModel", "seat", "[I", true)
  | 5 => ("SilenceMinuteModel", "purse", "[I", true)
  | 6 => ("SilenceMinuteModel", "bid", "[I", true)
  | 7 => ("SilenceMinuteModel", "fine", "I", false)
  | 8 => ("SilenceMinuteModel", "minute", "I", false)
  | 9 => ("SilenceMinuteModel", "guard", "I", false)
  | 10 => ("SilenceMinuteModel", "sights", "I", false)
  | 11 => ("SilenceMinuteModel", "sight", "[I", true)
  | 12 => ("SilenceMinuteModel", "signs", "I", false)
  | 13 => ("SilenceMinuteModel", "pad", "[I", true)
  | 14 => ("SilenceMinuteModel", "has1", "[I", true)
  | 15 => ("SilenceMinuteModel", "bids", "[I", true)
  | 16 => ("SilenceMinuteModel", "now", "I", false)
  | 17 => ("SilenceMinuteModel", "guardNow", "I", false)
  | 18 => ("SilenceMinuteModel", "fines", "I", false)
  | 19 => ("SilenceMinuteModel", "paid", "[I", true)
  | 20 => ("SilenceMinuteModel", "paidIn", "[I", true)
  | 21 => ("SilenceMinuteModel", "reason", "I", false)
  | 22 => ("SilenceMinuteModel", "acts", "I", false)
  | 23 => ("SilenceMinuteModel", "knows", "I", false)
  | 24 => ("SilenceMinuteModel", "ends", "[I", true)
  | 25 => ("SilenceMinuteModel", "image", "[I", true)
  | _ => ("SilenceMinuteModel", "isKept", "[Z", true)
def tyX8 : Nat → FieldType := fun k => match k with
  | 0 => .int
  | 1 => .int
  | 2 => .array .int
  | 3 => .array .int
  | 4 => .array .int
  | 5 => .array .int
  | 6 => .array .int
  | 7 => .int
  | 8 => .int
  | 9 => .int
  | 10 => .int
  | 11 => .array .int
  | 12 => .int
  | 13 => .array .int
  | 14 => .array .int
  | 15 => .array .int
  | 16 => .int
  | 17 => .int
  | 18 => .int
  | 19 => .array .int
  | 20 => .array .int
  | 21 => .int
  | 22 => .int
  | 23 => .int
  | 24 => .array .int
  | 25 => .array .int
  | _ => .array .boolean
theorem nmX8 : ∀ a, a < 27 → ∀ b, b < 27 → a ≠ b → (TX8 a).2.1 ≠ (TX8 b).2.1 := by decide +kernel
theorem tyX8_ok : ∀ k, k < 27 → parseFieldDescriptor (TX8 k).2.2.1 = some (tyX8 k) := by decide +kernel
def RJ6 : String := "java/lang/Integer"
def RJ9 : String := "java/lang/Math"
def RL : String := "SilenceMinuteLaw"
abbrev cls : List vw_C := [(RX0, TX0, 3), (RX1, TX1, 2), (RX2, TX2, 3), (RX3, TX3, 4), (RX4, TX4, 3), (RX5, TX5, 11), (RX6, TX6, 2), (RX7, TX7, 9), (RX8, TX8, 27)]
def lw_gd : List Cond := lw_tbl.filter goodWord
theorem gd_at {w : Cond} (i : Nat) (h : lw_tbl[i]? = some w) (hg : goodWord w = true) : w ∈ lw_gd := List.mem_filter.mpr ⟨List.mem_of_getElem? h, hg⟩
theorem gd1 {w : Cond} (i : Nat) (h : tables_1_1[i]? = some w) (hg : goodWord w = true) : w ∈ lw_gd := List.mem_filter.mpr ⟨List.mem_append_right _ (List.mem_append_left _ (List.mem_of_getElem? h)), hg⟩
theorem gd2 {w : Cond} (i : Nat) (h : tables_1_2[i]? = some w) (hg : goodWord w = true) : w ∈ lw_gd := List.mem_filter.mpr ⟨List.mem_append_right _ (List.mem_append_right _ (List.mem_append_left _ (List.mem_of_getElem? h))), hg⟩
theorem gd3 {w : Cond} (i : Nat) (h : tables_1_3[i]? = some w) (hg : goodWord w = true) : w ∈ lw_gd := List.mem_filter.mpr ⟨List.mem_append_right _ (List.mem_append_right _ (List.mem_append_right _ (List.mem_append_left _ (List.mem_of_getElem? h)))), hg⟩
theorem gd4 {w : Cond} (i : Nat) (h : tables_1_4[i]? = some w) (hg : goodWord w = true) : w ∈ lw_gd := List.mem_filter.mpr ⟨List.mem_append_right _ (List.mem_append_right _ (List.mem_append_right _ (List.mem_append_right _ (List.mem_of_getElem? h)))), hg⟩
theorem gd_good : ∀ w ∈ lw_gd, (w.onTables && w.keeps) = true ∨ ∃ ty, w = .arrayClass ty := fun _ h => good_of_word (List.mem_filter.mp h).2
theorem gd_tbl : ∀ w ∈ lw_gd, w ∈ lw_tbl := fun _ h => (List.mem_filter.mp h).1
/-- a method: its name, code, locals, answer, frames and locals of its callees -/
abbrev Mt : Type := MethodName × ByteArray × Nat × Option FieldType × Nat × Nat
abbrev mY (M : Mt) : MethodName := M.1
abbrev mC (M : Mt) : ByteArray := M.2.1
abbrev mL (M : Mt) : Nat := M.2.2.1
abbrev mR (M : Mt) : Option FieldType := M.2.2.2.1
abbrev mF (M : Mt) : Nat := M.2.2.2.2.1
abbrev mO (M : Mt) : Nat := M.2.2.2.2.2
def mK (M : Mt) : Cond := .code (mY M) (mC M) (mL M) (mR M)
def mWs (M : Mt) : List Cond := mK M :: lw_gd
def mRm (M : Mt) : Room := { frames := mF M, cells := 0, slots := 0, locals := mO M }
/-- what the tables say of a method itself -/
def mOk (M : Mt) (n : Nat) : Prop := mK M ∈ lw_gd ∧ Cond.initialized (mY M).cls ∈ lw_gd ∧ ((mY M).cls ≠ "java/lang/invoke/MethodHandle" ∧ (mY M).cls ≠ "java/lang/invoke/VarHandle" ∧ (parseMethodDescriptor (mY M).desc).map (fun d => d.parameters.length) = some n) ∧ plainName (mY M).cls = true
def mVirt (M : Mt) : Prop := Cond.instanceMethod (mY M) ∈ lw_gd ∧ Cond.selects (mY M).cls (mY M) (mY M) ∈ lw_gd
def mStat (M : Mt) : Prop := Cond.static (mY M) ∈ lw_gd
def mLk (own : String) (i : Nat) (M : Mt) : Prop := Cond.methodLink own i (mY M) ∈ lw_gd
/-- the two links to private statics of the nest's host -/
def nst : List Cond := [.methodLinkNest "SilenceMinute$Train" 50 ⟨"SilenceMinute", "isTraveller", "(I)Z"⟩ "SilenceMinute", .methodLinkNest "SilenceMinute$Pad" 23 ⟨"SilenceMinute", "isWithin", "(III)Z"⟩ "SilenceMinute"]
/-- a field link: class ci of cls, field j -/
def fLk (own : String) (i ci j : Nat) : Prop := ∃ (C : String) (T : u_T) (N : Nat), cls[ci]? = some (C, T, N) ∧ j < N ∧ (T j).1 = C ∧ Cond.fieldLink own i C (T j).2.1 (T j).2.2.1 ∈ lw_gd
/-- a class's own rows -/
def cOk (ci : Nat) : Prop := ∃ (C : String) (T : u_T) (N : Nat) (ty : Nat → FieldType), cls[ci]? = some (C, T, N) ∧ (∀ w ∈ u_ws C T N, w ∈ lw_gd) ∧ (∀ k, k < N → parseFieldDescriptor (T k).2.2.1 = some (ty k)) ∧ (∀ a, a < N → ∀ b, b < N → a ≠ b → (T a).2.1 ≠ (T b).2.1) ∧ Cond.instantiable C N ∈ lw_gd ∧ Cond.initialized C ∈ lw_gd
def MX0_init : Mt := (⟨RX0, "<init>", "()V"⟩, prog_2_method_1_code, 1, none, 2, 41)
def MX0_keep : Mt := (⟨RX0, "keep", "(LSilenceMinute$Train;LSilenceMinute$Sights;)V"⟩, prog_2_method_2_code, 3, none, 1, 22)
def MX0_bringBack : Mt := (⟨RX0, "bringBack", "(LSilenceMinute$Train;LSilenceMinute$Sights;)Z"⟩, prog_2_method_3_code, 3, (some .boolean), 1, 22)
def MX1_init : Mt := (⟨RX1, "<init>", "()V"⟩, prog_3_method_1_code, 1, none, 1, 20)
def MX1_write : Mt := (⟨RX1, "write", "(I)Z"⟩, prog_3_method_2_code, 2, (some .boolean), 0, 0)
def MX1_clear : Mt := (⟨RX1, "clear", "()I"⟩, prog_3_method_3_code, 2, (some .int), 0, 0)
def MX1_signAt : Mt := (⟨RX1, "signAt", "(I)I"⟩, prog_3_method_4_code, 2, (some .int), 0, 0)
def MX1_isDigitAt : Mt := (⟨RX1, "isDigitAt", "(I)Z"⟩, prog_3_method_5_code, 2, (some .boolean), 1, 22)
def MX1_faultPlace : Mt := (⟨RX1, "faultPlace", "()I"⟩, prog_3_method_6_code, 3, (some .int), 3, 67)
def MX1_follow : Mt := (⟨RX1, "follow", "(II)I"⟩, prog_3_method_7_code, 5, (some .int), 2, 43)
def MX1_actLength : Mt := (⟨RX1, "actLength", "(I)I"⟩, prog_3_method_8_code, 2, (some .int), 2, 43)
def MX2_init : Mt := (⟨RX2, "<init>", "()V"⟩, prog_4_method_1_code, 1, none, 1, 20)
def MX2_settle : Mt := (⟨RX2, "settle", "(II)V"⟩, prog_4_method_2_code, 6, none, 3, 62)
def MX2_moverBehind : Mt := (⟨RX2, "moverBehind", "(I)I"⟩, prog_4_method_3_code, 1, (some .int), 0, 0)
def MX2_wordBefore : Mt := (⟨RX2, "wordBefore", "(I)I"⟩, prog_4_method_4_code, 1, (some .int), 1, 21)
def MX2_valueFor : Mt := (⟨RX2, "valueFor", "(II)I"⟩, prog_4_method_5_code, 3, (some .int), 0, 0)
def MX2_leaveOff : Mt := (⟨RX2, "leaveOff", "(I)V"⟩, prog_4_method_6_code, 2, none, 2, 41)
def MX3_init : Mt := (⟨RX3, "<init>", "()V"⟩, prog_5_method_1_code, 1, none, 1, 20)
def MX3_countWays : Mt := (⟨RX3, "countWays", "(LSilenceMinute$Train;II)V"⟩, prog_5_method_2_code, 9, none, 3, 69)
def MX3_isRider : Mt := (⟨RX3, "isRider", "(I)Z"⟩, prog_5_method_3_code, 2, (some .boolean), 0, 0)
def MX3_waysInAll : Mt := (⟨RX3, "waysInAll", "()I"⟩, prog_5_method_4_code, 3, (some .int), 1, 21)
def MX3_spread : Mt := (⟨RX3, "spread", "(I)V"⟩, prog_5_method_5_code, 4, none, 1, 21)
def MX3_digitsAsNumber : Mt := (⟨RX3, "digitsAsNumber", "()I"⟩, prog_5_method_6_code, 3, (some .int), 0, 0)
def MX3_twosInOneCompartment : Mt := (⟨RX3, "twosInOneCompartment", "()I"⟩, prog_5_method_7_code, 5, (some .int), 0, 0)
def MX3_meetableTwos : Mt := (⟨RX3, "meetableTwos", "(LSilenceMinute$Train;)I"⟩, prog_5_method_8_code, 5, (some .int), 2, 45)
def MX4_init : Mt := (⟨RX4, "<init>", "()V"⟩, prog_6_method_1_code, 1, none, 1, 20)
def MX4_copyFrom : Mt := (⟨RX4, "copyFrom", "(LSilenceMinute$Sights;)V"⟩, prog_6_method_2_code, 3, none, 0, 0)
def MX4_add : Mt := (⟨RX4, "add", "(II)Z"⟩, prog_6_method_3_code, 3, (some .boolean), 0, 0)
def MX4_clear : Mt := (⟨RX4, "clear", "()I"⟩, prog_6_method_4_code, 2, (some .int), 0, 0)
def MX4_suspects : Mt := (⟨RX4, "suspects", "(LSilenceMinute$Train;)I"⟩, prog_6_method_5_code, 4, (some .int), 4, 91)
def MX5_init : Mt := (⟨RX5, "<init>", "()V"⟩, prog_7_method_1_code, 2, none, 1, 20)
def MX5_copyFrom : Mt := (⟨RX5, "copyFrom", "(LSilenceMinute$Train;)V"⟩, prog_7_method_2_code, 3, none, 0, 0)
def MX5_isTunnel : Mt := (⟨RX5, "isTunnel", "(I)Z"⟩, prog_7_method_3_code, 2, (some .boolean), 0, 0)
def MX5_tunnelsOfLine : Mt := (⟨RX5, "tunnelsOfLine", "()I"⟩, prog_7_method_4_code, 3, (some .int), 1, 21)
def MX5_setRide : Mt := (⟨RX5, "setRide", "(III)V"⟩, prog_7_method_5_code, 4, none, 1, 20)
def MX5_setBid : Mt := (⟨RX5, "setBid", "(II)V"⟩, prog_7_method_6_code, 3, none, 1, 20)
def MX5_ridesAt : Mt := (⟨RX5, "ridesAt", "(II)Z"⟩, prog_7_method_7_code, 3, (some .boolean), 0, 0)
def MX5_ridesIn : Mt := (⟨RX5, "ridesIn", "(III)Z"⟩, prog_7_method_8_code, 4, (some .boolean), 1, 22)
def MX5_ridesNow : Mt := (⟨RX5, "ridesNow", "(I)Z"⟩, prog_7_method_9_code, 2, (some .boolean), 1, 22)
def MX5_ridesFromNowOn : Mt := (⟨RX5, "ridesFromNowOn", "(I)Z"⟩, prog_7_method_10_code, 3, (some .boolean), 1, 22)
def MX5_minutesOf : Mt := (⟨RX5, "minutesOf", "(I)I"⟩, prog_7_method_11_code, 4, (some .int), 1, 22)
def MX5_ridersOf : Mt := (⟨RX5, "ridersOf", "(II)I"⟩, prog_7_method_12_code, 5, (some .int), 2, 45)
def MX5_companionsOf : Mt := (⟨RX5, "companionsOf", "(II)I"⟩, prog_7_method_13_code, 3, (some .int), 3, 69)
def MX5_ridersOfLine : Mt := (⟨RX5, "ridersOfLine", "()I"⟩, prog_7_method_14_code, 3, (some .int), 2, 45)
def MX5_rideTogether : Mt := (⟨RX5, "rideTogether", "(II)Z"⟩, prog_7_method_15_code, 4, (some .boolean), 1, 22)
def MX5_holderOf : Mt := (⟨RX5, "holderOf", "(I)I"⟩, prog_7_method_16_code, 6, (some .int), 1, 22)
def MX5_isHolder : Mt := (⟨RX5, "isHolder", "(I)Z"⟩, prog_7_method_17_code, 2, (some .boolean), 2, 47)
def MX5_maySpeak : Mt := (⟨RX5, "maySpeak", "(I)Z"⟩, prog_7_method_18_code, 3, (some .boolean), 2, 47)
def MX5_passMinute : Mt := (⟨RX5, "passMinute", "()Z"⟩, prog_7_method_19_code, 3, (some .boolean), 2, 47)
def MX5_takeCough : Mt := (⟨RX5, "takeCough", "(I)V"⟩, prog_7_method_20_code, 4, none, 2, 47)
def MX5_payGuard : Mt := (⟨RX5, "payGuard", "(II)V"⟩, prog_7_method_21_code, 3, none, 1, 20)
def MX5_doDrawn : Mt := (⟨RX5, "doDrawn", "(I)V"⟩, prog_7_method_22_code, 4, none, 3, 70)
def MX5_knownAfter : Mt := (⟨RX5, "knownAfter", "(II)I"⟩, prog_7_method_23_code, 6, (some .int), 3, 69)
def MX6_init : Mt := (⟨RX6, "<init>", "()V"⟩, prog_8_method_1_code, 1, none, 1, 20)
def MX6_tryRides : Mt := (⟨RX6, "tryRides", "(LSilenceMinute$Pad;LSilenceMinute$Train;)V"⟩, prog_8_method_2_code, 5, none, 4, 95)
def MX6_tryAct : Mt := (⟨RX6, "tryAct", "(LSilenceMinute$Pad;ILSilenceMinute$Train;)I"⟩, prog_8_method_3_code, 6, (some .int), 3, 70)
def MX7_init : Mt := (⟨RX7, "<init>", "()V"⟩, prog_1_method_1_code, 1, none, 3, 61)
def MX7_line : Mt := (⟨RX7, "line", "(I)I"⟩, prog_1_method_2_code, 3, (some .int), 1, 22)
def MX7_tunnel : Mt := (⟨RX7, "tunnel", "(IZ)I"⟩, prog_1_method_3_code, 4, (some .int), 2, 43)
def MX7_ride : Mt := (⟨RX7, "ride", "(III)I"⟩, prog_1_method_4_code, 4, (some .int), 2, 45)
def MX7_seat : Mt := (⟨RX7, "seat", "(II)I"⟩, prog_1_method_5_code, 4, (some .int), 1, 20)
def MX7_purse : Mt := (⟨RX7, "purse", "(II)I"⟩, prog_1_method_6_code, 4, (some .int), 1, 22)
def MX7_fine : Mt := (⟨RX7, "fine", "(I)I"⟩, prog_1_method_7_code, 3, (some .int), 1, 22)
def MX7_say : Mt := (⟨RX7, "say", "(I)I"⟩, prog_1_method_8_code, 2, (some .int), 1, 22)
def MX7_wipe : Mt := (⟨RX7, "wipe", "()I"⟩, prog_1_method_9_code, 1, (some .int), 1, 21)
def MX7_fault : Mt := (⟨RX7, "fault", "()I"⟩, prog_1_method_10_code, 1, (some .int), 4, 89)
def MX7_judge : Mt := (⟨RX7, "judge", "(I)I"⟩, prog_1_method_11_code, 2, (some .int), 6, 139)
def MX7_done : Mt := (⟨RX7, "done", "()I"⟩, prog_1_method_12_code, 1, (some .int), 6, 139)
def MX7_behind : Mt := (⟨RX7, "behind", "(I)I"⟩, prog_1_method_13_code, 2, (some .int), 6, 139)
def MX7_holds : Mt := (⟨RX7, "holds", "(I)I"⟩, prog_1_method_14_code, 2, (some .int), 2, 47)
def MX7_hears : Mt := (⟨RX7, "hears", "(I)I"⟩, prog_1_method_15_code, 2, (some .int), 4, 91)
def MX7_forecast : Mt := (⟨RX7, "forecast", "(II)I"⟩, prog_1_method_16_code, 4, (some .int), 3, 69)
def MX7_rests : Mt := (⟨RX7, "rests", "(I)I"⟩, prog_1_method_17_code, 2, (some .int), 4, 90)
def MX7_talks : Mt := (⟨RX7, "talks", "(II)I"⟩, prog_1_method_18_code, 5, (some .int), 3, 69)
def MX7_buy : Mt := (⟨RX7, "buy", "(II)I"⟩, prog_1_method_19_code, 4, (some .int), 4, 93)
def MX7_seats : Mt := (⟨RX7, "seats", "(III)I"⟩, prog_1_method_20_code, 4, (some .int), 4, 97)
def MX7_word : Mt := (⟨RX7, "word", "(II)I"⟩, prog_1_method_21_code, 5, (some .int), 4, 94)
def MX7_heard : Mt := (⟨RX7, "heard", "(III)I"⟩, prog_1_method_22_code, 6, (some .int), 4, 94)
def MX7_richest : Mt := (⟨RX7, "richest", "(I)I"⟩, prog_1_method_23_code, 4, (some .int), 4, 90)
def MX7_seen : Mt := (⟨RX7, "seen", "(II)I"⟩, prog_1_method_24_code, 3, (some .int), 1, 22)
def MX7_forget : Mt := (⟨RX7, "forget", "()I"⟩, prog_1_method_25_code, 1, (some .int), 1, 21)
def MX7_hum : Mt := (⟨RX7, "hum", "()I"⟩, prog_1_method_26_code, 1, (some .int), 5, 114)
def MX7_watch : Mt := (⟨RX7, "watch", "(I)I"⟩, prog_1_method_27_code, 8, (some .int), 5, 114)
def MX7_auction : Mt := (⟨RX7, "auction", "(III)I"⟩, prog_1_method_28_code, 4, (some .int), 4, 87)
def MX7_coughs : Mt := (⟨RX7, "coughs", "(III)J"⟩, prog_1_method_29_code, 4, (some .long), 4, 92)
def MX7_year : Mt := (⟨RX7, "year", "(III)I"⟩, prog_1_method_30_code, 6, (some .int), 4, 93)
def MX7_image : Mt := (⟨RX7, "image", "(I)I"⟩, prog_1_method_31_code, 2, (some .int), 2, 44)
def MX7_restore : Mt := (⟨RX7, "restore", "(I)I"⟩, prog_1_method_32_code, 2, (some .int), 2, 44)
def MX7_told : Mt := (⟨RX7, "told", "(I)I"⟩, prog_1_method_33_code, 2, (some .int), 2, 42)
def MX7_isWithin : Mt := (⟨RX7, "isWithin", "(III)Z"⟩, prog_1_method_34_code, 3, (some .boolean), 0, 0)
def MX7_isTraveller : Mt := (⟨RX7, "isTraveller", "(I)Z"⟩, prog_1_method_35_code, 1, (some .boolean), 0, 0)
def MX7_isCompartment : Mt := (⟨RX7, "isCompartment", "(I)Z"⟩, prog_1_method_36_code, 1, (some .boolean), 0, 0)
def MX7_isMinute : Mt := (⟨RX7, "isMinute", "(I)Z"⟩, prog_1_method_37_code, 1, (some .boolean), 0, 0)
def MX7_padCanBe : Mt := (⟨RX7, "padCanBe", "()Z"⟩, prog_1_method_38_code, 1, (some .boolean), 5, 119)
def MX7_letAllMinutesPass : Mt := (⟨RX7, "letAllMinutesPass", "()V"⟩, prog_1_method_39_code, 2, none, 3, 69)
def MX7_keepsSilence : Mt := (⟨RX7, "keepsSilence", "(II)Z"⟩, prog_1_method_40_code, 5, (some .boolean), 3, 69)
def MX7_paidInTrial : Mt := (⟨RX7, "paidInTrial", "(I)I"⟩, prog_1_method_41_code, 2, (some .int), 1, 20)
def MX7_paidByCompartment : Mt := (⟨RX7, "paidByCompartment", "(I)I"⟩, prog_1_method_42_code, 4, (some .int), 2, 41)
def MX7_topPayer : Mt := (⟨RX7, "topPayer", "()I"⟩, prog_1_method_43_code, 4, (some .int), 2, 41)
def MX7_leftAtMost : Mt := (⟨RX7, "leftAtMost", "(II)I"⟩, prog_1_method_44_code, 4, (some .int), 1, 21)
def MX7_chancesToCough : Mt := (⟨RX7, "chancesToCough", "(I)I"⟩, prog_1_method_45_code, 4, (some .int), 3, 69)
def MX7_tenthsInLowestTerms : Mt := (⟨RX7, "tenthsInLowestTerms", "(II)I"⟩, prog_1_method_46_code, 4, (some .int), 0, 0)
def MX7_imageAt : Mt := (⟨RX7, "imageAt", "(I)LSilenceMinute$Image;"⟩, prog_1_method_47_code, 2, (some (.object "SilenceMinute$Image")), 0, 0)
def MX7_toldOf : Mt := (⟨RX7, "toldOf", "(II)I"⟩, prog_1_method_48_code, 3, (some .int), 1, 20)
def MX8_init : Mt := (⟨RX8, "<init>", "()V"⟩, prog_10_method_1_code, 2, none, 1, 20)
def MX8_in : Mt := (⟨RX8, "in", "(III)Z"⟩, prog_10_method_2_code, 3, (some .boolean), 0, 0)
def MX8_has : Mt := (⟨RX8, "has", "(II)Z"⟩, prog_10_method_3_code, 2, (some .boolean), 0, 0)
def MX8_bits : Mt := (⟨RX8, "bits", "(I)I"⟩, prog_10_method_4_code, 3, (some .int), 0, 0)
def MX8_isOne : Mt := (⟨RX8, "isOne", "(I)Z"⟩, prog_10_method_5_code, 1, (some .boolean), 1, 22)
def MX8_isRoom : Mt := (⟨RX8, "isRoom", "(I)Z"⟩, prog_10_method_6_code, 1, (some .boolean), 1, 22)
def MX8_line : Mt := (⟨RX8, "line", "(I)I"⟩, prog_10_method_7_code, 3, (some .int), 1, 22)
def MX8_tunnel : Mt := (⟨RX8, "tunnel", "(IZ)I"⟩, prog_10_method_8_code, 3, (some .int), 1, 22)
def MX8_rides : Mt := (⟨RX8, "rides", "(II)Z"⟩, prog_10_method_9_code, 3, (some .boolean), 1, 22)
def MX8_ride : Mt := (⟨RX8, "ride", "(III)I"⟩, prog_10_method_10_code, 7, (some .int), 2, 44)
def MX8_seat : Mt := (⟨RX8, "seat", "(II)I"⟩, prog_10_method_11_code, 4, (some .int), 2, 42)
def MX8_purse : Mt := (⟨RX8, "purse", "(II)I"⟩, prog_10_method_12_code, 4, (some .int), 2, 42)
def MX8_fine : Mt := (⟨RX8, "fine", "(I)I"⟩, prog_10_method_13_code, 3, (some .int), 1, 22)
def MX8_say : Mt := (⟨RX8, "say", "(I)I"⟩, prog_10_method_14_code, 2, (some .int), 1, 22)
def MX8_wipe : Mt := (⟨RX8, "wipe", "()I"⟩, prog_10_method_15_code, 2, (some .int), 0, 0)
def MX8_isLetter : Mt := (⟨RX8, "isLetter", "(I)Z"⟩, prog_10_method_16_code, 1, (some .boolean), 1, 22)
def MX8_isDigit : Mt := (⟨RX8, "isDigit", "(I)Z"⟩, prog_10_method_17_code, 1, (some .boolean), 1, 22)
def MX8_faultOf : Mt := (⟨RX8, "faultOf", "()I"⟩, prog_10_method_18_code, 6, (some .int), 2, 42)
def MX8_fault : Mt := (⟨RX8, "fault", "()I"⟩, prog_10_method_19_code, 1, (some .int), 3, 67)
def MX8_asNow : Mt := (⟨RX8, "asNow", "()V"⟩, prog_10_method_20_code, 2, none, 0, 0)
def MX8_isTunnel : Mt := (⟨RX8, "isTunnel", "(I)Z"⟩, prog_10_method_21_code, 2, (some .boolean), 1, 21)
def MX8_holder : Mt := (⟨RX8, "holder", "(I)I"⟩, prog_10_method_22_code, 5, (some .int), 2, 44)
def MX8_pass : Mt := (⟨RX8, "pass", "()V"⟩, prog_10_method_23_code, 3, none, 3, 68)
def MX8_ridesNow : Mt := (⟨RX8, "ridesNow", "(I)Z"⟩, prog_10_method_24_code, 2, (some .boolean), 2, 44)
def MX8_maySpeak : Mt := (⟨RX8, "maySpeak", "(I)Z"⟩, prog_10_method_25_code, 3, (some .boolean), 3, 68)
def MX8_cough : Mt := (⟨RX8, "cough", "(I)V"⟩, prog_10_method_26_code, 4, none, 3, 68)
def MX8_whyNot : Mt := (⟨RX8, "whyNot", "(II)I"⟩, prog_10_method_27_code, 3, (some .int), 4, 90)
def MX8_goRides : Mt := (⟨RX8, "goRides", "()I"⟩, prog_10_method_28_code, 4, (some .int), 5, 112)
def MX8_judge : Mt := (⟨RX8, "judge", "(I)I"⟩, prog_10_method_29_code, 3, (some .int), 6, 135)
def MX8_barOfRides : Mt := (⟨RX8, "barOfRides", "()I"⟩, prog_10_method_30_code, 1, (some .int), 6, 135)
def MX8_done : Mt := (⟨RX8, "done", "()I"⟩, prog_10_method_31_code, 2, (some .int), 7, 155)
def MX8_behind : Mt := (⟨RX8, "behind", "(I)I"⟩, prog_10_method_32_code, 2, (some .int), 7, 155)
def MX8_holds : Mt := (⟨RX8, "holds", "(I)I"⟩, prog_10_method_33_code, 2, (some .int), 3, 68)
def MX8_hears : Mt := (⟨RX8, "hears", "(I)I"⟩, prog_10_method_34_code, 4, (some .int), 4, 90)
def MX8_forecast : Mt := (⟨RX8, "forecast", "(II)I"⟩, prog_10_method_35_code, 4, (some .int), 4, 90)
def MX8_toEnd : Mt := (⟨RX8, "toEnd", "()V"⟩, prog_10_method_36_code, 1, none, 4, 90)
def MX8_rests : Mt := (⟨RX8, "rests", "(I)I"⟩, prog_10_method_37_code, 2, (some .int), 5, 110)
def MX8_talks : Mt := (⟨RX8, "talks", "(II)I"⟩, prog_10_method_38_code, 4, (some .int), 4, 90)
def MX8_buy : Mt := (⟨RX8, "buy", "(II)I"⟩, prog_10_method_39_code, 6, (some .int), 4, 90)
def MX8_ridesAtAll : Mt := (⟨RX8, "ridesAtAll", "(I)Z"⟩, prog_10_method_40_code, 4, (some .boolean), 2, 44)
def MX8_rideAtOnce : Mt := (⟨RX8, "rideAtOnce", "(II)Z"⟩, prog_10_method_41_code, 5, (some .boolean), 2, 44)
def MX8_seats : Mt := (⟨RX8, "seats", "(III)I"⟩, prog_10_method_42_code, 14, (some .int), 3, 68)
def MX8_goWord : Mt := (⟨RX8, "goWord", "(III)I"⟩, prog_10_method_43_code, 10, (some .int), 2, 44)
def MX8_word : Mt := (⟨RX8, "word", "(II)I"⟩, prog_10_method_44_code, 3, (some .int), 3, 73)
def MX8_heard : Mt := (⟨RX8, "heard", "(III)I"⟩, prog_10_method_45_code, 4, (some .int), 3, 73)
def MX8_richest : Mt := (⟨RX8, "richest", "(I)I"⟩, prog_10_method_46_code, 6, (some .int), 5, 110)
def MX8_seen : Mt := (⟨RX8, "seen", "(II)I"⟩, prog_10_method_47_code, 3, (some .int), 2, 42)
def MX8_forget : Mt := (⟨RX8, "forget", "()I"⟩, prog_10_method_48_code, 2, (some .int), 0, 0)
def MX8_humSet : Mt := (⟨RX8, "humSet", "()I"⟩, prog_10_method_49_code, 6, (some .int), 3, 67)
def MX8_hum : Mt := (⟨RX8, "hum", "()I"⟩, prog_10_method_50_code, 1, (some .int), 4, 92)
def MX8_watch : Mt := (⟨RX8, "watch", "(I)I"⟩, prog_10_method_51_code, 9, (some .int), 4, 92)
def MX8_auction : Mt := (⟨RX8, "auction", "(III)I"⟩, prog_10_method_52_code, 10, (some .int), 1, 22)
def MX8_coughs : Mt := (⟨RX8, "coughs", "(III)J"⟩, prog_10_method_53_code, 12, (some .long), 4, 90)
def MX8_year : Mt := (⟨RX8, "year", "(III)I"⟩, prog_10_method_54_code, 8, (some .int), 4, 91)
def MX8_image : Mt := (⟨RX8, "image", "(I)I"⟩, prog_10_method_55_code, 4, (some .int), 1, 22)
def MX8_restore : Mt := (⟨RX8, "restore", "(I)I"⟩, prog_10_method_56_code, 4, (some .int), 1, 22)
def MX8_told : Mt := (⟨RX8, "told", "(I)I"⟩, prog_10_method_57_code, 3, (some .int), 2, 42)
def MJ6_bitCount : Mt := (⟨RJ6, "bitCount", "(I)I"⟩, prog_11_method_49_code, 1, (some .int), 0, 0)
def MJ9_max : Mt := (⟨RJ9, "max", "(II)I"⟩, prog_12_method_65_code, 2, (some .int), 0, 0)
def MJ9_min : Mt := (⟨RJ9, "min", "(II)I"⟩, prog_12_method_69_code, 2, (some .int), 0, 0)
theorem ok_MX0_keep : mOk MX0_keep 2 := ⟨gd3 114 rfl rfl, gd1 8 rfl rfl, (by decide +kernel), (by decide +kernel)⟩
theorem vi_MX0_keep : mVirt MX0_keep := ⟨gd3 112 rfl rfl, gd3 113 rfl rfl⟩
theorem ok_MX0_bringBack : mOk MX0_bringBack 2 := ⟨gd3 127 rfl rfl, gd1 8 rfl rfl, (by decide +kernel), (by decide +kernel)⟩
theorem vi_MX0_bringBack : mVirt MX0_bringBack := ⟨gd3 125 rfl rfl, gd3 126 rfl rfl⟩
theorem ok_MX1_write : mOk MX1_write 1 := ⟨gd2 30 rfl rfl, gd1 3 rfl rfl, (by decide +kernel), (by decide +kernel)⟩
theorem vi_MX1_write : mVirt MX1_write := ⟨gd2 28 rfl rfl, gd2 29 rfl rfl⟩
theorem ok_MX1_clear : mOk MX1_clear 0 := ⟨gd2 38 rfl rfl, gd1 3 rfl rfl, (by decide +kernel), (by decide +kernel)⟩
theorem vi_MX1_clear : mVirt MX1_clear := ⟨gd2 36 rfl rfl, gd2 37 rfl rfl⟩
theorem ok_MX1_signAt : mOk MX1_signAt 1 := ⟨gd2 54 rfl rfl, gd1 3 rfl rfl, (by decide +kernel), (by decide +kernel)⟩
theorem vi_MX1_signAt : mVirt MX1_signAt := ⟨gd2 52 rfl rfl, gd2 53 rfl rfl⟩
theorem ok_MX1_isDigitAt : mOk MX1_isDigitAt 1 := ⟨gd2 59 rfl rfl, gd1 3 rfl rfl, (by decide +kernel), (by decide +kernel)⟩
theorem vi_MX1_isDigitAt : mVirt MX1_isDigitAt := ⟨gd2 57 rfl rfl, gd2 58 rfl rfl⟩
theorem ok_MX1_faultPlace : mOk MX1_faultPlace 0 := ⟨gd2 46 rfl rfl, gd1 3 rfl rfl, (by decide +kernel), (by decide +kernel)⟩
theorem vi_MX1_faultPlace : mVirt MX1_faultPlace := ⟨gd2 44 rfl rfl, gd2 45 rfl rfl⟩
theorem ok_MX1_follow : mOk MX1_follow 2 := ⟨gd2 50 rfl rfl, gd1 3 rfl rfl, (by decide +kernel), (by decide +kernel)⟩
theorem vi_MX1_follow : mVirt MX1_follow := ⟨gd2 49 rfl rfl, gd_at 0 (by decide +kernel) rfl⟩
theorem ok_MX1_actLength : mOk MX1_actLength 1 := ⟨gd2 116 rfl rfl, gd1 3 rfl rfl, (by decide +kernel), (by decide +kernel)⟩
theorem vi_MX1_actLength : mVirt MX1_actLength := ⟨gd2 114 rfl rfl, gd2 115 rfl rfl⟩
theorem ok_MX2_settle : mOk MX2_settle 2 := ⟨gd3 62 rfl rfl, gd1 7 rfl rfl, (by decide +kernel), (by decide +kernel)⟩
theorem vi_MX2_settle : mVirt MX2_settle := ⟨gd3 60 rfl rfl, gd3 61 rfl rfl⟩
theorem ok_MX2_moverBehind : mOk MX2_moverBehind 1 := ⟨gd3 69 rfl rfl, gd1 7 rfl rfl, (by decide +kernel), (by decide +kernel)⟩
theorem st_MX2_moverBehind : mStat MX2_moverBehind := gd3 68 rfl rfl
theorem ok_MX2_wordBefore : mOk MX2_wordBefore 1 := ⟨gd3 72 rfl rfl, gd1 7 rfl rfl, (by decide +kernel), (by decide +kernel)⟩
theorem st_MX2_wordBefore : mStat MX2_wordBefore := gd3 71 rfl rfl
theorem ok_MX2_valueFor : mOk MX2_valueFor 2 := ⟨gd3 77 rfl rfl, gd1 7 rfl rfl, (by decide +kernel), (by decide +kernel)⟩
theorem vi_MX2_valueFor : mVirt MX2_valueFor := ⟨gd3 76 rfl rfl, gd_at 14 (by decide +kernel) rfl⟩
theorem ok_MX2_leaveOff : mOk MX2_leaveOff 1 := ⟨gd3 66 rfl rfl, gd1 7 rfl rfl, (by decide +kernel), (by decide +kernel)⟩
theorem vi_MX2_leaveOff : mVirt MX2_leaveOff := ⟨gd3 65 rfl rfl, gd_at 13 (by decide +kernel) rfl⟩
theorem ok_MX3_countWays : mOk MX3_countWays 3 := ⟨gd2 195 rfl rfl, gd1 6 rfl rfl, (by decide +kernel), (by decide +kernel)⟩
theorem vi_MX3_countWays : mVirt MX3_countWays := ⟨gd2 193 rfl rfl, gd2 194 rfl rfl⟩
theorem ok_MX3_isRider : mOk MX3_isRider 1 := ⟨gd2 215 rfl rfl, gd1 6 rfl rfl, (by decide +kernel), (by decide +kernel)⟩
theorem vi_MX3_isRider : mVirt MX3_isRider := ⟨gd2 214 rfl rfl, gd_at 7 (by decide +kernel) rfl⟩
theorem ok_MX3_waysInAll : mOk MX3_waysInAll 0 := ⟨gd2 211 rfl rfl, gd1 6 rfl rfl, (by decide +kernel), (by decide +kernel)⟩
theorem vi_MX3_waysInAll : mVirt MX3_waysInAll := ⟨gd2 210 rfl rfl, gd_at 6 (by decide +kernel) rfl⟩
theorem ok_MX3_spread : mOk MX3_spread 1 := ⟨gd2 219 rfl rfl, gd1 6 rfl rfl, (by decide +kernel), (by decide +kernel)⟩
theorem vi_MX3_spread : mVirt MX3_spread := ⟨gd2 218 rfl rfl, gd_at 8 (by decide +kernel) rfl⟩
theorem ok_MX3_digitsAsNumber : mOk MX3_digitsAsNumber 0 := ⟨gd2 227 rfl rfl, gd1 6 rfl rfl, (by decide +kernel), (by decide +kernel)⟩
theorem vi_MX3_digitsAsNumber : mVirt MX3_digitsAsNumber := ⟨gd2 226 rfl rfl, gd_at 10 (by decide +kernel) rfl⟩
theorem ok_MX3_twosInOneCompartment : mOk MX3_twosInOneCompartment 0 := ⟨gd2 223 rfl rfl, gd1 6 rfl rfl, (by decide +kernel), (by decide +kernel)⟩
theorem vi_MX3_twosInOneCompartment : mVirt MX3_twosInOneCompartment := ⟨gd2 222 rfl rfl, gd_at 9 (by decide +kernel) rfl⟩
theorem ok_MX3_meetableTwos : mOk MX3_meetableTwos 1 := ⟨gd2 203 rfl rfl, gd1 6 rfl rfl, (by decide +kernel), (by decide +kernel)⟩
theorem st_MX3_meetableTwos : mStat MX3_meetableTwos := gd2 202 rfl rfl
theorem ok_MX4_copyFrom : mOk MX4_copyFrom 1 := ⟨gd3 119 rfl rfl, gd1 5 rfl rfl, (by decide +kernel), (by decide +kernel)⟩
theorem vi_MX4_copyFrom : mVirt MX4_copyFrom := ⟨gd3 117 rfl rfl, gd3 118 rfl rfl⟩
theorem ok_MX4_add : mOk MX4_add 2 := ⟨gd3 19 rfl rfl, gd1 5 rfl rfl, (by decide +kernel), (by decide +kernel)⟩
theorem vi_MX4_add : mVirt MX4_add := ⟨gd3 17 rfl rfl, gd3 18 rfl rfl⟩
theorem ok_MX4_clear : mOk MX4_clear 0 := ⟨gd3 27 rfl rfl, gd1 5 rfl rfl, (by decide +kernel), (by decide +kernel)⟩
theorem vi_MX4_clear : mVirt MX4_clear := ⟨gd3 25 rfl rfl, gd3 26 rfl rfl⟩
theorem ok_MX4_suspects : mOk MX4_suspects 1 := ⟨gd3 35 rfl rfl, gd1 5 rfl rfl, (by decide +kernel), (by decide +kernel)⟩
theorem vi_MX4_suspects : mVirt MX4_suspects := ⟨gd3 33 rfl rfl, gd3 34 rfl rfl⟩
theorem ok_MX5_copyFrom : mOk MX5_copyFrom 1 := ⟨gd2 71 rfl rfl, gd1 2 rfl rfl, (by decide +kernel), (by decide +kernel)⟩
theorem vi_MX5_copyFrom : mVirt MX5_copyFrom := ⟨gd2 69 rfl rfl, gd2 70 rfl rfl⟩
theorem ok_MX5_isTunnel : mOk MX5_isTunnel 1 := ⟨gd1 227 rfl rfl, gd1 2 rfl rfl, (by decide +kernel), (by decide +kernel)⟩
theorem vi_MX5_isTunnel : mVirt MX5_isTunnel := ⟨gd1 225 rfl rfl, gd1 226 rfl rfl⟩
theorem ok_MX5_tunnelsOfLine : mOk MX5_tunnelsOfLine 0 := ⟨gd1 223 rfl rfl, gd1 2 rfl rfl, (by decide +kernel), (by decide +kernel)⟩
theorem vi_MX5_tunnelsOfLine : mVirt MX5_tunnelsOfLine := ⟨gd1 221 rfl rfl, gd1 222 rfl rfl⟩
theorem ok_MX5_setRide : mOk MX5_setRide 3 := ⟨gd1 238 rfl rfl, gd1 2 rfl rfl, (by decide +kernel), (by decide +kernel)⟩
theorem vi_MX5_setRide : mVirt MX5_setRide := ⟨gd1 236 rfl rfl, gd1 237 rfl rfl⟩
theorem ok_MX5_setBid : mOk MX5_setBid 2 := ⟨gd2 96 rfl rfl, gd1 2 rfl rfl, (by decide +kernel), (by decide +kernel)⟩
theorem vi_MX5_setBid : mVirt MX5_setBid := ⟨gd2 94 rfl rfl, gd2 95 rfl rfl⟩
theorem ok_MX5_ridesAt : mOk MX5_ridesAt 2 := ⟨gd2 7 rfl rfl, gd1 2 rfl rfl, (by decide +kernel), (by decide +kernel)⟩
theorem vi_MX5_ridesAt : mVirt MX5_ridesAt := ⟨gd2 5 rfl rfl, gd2 6 rfl rfl⟩
theorem ok_MX5_ridesIn : mOk MX5_ridesIn 3 := ⟨gd2 146 rfl rfl, gd1 2 rfl rfl, (by decide +kernel), (by decide +kernel)⟩
theorem vi_MX5_ridesIn : mVirt MX5_ridesIn := ⟨gd2 144 rfl rfl, gd2 145 rfl rfl⟩
theorem ok_MX5_ridesNow : mOk MX5_ridesNow 1 := ⟨gd2 100 rfl rfl, gd1 2 rfl rfl, (by decide +kernel), (by decide +kernel)⟩
theorem vi_MX5_ridesNow : mVirt MX5_ridesNow := ⟨gd2 98 rfl rfl, gd2 99 rfl rfl⟩
theorem ok_MX5_ridesFromNowOn : mOk MX5_ridesFromNowOn 1 := ⟨gd2 172 rfl rfl, gd1 2 rfl rfl, (by decide +kernel), (by decide +kernel)⟩
theorem vi_MX5_ridesFromNowOn : mVirt MX5_ridesFromNowOn := ⟨gd2 170 rfl rfl, gd2 171 rfl rfl⟩
theorem ok_MX5_minutesOf : mOk MX5_minutesOf 1 := ⟨gd2 3 rfl rfl, gd1 2 rfl rfl, (by decide +kernel), (by decide +kernel)⟩
theorem vi_MX5_minutesOf : mVirt MX5_minutesOf := ⟨gd2 1 rfl rfl, gd2 2 rfl rfl⟩
theorem ok_MX5_ridersOf : mOk MX5_ridersOf 2 := ⟨gd2 142 rfl rfl, gd1 2 rfl rfl, (by decide +kernel), (by decide +kernel)⟩
theorem vi_MX5_ridersOf : mVirt MX5_ridersOf := ⟨gd2 140 rfl rfl, gd2 141 rfl rfl⟩
theorem ok_MX5_companionsOf : mOk MX5_companionsOf 2 := ⟨gd2 138 rfl rfl, gd1 2 rfl rfl, (by decide +kernel), (by decide +kernel)⟩
theorem vi_MX5_companionsOf : mVirt MX5_companionsOf := ⟨gd2 136 rfl rfl, gd2 137 rfl rfl⟩
theorem ok_MX5_ridersOfLine : mOk MX5_ridersOfLine 0 := ⟨gd2 199 rfl rfl, gd1 2 rfl rfl, (by decide +kernel), (by decide +kernel)⟩
theorem vi_MX5_ridersOfLine : mVirt MX5_ridersOfLine := ⟨gd2 197 rfl rfl, gd2 198 rfl rfl⟩
theorem ok_MX5_rideTogether : mOk MX5_rideTogether 2 := ⟨gd2 207 rfl rfl, gd1 2 rfl rfl, (by decide +kernel), (by decide +kernel)⟩
theorem vi_MX5_rideTogether : mVirt MX5_rideTogether := ⟨gd2 205 rfl rfl, gd2 206 rfl rfl⟩
theorem ok_MX5_holderOf : mOk MX5_holderOf 1 := ⟨gd2 87 rfl rfl, gd1 2 rfl rfl, (by decide +kernel), (by decide +kernel)⟩
theorem vi_MX5_holderOf : mVirt MX5_holderOf := ⟨gd2 85 rfl rfl, gd2 86 rfl rfl⟩
theorem ok_MX5_isHolder : mOk MX5_isHolder 1 := ⟨gd2 183 rfl rfl, gd1 2 rfl rfl, (by decide +kernel), (by decide +kernel)⟩
theorem vi_MX5_isHolder : mVirt MX5_isHolder := ⟨gd2 181 rfl rfl, gd2 182 rfl rfl⟩
theorem ok_MX5_maySpeak : mOk MX5_maySpeak 1 := ⟨gd2 104 rfl rfl, gd1 2 rfl rfl, (by decide +kernel), (by decide +kernel)⟩
theorem vi_MX5_maySpeak : mVirt MX5_maySpeak := ⟨gd2 102 rfl rfl, gd2 103 rfl rfl⟩
theorem ok_MX5_passMinute : mOk MX5_passMinute 0 := ⟨gd2 83 rfl rfl, gd1 2 rfl rfl, (by decide +kernel), (by decide +kernel)⟩
theorem vi_MX5_passMinute : mVirt MX5_passMinute := ⟨gd2 81 rfl rfl, gd2 82 rfl rfl⟩
theorem ok_MX5_takeCough : mOk MX5_takeCough 1 := ⟨gd2 109 rfl rfl, gd1 2 rfl rfl, (by decide +kernel), (by decide +kernel)⟩
theorem vi_MX5_takeCough : mVirt MX5_takeCough := ⟨gd2 107 rfl rfl, gd2 108 rfl rfl⟩
theorem ok_MX5_payGuard : mOk MX5_payGuard 2 := ⟨gd2 91 rfl rfl, gd1 2 rfl rfl, (by decide +kernel), (by decide +kernel)⟩
theorem vi_MX5_payGuard : mVirt MX5_payGuard := ⟨gd2 90 rfl rfl, gd_at 2 (by decide +kernel) rfl⟩
theorem ok_MX5_doDrawn : mOk MX5_doDrawn 1 := ⟨gd3 99 rfl rfl, gd1 2 rfl rfl, (by decide +kernel), (by decide +kernel)⟩
theorem vi_MX5_doDrawn : mVirt MX5_doDrawn := ⟨gd3 97 rfl rfl, gd3 98 rfl rfl⟩
theorem ok_MX5_knownAfter : mOk MX5_knownAfter 2 := ⟨gd2 235 rfl rfl, gd1 2 rfl rfl, (by decide +kernel), (by decide +kernel)⟩
theorem vi_MX5_knownAfter : mVirt MX5_knownAfter := ⟨gd2 233 rfl rfl, gd2 234 rfl rfl⟩
theorem ok_MX6_tryRides : mOk MX6_tryRides 2 := ⟨gd2 75 rfl rfl, gd1 4 rfl rfl, (by decide +kernel), (by decide +kernel)⟩
theorem vi_MX6_tryRides : mVirt MX6_tryRides := ⟨gd2 73 rfl rfl, gd2 74 rfl rfl⟩
theorem ok_MX6_tryAct : mOk MX6_tryAct 3 := ⟨gd2 78 rfl rfl, gd1 4 rfl rfl, (by decide +kernel), (by decide +kernel)⟩
theorem st_MX6_tryAct : mStat MX6_tryAct := gd2 77 rfl rfl
theorem ok_MX7_line : mOk MX7_line 1 := ⟨gd1 209 rfl rfl, gd1 1 rfl rfl, (by decide +kernel), (by decide +kernel)⟩
theorem vi_MX7_line : mVirt MX7_line := ⟨gd1 207 rfl rfl, gd1 208 rfl rfl⟩
theorem ok_MX7_tunnel : mOk MX7_tunnel 2 := ⟨gd1 216 rfl rfl, gd1 1 rfl rfl, (by decide +kernel), (by decide +kernel)⟩
theorem vi_MX7_tunnel : mVirt MX7_tunnel := ⟨gd1 214 rfl rfl, gd1 215 rfl rfl⟩
theorem ok_MX7_ride : mOk MX7_ride 3 := ⟨gd1 231 rfl rfl, gd1 1 rfl rfl, (by decide +kernel), (by decide +kernel)⟩
theorem vi_MX7_ride : mVirt MX7_ride := ⟨gd1 229 rfl rfl, gd1 230 rfl rfl⟩
theorem ok_MX7_seat : mOk MX7_seat 2 := ⟨gd2 11 rfl rfl, gd1 1 rfl rfl, (by decide +kernel), (by decide +kernel)⟩
theorem vi_MX7_seat : mVirt MX7_seat := ⟨gd2 9 rfl rfl, gd2 10 rfl rfl⟩
theorem ok_MX7_purse : mOk MX7_purse 2 := ⟨gd2 18 rfl rfl, gd1 1 rfl rfl, (by decide +kernel), (by decide +kernel)⟩
theorem vi_MX7_purse : mVirt MX7_purse := ⟨gd2 16 rfl rfl, gd2 17 rfl rfl⟩
theorem ok_MX7_fine : mOk MX7_fine 1 := ⟨gd2 22 rfl rfl, gd1 1 rfl rfl, (by decide +kernel), (by decide +kernel)⟩
theorem vi_MX7_fine : mVirt MX7_fine := ⟨gd2 20 rfl rfl, gd2 21 rfl rfl⟩
theorem ok_MX7_say : mOk MX7_say 1 := ⟨gd2 26 rfl rfl, gd1 1 rfl rfl, (by decide +kernel), (by decide +kernel)⟩
theorem vi_MX7_say : mVirt MX7_say := ⟨gd2 24 rfl rfl, gd2 25 rfl rfl⟩
theorem ok_MX7_wipe : mOk MX7_wipe 0 := ⟨gd2 34 rfl rfl, gd1 1 rfl rfl, (by decide +kernel), (by decide +kernel)⟩
theorem vi_MX7_wipe : mVirt MX7_wipe := ⟨gd2 32 rfl rfl, gd2 33 rfl rfl⟩
theorem ok_MX7_fault : mOk MX7_fault 0 := ⟨gd2 42 rfl rfl, gd1 1 rfl rfl, (by decide +kernel), (by decide +kernel)⟩
theorem vi_MX7_fault : mVirt MX7_fault := ⟨gd2 40 rfl rfl, gd2 41 rfl rfl⟩
theorem ok_MX7_judge : mOk MX7_judge 1 := ⟨gd2 63 rfl rfl, gd1 1 rfl rfl, (by decide +kernel), (by decide +kernel)⟩
theorem vi_MX7_judge : mVirt MX7_judge := ⟨gd2 61 rfl rfl, gd2 62 rfl rfl⟩
theorem ok_MX7_done : mOk MX7_done 0 := ⟨gd2 120 rfl rfl, gd1 1 rfl rfl, (by decide +kernel), (by decide +kernel)⟩
theorem vi_MX7_done : mVirt MX7_done := ⟨gd2 118 rfl rfl, gd2 119 rfl rfl⟩
theorem ok_MX7_behind : mOk MX7_behind 1 := ⟨gd2 124 rfl rfl, gd1 1 rfl rfl, (by decide +kernel), (by decide +kernel)⟩
theorem vi_MX7_behind : mVirt MX7_behind := ⟨gd2 122 rfl rfl, gd2 123 rfl rfl⟩
theorem ok_MX7_holds : mOk MX7_holds 1 := ⟨gd2 128 rfl rfl, gd1 1 rfl rfl, (by decide +kernel), (by decide +kernel)⟩
theorem vi_MX7_holds : mVirt MX7_holds := ⟨gd2 126 rfl rfl, gd2 127 rfl rfl⟩
theorem ok_MX7_hears : mOk MX7_hears 1 := ⟨gd2 133 rfl rfl, gd1 1 rfl rfl, (by decide +kernel), (by decide +kernel)⟩
theorem vi_MX7_hears : mVirt MX7_hears := ⟨gd2 131 rfl rfl, gd2 132 rfl rfl⟩
theorem ok_MX7_forecast : mOk MX7_forecast 2 := ⟨gd2 150 rfl rfl, gd1 1 rfl rfl, (by decide +kernel), (by decide +kernel)⟩
theorem vi_MX7_forecast : mVirt MX7_forecast := ⟨gd2 148 rfl rfl, gd2 149 rfl rfl⟩
theorem ok_MX7_rests : mOk MX7_rests 1 := ⟨gd2 155 rfl rfl, gd1 1 rfl rfl, (by decide +kernel), (by decide +kernel)⟩
theorem vi_MX7_rests : mVirt MX7_rests := ⟨gd2 153 rfl rfl, gd2 154 rfl rfl⟩
theorem ok_MX7_talks : mOk MX7_talks 2 := ⟨gd2 163 rfl rfl, gd1 1 rfl rfl, (by decide +kernel), (by decide +kernel)⟩
theorem vi_MX7_talks : mVirt MX7_talks := ⟨gd2 161 rfl rfl, gd2 162 rfl rfl⟩
theorem ok_MX7_buy : mOk MX7_buy 2 := ⟨gd2 168 rfl rfl, gd1 1 rfl rfl, (by decide +kernel), (by decide +kernel)⟩
theorem vi_MX7_buy : mVirt MX7_buy := ⟨gd2 166 rfl rfl, gd2 167 rfl rfl⟩
theorem ok_MX7_seats : mOk MX7_seats 3 := ⟨gd2 191 rfl rfl, gd1 1 rfl rfl, (by decide +kernel), (by decide +kernel)⟩
theorem vi_MX7_seats : mVirt MX7_seats := ⟨gd2 189 rfl rfl, gd2 190 rfl rfl⟩
theorem ok_MX7_word : mOk MX7_word 2 := ⟨gd2 231 rfl rfl, gd1 1 rfl rfl, (by decide +kernel), (by decide +kernel)⟩
theorem vi_MX7_word : mVirt MX7_word := ⟨gd2 229 rfl rfl, gd2 230 rfl rfl⟩
theorem ok_MX7_heard : mOk MX7_heard 3 := ⟨gd2 239 rfl rfl, gd1 1 rfl rfl, (by decide +kernel), (by decide +kernel)⟩
theorem vi_MX7_heard : mVirt MX7_heard := ⟨gd2 237 rfl rfl, gd2 238 rfl rfl⟩
theorem ok_MX7_richest : mOk MX7_richest 1 := ⟨gd3 3 rfl rfl, gd1 1 rfl rfl, (by decide +kernel), (by decide +kernel)⟩
theorem vi_MX7_richest : mVirt MX7_richest := ⟨gd3 1 rfl rfl, gd3 2 rfl rfl⟩
theorem ok_MX7_seen : mOk MX7_seen 2 := ⟨gd3 15 rfl rfl, gd1 1 rfl rfl, (by decide +kernel), (by decide +kernel)⟩
theorem vi_MX7_seen : mVirt MX7_seen := ⟨gd3 13 rfl rfl, gd3 14 rfl rfl⟩
theorem ok_MX7_forget : mOk MX7_forget 0 := ⟨gd3 23 rfl rfl, gd1 1 rfl rfl, (by decide +kernel), (by decide +kernel)⟩
theorem vi_MX7_forget : mVirt MX7_forget := ⟨gd3 21 rfl rfl, gd3 22 rfl rfl⟩
theorem ok_MX7_hum : mOk MX7_hum 0 := ⟨gd3 31 rfl rfl, gd1 1 rfl rfl, (by decide +kernel), (by decide +kernel)⟩
theorem vi_MX7_hum : mVirt MX7_hum := ⟨gd3 29 rfl rfl, gd3 30 rfl rfl⟩
theorem ok_MX7_watch : mOk MX7_watch 1 := ⟨gd3 41 rfl rfl, gd1 1 rfl rfl, (by decide +kernel), (by decide +kernel)⟩
theorem vi_MX7_watch : mVirt MX7_watch := ⟨gd3 39 rfl rfl, gd3 40 rfl rfl⟩
theorem ok_MX7_auction : mOk MX7_auction 3 := ⟨gd3 58 rfl rfl, gd1 1 rfl rfl, (by decide +kernel), (by decide +kernel)⟩
theorem vi_MX7_auction : mVirt MX7_auction := ⟨gd3 56 rfl rfl, gd3 57 rfl rfl⟩
theorem ok_MX7_coughs : mOk MX7_coughs 3 := ⟨gd3 81 rfl rfl, gd1 1 rfl rfl, (by decide +kernel), (by decide +kernel)⟩
theorem vi_MX7_coughs : mVirt MX7_coughs := ⟨gd3 79 rfl rfl, gd3 80 rfl rfl⟩
theorem ok_MX7_year : mOk MX7_year 3 := ⟨gd3 94 rfl rfl, gd1 1 rfl rfl, (by decide +kernel), (by decide +kernel)⟩
theorem vi_MX7_year : mVirt MX7_year := ⟨gd3 92 rfl rfl, gd3 93 rfl rfl⟩
theorem ok_MX7_image : mOk MX7_image 1 := ⟨gd3 106 rfl rfl, gd1 1 rfl rfl, (by decide +kernel), (by decide +kernel)⟩
theorem vi_MX7_image : mVirt MX7_image := ⟨gd3 104 rfl rfl, gd3 105 rfl rfl⟩
theorem ok_MX7_restore : mOk MX7_restore 1 := ⟨gd3 123 rfl rfl, gd1 1 rfl rfl, (by decide +kernel), (by decide +kernel)⟩
theorem vi_MX7_restore : mVirt MX7_restore := ⟨gd3 121 rfl rfl, gd3 122 rfl rfl⟩
theorem ok_MX7_told : mOk MX7_told 1 := ⟨gd3 131 rfl rfl, gd1 1 rfl rfl, (by decide +kernel), (by decide +kernel)⟩
theorem vi_MX7_told : mVirt MX7_told := ⟨gd3 129 rfl rfl, gd3 130 rfl rfl⟩
theorem ok_MX7_isWithin : mOk MX7_isWithin 3 := ⟨gd1 212 rfl rfl, gd1 1 rfl rfl, (by decide +kernel), (by decide +kernel)⟩
theorem st_MX7_isWithin : mStat MX7_isWithin := gd1 211 rfl rfl
theorem ok_MX7_isTraveller : mOk MX7_isTraveller 1 := ⟨gd1 234 rfl rfl, gd1 1 rfl rfl, (by decide +kernel), (by decide +kernel)⟩
theorem st_MX7_isTraveller : mStat MX7_isTraveller := gd1 233 rfl rfl
theorem ok_MX7_isCompartment : mOk MX7_isCompartment 1 := ⟨gd2 14 rfl rfl, gd1 1 rfl rfl, (by decide +kernel), (by decide +kernel)⟩
theorem st_MX7_isCompartment : mStat MX7_isCompartment := gd2 13 rfl rfl
theorem ok_MX7_isMinute : mOk MX7_isMinute 1 := ⟨gd1 219 rfl rfl, gd1 1 rfl rfl, (by decide +kernel), (by decide +kernel)⟩
theorem st_MX7_isMinute : mStat MX7_isMinute := gd1 218 rfl rfl
theorem ok_MX7_padCanBe : mOk MX7_padCanBe 0 := ⟨gd2 67 rfl rfl, gd1 1 rfl rfl, (by decide +kernel), (by decide +kernel)⟩
theorem vi_MX7_padCanBe : mVirt MX7_padCanBe := ⟨gd2 66 rfl rfl, gd_at 1 (by decide +kernel) rfl⟩
theorem ok_MX7_letAllMinutesPass : mOk MX7_letAllMinutesPass 0 := ⟨gd2 159 rfl rfl, gd1 1 rfl rfl, (by decide +kernel), (by decide +kernel)⟩
theorem vi_MX7_letAllMinutesPass : mVirt MX7_letAllMinutesPass := ⟨gd2 158 rfl rfl, gd_at 3 (by decide +kernel) rfl⟩
theorem ok_MX7_keepsSilence : mOk MX7_keepsSilence 2 := ⟨gd2 176 rfl rfl, gd1 1 rfl rfl, (by decide +kernel), (by decide +kernel)⟩
theorem vi_MX7_keepsSilence : mVirt MX7_keepsSilence := ⟨gd2 175 rfl rfl, gd_at 4 (by decide +kernel) rfl⟩
theorem ok_MX7_paidInTrial : mOk MX7_paidInTrial 1 := ⟨gd2 187 rfl rfl, gd1 1 rfl rfl, (by decide +kernel), (by decide +kernel)⟩
theorem vi_MX7_paidInTrial : mVirt MX7_paidInTrial := ⟨gd2 186 rfl rfl, gd_at 5 (by decide +kernel) rfl⟩
theorem ok_MX7_paidByCompartment : mOk MX7_paidByCompartment 1 := ⟨gd3 11 rfl rfl, gd1 1 rfl rfl, (by decide +kernel), (by decide +kernel)⟩
theorem vi_MX7_paidByCompartment : mVirt MX7_paidByCompartment := ⟨gd3 10 rfl rfl, gd_at 12 (by decide +kernel) rfl⟩
theorem ok_MX7_topPayer : mOk MX7_topPayer 0 := ⟨gd3 7 rfl rfl, gd1 1 rfl rfl, (by decide +kernel), (by decide +kernel)⟩
theorem vi_MX7_topPayer : mVirt MX7_topPayer := ⟨gd3 6 rfl rfl, gd_at 11 (by decide +kernel) rfl⟩
theorem ok_MX7_leftAtMost : mOk MX7_leftAtMost 2 := ⟨gd3 45 rfl rfl, gd1 1 rfl rfl, (by decide +kernel), (by decide +kernel)⟩
theorem st_MX7_leftAtMost : mStat MX7_leftAtMost := gd3 44 rfl rfl
theorem ok_MX7_chancesToCough : mOk MX7_chancesToCough 1 := ⟨gd3 87 rfl rfl, gd1 1 rfl rfl, (by decide +kernel), (by decide +kernel)⟩
theorem vi_MX7_chancesToCough : mVirt MX7_chancesToCough := ⟨gd3 86 rfl rfl, gd_at 15 (by decide +kernel) rfl⟩
theorem ok_MX7_tenthsInLowestTerms : mOk MX7_tenthsInLowestTerms 2 := ⟨gd3 90 rfl rfl, gd1 1 rfl rfl, (by decide +kernel), (by decide +kernel)⟩
theorem st_MX7_tenthsInLowestTerms : mStat MX7_tenthsInLowestTerms := gd3 89 rfl rfl
theorem ok_MX7_imageAt : mOk MX7_imageAt 1 := ⟨gd3 110 rfl rfl, gd1 1 rfl rfl, (by decide +kernel), (by decide +kernel)⟩
theorem vi_MX7_imageAt : mVirt MX7_imageAt := ⟨gd3 109 rfl rfl, gd_at 16 (by decide +kernel) rfl⟩
theorem ok_MX7_toldOf : mOk MX7_toldOf 2 := ⟨gd3 135 rfl rfl, gd1 1 rfl rfl, (by decide +kernel), (by decide +kernel)⟩
theorem vi_MX7_toldOf : mVirt MX7_toldOf := ⟨gd3 134 rfl rfl, gd_at 17 (by decide +kernel) rfl⟩
theorem ok_MX8_in : mOk MX8_in 3 := ⟨gd3 231 rfl rfl, gd1 9 rfl rfl, (by decide +kernel), (by decide +kernel)⟩
theorem st_MX8_in : mStat MX8_in := gd3 230 rfl rfl
theorem ok_MX8_has : mOk MX8_has 2 := ⟨gd4 73 rfl rfl, gd1 9 rfl rfl, (by decide +kernel), (by decide +kernel)⟩
theorem st_MX8_has : mStat MX8_has := gd4 72 rfl rfl
theorem ok_MX8_bits : mOk MX8_bits 1 := ⟨gd3 238 rfl rfl, gd1 9 rfl rfl, (by decide +kernel), (by decide +kernel)⟩
theorem st_MX8_bits : mStat MX8_bits := gd3 237 rfl rfl
theorem ok_MX8_isOne : mOk MX8_isOne 1 := ⟨gd4 5 rfl rfl, gd1 9 rfl rfl, (by decide +kernel), (by decide +kernel)⟩
theorem st_MX8_isOne : mStat MX8_isOne := gd4 4 rfl rfl
theorem ok_MX8_isRoom : mOk MX8_isRoom 1 := ⟨gd4 16 rfl rfl, gd1 9 rfl rfl, (by decide +kernel), (by decide +kernel)⟩
theorem st_MX8_isRoom : mStat MX8_isRoom := gd4 15 rfl rfl
theorem ok_MX8_line : mOk MX8_line 1 := ⟨gd3 228 rfl rfl, gd1 9 rfl rfl, (by decide +kernel), (by decide +kernel)⟩
theorem vi_MX8_line : mVirt MX8_line := ⟨gd3 226 rfl rfl, gd3 227 rfl rfl⟩
theorem ok_MX8_tunnel : mOk MX8_tunnel 2 := ⟨gd3 235 rfl rfl, gd1 9 rfl rfl, (by decide +kernel), (by decide +kernel)⟩
theorem vi_MX8_tunnel : mVirt MX8_tunnel := ⟨gd3 233 rfl rfl, gd3 234 rfl rfl⟩
theorem ok_MX8_rides : mOk MX8_rides 2 := ⟨gd4 9 rfl rfl, gd1 9 rfl rfl, (by decide +kernel), (by decide +kernel)⟩
theorem vi_MX8_rides : mVirt MX8_rides := ⟨gd4 8 rfl rfl, gd_at 18 (by decide +kernel) rfl⟩
theorem ok_MX8_ride : mOk MX8_ride 3 := ⟨gd4 2 rfl rfl, gd1 9 rfl rfl, (by decide +kernel), (by decide +kernel)⟩
theorem vi_MX8_ride : mVirt MX8_ride := ⟨gd4 0 rfl rfl, gd4 1 rfl rfl⟩
theorem ok_MX8_seat : mOk MX8_seat 2 := ⟨gd4 13 rfl rfl, gd1 9 rfl rfl, (by decide +kernel), (by decide +kernel)⟩
theorem vi_MX8_seat : mVirt MX8_seat := ⟨gd4 11 rfl rfl, gd4 12 rfl rfl⟩
theorem ok_MX8_purse : mOk MX8_purse 2 := ⟨gd4 20 rfl rfl, gd1 9 rfl rfl, (by decide +kernel), (by decide +kernel)⟩
theorem vi_MX8_purse : mVirt MX8_purse := ⟨gd4 18 rfl rfl, gd4 19 rfl rfl⟩
theorem ok_MX8_fine : mOk MX8_fine 1 := ⟨gd4 24 rfl rfl, gd1 9 rfl rfl, (by decide +kernel), (by decide +kernel)⟩
theorem vi_MX8_fine : mVirt MX8_fine := ⟨gd4 22 rfl rfl, gd4 23 rfl rfl⟩
theorem ok_MX8_say : mOk MX8_say 1 := ⟨gd4 28 rfl rfl, gd1 9 rfl rfl, (by decide +kernel), (by decide +kernel)⟩
theorem vi_MX8_say : mVirt MX8_say := ⟨gd4 26 rfl rfl, gd4 27 rfl rfl⟩
theorem ok_MX8_wipe : mOk MX8_wipe 0 := ⟨gd4 32 rfl rfl, gd1 9 rfl rfl, (by decide +kernel), (by decide +kernel)⟩
theorem vi_MX8_wipe : mVirt MX8_wipe := ⟨gd4 30 rfl rfl, gd4 31 rfl rfl⟩
theorem ok_MX8_isLetter : mOk MX8_isLetter 1 := ⟨gd4 43 rfl rfl, gd1 9 rfl rfl, (by decide +kernel), (by decide +kernel)⟩
theorem st_MX8_isLetter : mStat MX8_isLetter := gd4 42 rfl rfl
theorem ok_MX8_isDigit : mOk MX8_isDigit 1 := ⟨gd4 46 rfl rfl, gd1 9 rfl rfl, (by decide +kernel), (by decide +kernel)⟩
theorem st_MX8_isDigit : mStat MX8_isDigit := gd4 45 rfl rfl
theorem ok_MX8_faultOf : mOk MX8_faultOf 0 := ⟨gd4 40 rfl rfl, gd1 9 rfl rfl, (by decide +kernel), (by decide +kernel)⟩
theorem vi_MX8_faultOf : mVirt MX8_faultOf := ⟨gd4 39 rfl rfl, gd_at 19 (by decide +kernel) rfl⟩
theorem ok_MX8_fault : mOk MX8_fault 0 := ⟨gd4 36 rfl rfl, gd1 9 rfl rfl, (by decide +kernel), (by decide +kernel)⟩
theorem vi_MX8_fault : mVirt MX8_fault := ⟨gd4 34 rfl rfl, gd4 35 rfl rfl⟩
theorem ok_MX8_asNow : mOk MX8_asNow 0 := ⟨gd4 58 rfl rfl, gd1 9 rfl rfl, (by decide +kernel), (by decide +kernel)⟩
theorem vi_MX8_asNow : mVirt MX8_asNow := ⟨gd4 57 rfl rfl, gd_at 21 (by decide +kernel) rfl⟩
theorem ok_MX8_isTunnel : mOk MX8_isTunnel 1 := ⟨gd4 70 rfl rfl, gd1 9 rfl rfl, (by decide +kernel), (by decide +kernel)⟩
theorem vi_MX8_isTunnel : mVirt MX8_isTunnel := ⟨gd4 69 rfl rfl, gd_at 24 (by decide +kernel) rfl⟩
theorem ok_MX8_holder : mOk MX8_holder 1 := ⟨gd4 66 rfl rfl, gd1 9 rfl rfl, (by decide +kernel), (by decide +kernel)⟩
theorem vi_MX8_holder : mVirt MX8_holder := ⟨gd4 65 rfl rfl, gd_at 23 (by decide +kernel) rfl⟩
theorem ok_MX8_pass : mOk MX8_pass 0 := ⟨gd4 62 rfl rfl, gd1 9 rfl rfl, (by decide +kernel), (by decide +kernel)⟩
theorem vi_MX8_pass : mVirt MX8_pass := ⟨gd4 61 rfl rfl, gd_at 22 (by decide +kernel) rfl⟩
theorem ok_MX8_ridesNow : mOk MX8_ridesNow 1 := ⟨gd4 81 rfl rfl, gd1 9 rfl rfl, (by decide +kernel), (by decide +kernel)⟩
theorem vi_MX8_ridesNow : mVirt MX8_ridesNow := ⟨gd4 80 rfl rfl, gd_at 26 (by decide +kernel) rfl⟩
theorem ok_MX8_maySpeak : mOk MX8_maySpeak 1 := ⟨gd4 85 rfl rfl, gd1 9 rfl rfl, (by decide +kernel), (by decide +kernel)⟩
theorem vi_MX8_maySpeak : mVirt MX8_maySpeak := ⟨gd4 84 rfl rfl, gd_at 27 (by decide +kernel) rfl⟩
theorem ok_MX8_cough : mOk MX8_cough 1 := ⟨gd4 89 rfl rfl, gd1 9 rfl rfl, (by decide +kernel), (by decide +kernel)⟩
theorem vi_MX8_cough : mVirt MX8_cough := ⟨gd4 88 rfl rfl, gd_at 28 (by decide +kernel) rfl⟩
theorem ok_MX8_whyNot : mOk MX8_whyNot 2 := ⟨gd4 77 rfl rfl, gd1 9 rfl rfl, (by decide +kernel), (by decide +kernel)⟩
theorem vi_MX8_whyNot : mVirt MX8_whyNot := ⟨gd4 76 rfl rfl, gd_at 25 (by decide +kernel) rfl⟩
theorem ok_MX8_goRides : mOk MX8_goRides 0 := ⟨gd4 54 rfl rfl, gd1 9 rfl rfl, (by decide +kernel), (by decide +kernel)⟩
theorem vi_MX8_goRides : mVirt MX8_goRides := ⟨gd4 53 rfl rfl, gd_at 20 (by decide +kernel) rfl⟩
theorem ok_MX8_judge : mOk MX8_judge 1 := ⟨gd4 50 rfl rfl, gd1 9 rfl rfl, (by decide +kernel), (by decide +kernel)⟩
theorem vi_MX8_judge : mVirt MX8_judge := ⟨gd4 48 rfl rfl, gd4 49 rfl rfl⟩
theorem ok_MX8_barOfRides : mOk MX8_barOfRides 0 := ⟨gd4 97 rfl rfl, gd1 9 rfl rfl, (by decide +kernel), (by decide +kernel)⟩
theorem vi_MX8_barOfRides : mVirt MX8_barOfRides := ⟨gd4 96 rfl rfl, gd_at 29 (by decide +kernel) rfl⟩
theorem ok_MX8_done : mOk MX8_done 0 := ⟨gd4 93 rfl rfl, gd1 9 rfl rfl, (by decide +kernel), (by decide +kernel)⟩
theorem vi_MX8_done : mVirt MX8_done := ⟨gd4 91 rfl rfl, gd4 92 rfl rfl⟩
theorem ok_MX8_behind : mOk MX8_behind 1 := ⟨gd4 101 rfl rfl, gd1 9 rfl rfl, (by decide +kernel), (by decide +kernel)⟩
theorem vi_MX8_behind : mVirt MX8_behind := ⟨gd4 99 rfl rfl, gd4 100 rfl rfl⟩
theorem ok_MX8_holds : mOk MX8_holds 1 := ⟨gd4 105 rfl rfl, gd1 9 rfl rfl, (by decide +kernel), (by decide +kernel)⟩
theorem vi_MX8_holds : mVirt MX8_holds := ⟨gd4 103 rfl rfl, gd4 104 rfl rfl⟩
theorem ok_MX8_hears : mOk MX8_hears 1 := ⟨gd4 109 rfl rfl, gd1 9 rfl rfl, (by decide +kernel), (by decide +kernel)⟩
theorem vi_MX8_hears : mVirt MX8_hears := ⟨gd4 107 rfl rfl, gd4 108 rfl rfl⟩
theorem ok_MX8_forecast : mOk MX8_forecast 2 := ⟨gd4 113 rfl rfl, gd1 9 rfl rfl, (by decide +kernel), (by decide +kernel)⟩
theorem vi_MX8_forecast : mVirt MX8_forecast := ⟨gd4 111 rfl rfl, gd4 112 rfl rfl⟩
theorem ok_MX8_toEnd : mOk MX8_toEnd 0 := ⟨gd4 121 rfl rfl, gd1 9 rfl rfl, (by decide +kernel), (by decide +kernel)⟩
theorem vi_MX8_toEnd : mVirt MX8_toEnd := ⟨gd4 120 rfl rfl, gd_at 30 (by decide +kernel) rfl⟩
theorem ok_MX8_rests : mOk MX8_rests 1 := ⟨gd4 117 rfl rfl, gd1 9 rfl rfl, (by decide +kernel), (by decide +kernel)⟩
theorem vi_MX8_rests : mVirt MX8_rests := ⟨gd4 115 rfl rfl, gd4 116 rfl rfl⟩
theorem ok_MX8_talks : mOk MX8_talks 2 := ⟨gd4 125 rfl rfl, gd1 9 rfl rfl, (by decide +kernel), (by decide +kernel)⟩
theorem vi_MX8_talks : mVirt MX8_talks := ⟨gd4 123 rfl rfl, gd4 124 rfl rfl⟩
theorem ok_MX8_buy : mOk MX8_buy 2 := ⟨gd4 129 rfl rfl, gd1 9 rfl rfl, (by decide +kernel), (by decide +kernel)⟩
theorem vi_MX8_buy : mVirt MX8_buy := ⟨gd4 127 rfl rfl, gd4 128 rfl rfl⟩
theorem ok_MX8_ridesAtAll : mOk MX8_ridesAtAll 1 := ⟨gd4 137 rfl rfl, gd1 9 rfl rfl, (by decide +kernel), (by decide +kernel)⟩
theorem vi_MX8_ridesAtAll : mVirt MX8_ridesAtAll := ⟨gd4 136 rfl rfl, gd_at 31 (by decide +kernel) rfl⟩
theorem ok_MX8_rideAtOnce : mOk MX8_rideAtOnce 2 := ⟨gd4 141 rfl rfl, gd1 9 rfl rfl, (by decide +kernel), (by decide +kernel)⟩
theorem vi_MX8_rideAtOnce : mVirt MX8_rideAtOnce := ⟨gd4 140 rfl rfl, gd_at 32 (by decide +kernel) rfl⟩
theorem ok_MX8_seats : mOk MX8_seats 3 := ⟨gd4 133 rfl rfl, gd1 9 rfl rfl, (by decide +kernel), (by decide +kernel)⟩
theorem vi_MX8_seats : mVirt MX8_seats := ⟨gd4 131 rfl rfl, gd4 132 rfl rfl⟩
theorem ok_MX8_goWord : mOk MX8_goWord 3 := ⟨gd4 149 rfl rfl, gd1 9 rfl rfl, (by decide +kernel), (by decide +kernel)⟩
theorem vi_MX8_goWord : mVirt MX8_goWord := ⟨gd4 148 rfl rfl, gd_at 33 (by decide +kernel) rfl⟩
theorem ok_MX8_word : mOk MX8_word 2 := ⟨gd4 145 rfl rfl, gd1 9 rfl rfl, (by decide +kernel), (by decide +kernel)⟩
theorem vi_MX8_word : mVirt MX8_word := ⟨gd4 143 rfl rfl, gd4 144 rfl rfl⟩
theorem ok_MX8_heard : mOk MX8_heard 3 := ⟨gd4 153 rfl rfl, gd1 9 rfl rfl, (by decide +kernel), (by decide +kernel)⟩
theorem vi_MX8_heard : mVirt MX8_heard := ⟨gd4 151 rfl rfl, gd4 152 rfl rfl⟩
theorem ok_MX8_richest : mOk MX8_richest 1 := ⟨gd4 157 rfl rfl, gd1 9 rfl rfl, (by decide +kernel), (by decide +kernel)⟩
theorem vi_MX8_richest : mVirt MX8_richest := ⟨gd4 155 rfl rfl, gd4 156 rfl rfl⟩
theorem ok_MX8_seen : mOk MX8_seen 2 := ⟨gd4 161 rfl rfl, gd1 9 rfl rfl, (by decide +kernel), (by decide +kernel)⟩
theorem vi_MX8_seen : mVirt MX8_seen := ⟨gd4 159 rfl rfl, gd4 160 rfl rfl⟩
theorem ok_MX8_forget : mOk MX8_forget 0 := ⟨gd4 165 rfl rfl, gd1 9 rfl rfl, (by decide +kernel), (by decide +kernel)⟩
theorem vi_MX8_forget : mVirt MX8_forget := ⟨gd4 163 rfl rfl, gd4 164 rfl rfl⟩
theorem ok_MX8_humSet : mOk MX8_humSet 0 := ⟨gd4 173 rfl rfl, gd1 9 rfl rfl, (by decide +kernel), (by decide +kernel)⟩
theorem vi_MX8_humSet : mVirt MX8_humSet := ⟨gd4 172 rfl rfl, gd_at 34 (by decide +kernel) rfl⟩
theorem ok_MX8_hum : mOk MX8_hum 0 := ⟨gd4 169 rfl rfl, gd1 9 rfl rfl, (by decide +kernel), (by decide +kernel)⟩
theorem vi_MX8_hum : mVirt MX8_hum := ⟨gd4 167 rfl rfl, gd4 168 rfl rfl⟩
theorem ok_MX8_watch : mOk MX8_watch 1 := ⟨gd4 177 rfl rfl, gd1 9 rfl rfl, (by decide +kernel), (by decide +kernel)⟩
theorem vi_MX8_watch : mVirt MX8_watch := ⟨gd4 175 rfl rfl, gd4 176 rfl rfl⟩
theorem ok_MX8_auction : mOk MX8_auction 3 := ⟨gd4 182 rfl rfl, gd1 9 rfl rfl, (by decide +kernel), (by decide +kernel)⟩
theorem vi_MX8_auction : mVirt MX8_auction := ⟨gd4 180 rfl rfl, gd4 181 rfl rfl⟩
theorem ok_MX8_coughs : mOk MX8_coughs 3 := ⟨gd4 186 rfl rfl, gd1 9 rfl rfl, (by decide +kernel), (by decide +kernel)⟩
theorem vi_MX8_coughs : mVirt MX8_coughs := ⟨gd4 184 rfl rfl, gd4 185 rfl rfl⟩
theorem ok_MX8_year : mOk MX8_year 3 := ⟨gd4 193 rfl rfl, gd1 9 rfl rfl, (by decide +kernel), (by decide +kernel)⟩
theorem vi_MX8_year : mVirt MX8_year := ⟨gd4 191 rfl rfl, gd4 192 rfl rfl⟩
theorem ok_MX8_image : mOk MX8_image 1 := ⟨gd4 198 rfl rfl, gd1 9 rfl rfl, (by decide +kernel), (by decide +kernel)⟩
theorem vi_MX8_image : mVirt MX8_image := ⟨gd4 196 rfl rfl, gd4 197 rfl rfl⟩
theorem ok_MX8_restore : mOk MX8_restore 1 := ⟨gd4 202 rfl rfl, gd1 9 rfl rfl, (by decide +kernel), (by decide +kernel)⟩
theorem vi_MX8_restore : mVirt MX8_restore := ⟨gd4 200 rfl rfl, gd4 201 rfl rfl⟩
theorem ok_MX8_told : mOk MX8_told 1 := ⟨gd4 206 rfl rfl, gd1 9 rfl rfl, (by decide +kernel), (by decide +kernel)⟩
theorem vi_MX8_told : mVirt MX8_told := ⟨gd4 204 rfl rfl, gd4 205 rfl rfl⟩
theorem ok_MJ6_bitCount : mOk MJ6_bitCount 1 := ⟨gd3 48 rfl rfl, gd1 11 rfl rfl, (by decide +kernel), (by decide +kernel)⟩
theorem st_MJ6_bitCount : mStat MJ6_bitCount := gd3 47 rfl rfl
theorem lk_L_13 : mLk "SilenceMinuteLaw" 13 MX7_line := gd1 206 rfl rfl
theorem lk_X7_64 : mLk "SilenceMinute" 64 MX7_isWithin := gd1 210 rfl rfl
theorem lk_L_18 : mLk "SilenceMinuteLaw" 18 MX7_tunnel := gd1 213 rfl rfl
theorem lk_X7_75 : mLk "SilenceMinute" 75 MX7_isMinute := gd1 217 rfl rfl
theorem lk_X7_82 : mLk "SilenceMinute" 82 MX5_tunnelsOfLine := gd1 220 rfl rfl
theorem lk_X5_46 : mLk "SilenceMinute$Train" 46 MX5_isTunnel := gd1 224 rfl rfl
theorem lk_L_23 : mLk "SilenceMinuteLaw" 23 MX7_ride := gd1 228 rfl rfl
theorem lk_X7_86 : mLk "SilenceMinute" 86 MX7_isTraveller := gd1 232 rfl rfl
theorem lk_X7_89 : mLk "SilenceMinute" 89 MX5_setRide := gd1 235 rfl rfl
theorem lk_X7_93 : mLk "SilenceMinute" 93 MX5_minutesOf := gd2 0 rfl rfl
theorem lk_X5_53 : mLk "SilenceMinute$Train" 53 MX5_ridesAt := gd2 4 rfl rfl
theorem lk_L_28 : mLk "SilenceMinuteLaw" 28 MX7_seat := gd2 8 rfl rfl
theorem lk_X7_97 : mLk "SilenceMinute" 97 MX7_isCompartment := gd2 12 rfl rfl
theorem lk_L_33 : mLk "SilenceMinuteLaw" 33 MX7_purse := gd2 15 rfl rfl
theorem lk_L_37 : mLk "SilenceMinuteLaw" 37 MX7_fine := gd2 19 rfl rfl
theorem lk_L_41 : mLk "SilenceMinuteLaw" 41 MX7_say := gd2 23 rfl rfl
theorem lk_X7_110 : mLk "SilenceMinute" 110 MX1_write := gd2 27 rfl rfl
theorem lk_L_45 : mLk "SilenceMinuteLaw" 45 MX7_wipe := gd2 31 rfl rfl
theorem lk_X7_116 : mLk "SilenceMinute" 116 MX1_clear := gd2 35 rfl rfl
theorem lk_L_50 : mLk "SilenceMinuteLaw" 50 MX7_fault := gd2 39 rfl rfl
theorem lk_X7_119 : mLk "SilenceMinute" 119 MX1_faultPlace := gd2 43 rfl rfl
theorem lk_X1_27 : mLk "SilenceMinute$Pad" 27 MX1_follow := gd2 47 rfl rfl
theorem lk_X1_19 : mLk "SilenceMinute$Pad" 19 MX1_signAt := gd2 51 rfl rfl
theorem lk_X1_31 : mLk "SilenceMinute$Pad" 31 MX1_isDigitAt := gd2 56 rfl rfl
theorem lk_L_54 : mLk "SilenceMinuteLaw" 54 MX7_judge := gd2 60 rfl rfl
theorem lk_X7_122 : mLk "SilenceMinute" 122 MX7_padCanBe := gd2 64 rfl rfl
theorem lk_X7_132 : mLk "SilenceMinute" 132 MX5_copyFrom := gd2 68 rfl rfl
theorem lk_X7_245 : mLk "SilenceMinute" 245 MX6_tryRides := gd2 72 rfl rfl
theorem lk_X6_23 : mLk "SilenceMinute$Verdict" 23 MX6_tryAct := gd2 76 rfl rfl
theorem lk_X6_31 : mLk "SilenceMinute$Verdict" 31 MX1_signAt := gd2 79 rfl rfl
theorem lk_X6_34 : mLk "SilenceMinute$Verdict" 34 MX5_passMinute := gd2 80 rfl rfl
theorem lk_X5_69 : mLk "SilenceMinute$Train" 69 MX5_holderOf := gd2 84 rfl rfl
theorem lk_X5_75 : mLk "SilenceMinute$Train" 75 MX5_payGuard := gd2 88 rfl rfl
theorem lk_X6_40 : mLk "SilenceMinute$Verdict" 40 MX1_isDigitAt := gd2 92 rfl rfl
theorem lk_X6_44 : mLk "SilenceMinute$Verdict" 44 MX5_setBid := gd2 93 rfl rfl
theorem lk_X6_48 : mLk "SilenceMinute$Verdict" 48 MX5_ridesNow := gd2 97 rfl rfl
theorem lk_X6_51 : mLk "SilenceMinute$Verdict" 51 MX5_maySpeak := gd2 101 rfl rfl
theorem lk_X5_72 : mLk "SilenceMinute$Train" 72 MX5_ridesNow := gd2 105 rfl rfl
theorem lk_X6_54 : mLk "SilenceMinute$Verdict" 54 MX5_takeCough := gd2 106 rfl rfl
theorem lk_X5_79 : mLk "SilenceMinute$Train" 79 MJ9_min := gd2 110 rfl rfl
theorem lk_X6_27 : mLk "SilenceMinute$Verdict" 27 MX1_actLength := gd2 113 rfl rfl
theorem lk_L_58 : mLk "SilenceMinuteLaw" 58 MX7_done := gd2 117 rfl rfl
theorem lk_L_62 : mLk "SilenceMinuteLaw" 62 MX7_behind := gd2 121 rfl rfl
theorem lk_L_66 : mLk "SilenceMinuteLaw" 66 MX7_holds := gd2 125 rfl rfl
theorem lk_X7_142 : mLk "SilenceMinute" 142 MX5_holderOf := gd2 129 rfl rfl
theorem lk_L_70 : mLk "SilenceMinuteLaw" 70 MX7_hears := gd2 130 rfl rfl
theorem lk_X7_145 : mLk "SilenceMinute" 145 MX5_maySpeak := gd2 134 rfl rfl
theorem lk_X7_148 : mLk "SilenceMinute" 148 MX5_companionsOf := gd2 135 rfl rfl
theorem lk_X5_61 : mLk "SilenceMinute$Train" 61 MX5_ridersOf := gd2 139 rfl rfl
theorem lk_X5_57 : mLk "SilenceMinute$Train" 57 MX5_ridesIn := gd2 143 rfl rfl
theorem lk_L_74 : mLk "SilenceMinuteLaw" 74 MX7_forecast := gd2 147 rfl rfl
theorem lk_X7_152 : mLk "SilenceMinute" 152 MX5_passMinute := gd2 151 rfl rfl
theorem lk_L_78 : mLk "SilenceMinuteLaw" 78 MX7_rests := gd2 152 rfl rfl
theorem lk_X7_155 : mLk "SilenceMinute" 155 MX7_letAllMinutesPass := gd2 156 rfl rfl
theorem lk_L_82 : mLk "SilenceMinuteLaw" 82 MX7_talks := gd2 160 rfl rfl
theorem lk_X7_158 : mLk "SilenceMinute" 158 MX5_ridesIn := gd2 164 rfl rfl
theorem lk_L_86 : mLk "SilenceMinuteLaw" 86 MX7_buy := gd2 165 rfl rfl
theorem lk_X7_161 : mLk "SilenceMinute" 161 MX5_ridesFromNowOn := gd2 169 rfl rfl
theorem lk_X7_164 : mLk "SilenceMinute" 164 MX7_keepsSilence := gd2 173 rfl rfl
theorem lk_X7_249 : mLk "SilenceMinute" 249 MX5_setBid := gd2 177 rfl rfl
theorem lk_X7_252 : mLk "SilenceMinute" 252 MX5_ridesAt := gd2 178 rfl rfl
theorem lk_X7_255 : mLk "SilenceMinute" 255 MX5_isTunnel := gd2 179 rfl rfl
theorem lk_X7_258 : mLk "SilenceMinute" 258 MX5_isHolder := gd2 180 rfl rfl
theorem lk_X7_168 : mLk "SilenceMinute" 168 MX7_paidInTrial := gd2 184 rfl rfl
theorem lk_L_90 : mLk "SilenceMinuteLaw" 90 MX7_seats := gd2 188 rfl rfl
theorem lk_X7_171 : mLk "SilenceMinute" 171 MX3_countWays := gd2 192 rfl rfl
theorem lk_X3_22 : mLk "SilenceMinute$Seating" 22 MX5_ridersOfLine := gd2 196 rfl rfl
theorem lk_X5_65 : mLk "SilenceMinute$Train" 65 MX5_minutesOf := gd2 200 rfl rfl
theorem lk_X3_31 : mLk "SilenceMinute$Seating" 31 MX3_meetableTwos := gd2 201 rfl rfl
theorem lk_X3_52 : mLk "SilenceMinute$Seating" 52 MX5_rideTogether := gd2 204 rfl rfl
theorem lk_X3_35 : mLk "SilenceMinute$Seating" 35 MX3_waysInAll := gd2 208 rfl rfl
theorem lk_X3_48 : mLk "SilenceMinute$Seating" 48 MX3_isRider := gd2 212 rfl rfl
theorem lk_X3_38 : mLk "SilenceMinute$Seating" 38 MX3_spread := gd2 216 rfl rfl
theorem lk_X3_42 : mLk "SilenceMinute$Seating" 42 MX3_twosInOneCompartment := gd2 220 rfl rfl
theorem lk_X3_45 : mLk "SilenceMinute$Seating" 45 MX3_digitsAsNumber := gd2 224 rfl rfl
theorem lk_L_94 : mLk "SilenceMinuteLaw" 94 MX7_word := gd2 228 rfl rfl
theorem lk_X7_181 : mLk "SilenceMinute" 181 MX5_knownAfter := gd2 232 rfl rfl
theorem lk_L_98 : mLk "SilenceMinuteLaw" 98 MX7_heard := gd2 236 rfl rfl
theorem lk_L_102 : mLk "SilenceMinuteLaw" 102 MX7_richest := gd3 0 rfl rfl
theorem lk_X7_184 : mLk "SilenceMinute" 184 MX7_topPayer := gd3 4 rfl rfl
theorem lk_X7_187 : mLk "SilenceMinute" 187 MX7_paidByCompartment := gd3 8 rfl rfl
theorem lk_L_106 : mLk "SilenceMinuteLaw" 106 MX7_seen := gd3 12 rfl rfl
theorem lk_X7_190 : mLk "SilenceMinute" 190 MX4_add := gd3 16 rfl rfl
theorem lk_L_110 : mLk "SilenceMinuteLaw" 110 MX7_forget := gd3 20 rfl rfl
theorem lk_X7_194 : mLk "SilenceMinute" 194 MX4_clear := gd3 24 rfl rfl
theorem lk_L_114 : mLk "SilenceMinuteLaw" 114 MX7_hum := gd3 28 rfl rfl
theorem lk_X7_195 : mLk "SilenceMinute" 195 MX4_suspects := gd3 32 rfl rfl
theorem lk_X4_20 : mLk "SilenceMinute$Sights" 20 MX5_ridersOfLine := gd3 36 rfl rfl
theorem lk_X4_26 : mLk "SilenceMinute$Sights" 26 MX5_companionsOf := gd3 37 rfl rfl
theorem lk_L_118 : mLk "SilenceMinuteLaw" 118 MX7_watch := gd3 38 rfl rfl
theorem lk_X7_199 : mLk "SilenceMinute" 199 MX5_ridersOf := gd3 42 rfl rfl
theorem lk_X7_202 : mLk "SilenceMinute" 202 MX7_leftAtMost := gd3 43 rfl rfl
theorem lk_X7_261 : mLk "SilenceMinute" 261 MJ6_bitCount := gd3 46 rfl rfl
theorem lk_X7_266 : mLk "SilenceMinute" 266 MJ9_max := gd3 52 rfl rfl
theorem lk_L_122 : mLk "SilenceMinuteLaw" 122 MX7_auction := gd3 55 rfl rfl
theorem lk_X7_205 : mLk "SilenceMinute" 205 MX2_settle := gd3 59 rfl rfl
theorem lk_X2_11 : mLk "SilenceMinute$Sale" 11 MX2_leaveOff := gd3 63 rfl rfl
theorem lk_X2_15 : mLk "SilenceMinute$Sale" 15 MX2_moverBehind := gd3 67 rfl rfl
theorem lk_X2_23 : mLk "SilenceMinute$Sale" 23 MX2_wordBefore := gd3 70 rfl rfl
theorem lk_X2_26 : mLk "SilenceMinute$Sale" 26 MJ9_max := gd3 73 rfl rfl
theorem lk_X2_19 : mLk "SilenceMinute$Sale" 19 MX2_valueFor := gd3 74 rfl rfl
theorem lk_L_126 : mLk "SilenceMinuteLaw" 126 MX7_coughs := gd3 78 rfl rfl
theorem lk_X7_219 : mLk "SilenceMinute" 219 MX7_chancesToCough := gd3 84 rfl rfl
theorem lk_X7_222 : mLk "SilenceMinute" 222 MX7_tenthsInLowestTerms := gd3 88 rfl rfl
theorem lk_L_131 : mLk "SilenceMinuteLaw" 131 MX7_year := gd3 91 rfl rfl
theorem lk_X7_226 : mLk "SilenceMinute" 226 MX5_doDrawn := gd3 96 rfl rfl
theorem lk_X5_84 : mLk "SilenceMinute$Train" 84 MX5_passMinute := gd3 100 rfl rfl
theorem lk_X5_88 : mLk "SilenceMinute$Train" 88 MX5_setBid := gd3 101 rfl rfl
theorem lk_X5_91 : mLk "SilenceMinute$Train" 91 MX5_takeCough := gd3 102 rfl rfl
theorem lk_L_135 : mLk "SilenceMinuteLaw" 135 MX7_image := gd3 103 rfl rfl
theorem lk_X7_230 : mLk "SilenceMinute" 230 MX7_imageAt := gd3 107 rfl rfl
theorem lk_X7_234 : mLk "SilenceMinute" 234 MX0_keep := gd3 111 rfl rfl
theorem lk_X0_23 : mLk "SilenceMinute$Image" 23 MX5_copyFrom := gd3 115 rfl rfl
theorem lk_X0_27 : mLk "SilenceMinute$Image" 27 MX4_copyFrom := gd3 116 rfl rfl
theorem lk_L_139 : mLk "SilenceMinuteLaw" 139 MX7_restore := gd3 120 rfl rfl
theorem lk_X7_238 : mLk "SilenceMinute" 238 MX0_bringBack := gd3 124 rfl rfl
theorem lk_L_143 : mLk "SilenceMinuteLaw" 143 MX7_told := gd3 128 rfl rfl
theorem lk_X7_242 : mLk "SilenceMinute" 242 MX7_toldOf := gd3 132 rfl rfl
theorem lk_L_17 : mLk "SilenceMinuteLaw" 17 MX8_line := gd3 225 rfl rfl
theorem lk_X8_60 : mLk "SilenceMinuteModel" 60 MX8_in := gd3 229 rfl rfl
theorem lk_L_22 : mLk "SilenceMinuteLaw" 22 MX8_tunnel := gd3 232 rfl rfl
theorem lk_X8_70 : mLk "SilenceMinuteModel" 70 MX8_bits := gd3 236 rfl rfl
theorem lk_L_27 : mLk "SilenceMinuteLaw" 27 MX8_ride := gd3 239 rfl rfl
theorem lk_X8_74 : mLk "SilenceMinuteModel" 74 MX8_isOne := gd4 3 rfl rfl
theorem lk_X8_78 : mLk "SilenceMinuteModel" 78 MX8_rides := gd4 6 rfl rfl
theorem lk_L_32 : mLk "SilenceMinuteLaw" 32 MX8_seat := gd4 10 rfl rfl
theorem lk_X8_82 : mLk "SilenceMinuteModel" 82 MX8_isRoom := gd4 14 rfl rfl
theorem lk_L_36 : mLk "SilenceMinuteLaw" 36 MX8_purse := gd4 17 rfl rfl
theorem lk_L_40 : mLk "SilenceMinuteLaw" 40 MX8_fine := gd4 21 rfl rfl
theorem lk_L_44 : mLk "SilenceMinuteLaw" 44 MX8_say := gd4 25 rfl rfl
theorem lk_L_49 : mLk "SilenceMinuteLaw" 49 MX8_wipe := gd4 29 rfl rfl
theorem lk_L_53 : mLk "SilenceMinuteLaw" 53 MX8_fault := gd4 33 rfl rfl
theorem lk_X8_94 : mLk "SilenceMinuteModel" 94 MX8_faultOf := gd4 37 rfl rfl
theorem lk_X8_88 : mLk "SilenceMinuteModel" 88 MX8_isLetter := gd4 41 rfl rfl
theorem lk_X8_91 : mLk "SilenceMinuteModel" 91 MX8_isDigit := gd4 44 rfl rfl
theorem lk_L_57 : mLk "SilenceMinuteLaw" 57 MX8_judge := gd4 47 rfl rfl
theorem lk_X8_145 : mLk "SilenceMinuteModel" 145 MX8_goRides := gd4 51 rfl rfl
theorem lk_X8_125 : mLk "SilenceMinuteModel" 125 MX8_asNow := gd4 55 rfl rfl
theorem lk_X8_134 : mLk "SilenceMinuteModel" 134 MX8_pass := gd4 59 rfl rfl
theorem lk_X8_116 : mLk "SilenceMinuteModel" 116 MX8_holder := gd4 63 rfl rfl
theorem lk_X8_113 : mLk "SilenceMinuteModel" 113 MX8_isTunnel := gd4 67 rfl rfl
theorem lk_X8_110 : mLk "SilenceMinuteModel" 110 MX8_has := gd4 71 rfl rfl
theorem lk_X8_137 : mLk "SilenceMinuteModel" 137 MX8_whyNot := gd4 74 rfl rfl
theorem lk_X8_119 : mLk "SilenceMinuteModel" 119 MX8_ridesNow := gd4 78 rfl rfl
theorem lk_X8_122 : mLk "SilenceMinuteModel" 122 MX8_maySpeak := gd4 82 rfl rfl
theorem lk_X8_141 : mLk "SilenceMinuteModel" 141 MX8_cough := gd4 86 rfl rfl
theorem lk_L_61 : mLk "SilenceMinuteLaw" 61 MX8_done := gd4 90 rfl rfl
theorem lk_X8_148 : mLk "SilenceMinuteModel" 148 MX8_barOfRides := gd4 94 rfl rfl
theorem lk_L_65 : mLk "SilenceMinuteLaw" 65 MX8_behind := gd4 98 rfl rfl
theorem lk_L_69 : mLk "SilenceMinuteLaw" 69 MX8_holds := gd4 102 rfl rfl
theorem lk_L_73 : mLk "SilenceMinuteLaw" 73 MX8_hears := gd4 106 rfl rfl
theorem lk_L_77 : mLk "SilenceMinuteLaw" 77 MX8_forecast := gd4 110 rfl rfl
theorem lk_L_81 : mLk "SilenceMinuteLaw" 81 MX8_rests := gd4 114 rfl rfl
theorem lk_X8_151 : mLk "SilenceMinuteModel" 151 MX8_toEnd := gd4 118 rfl rfl
theorem lk_L_85 : mLk "SilenceMinuteLaw" 85 MX8_talks := gd4 122 rfl rfl
theorem lk_L_89 : mLk "SilenceMinuteLaw" 89 MX8_buy := gd4 126 rfl rfl
theorem lk_L_93 : mLk "SilenceMinuteLaw" 93 MX8_seats := gd4 130 rfl rfl
theorem lk_X8_154 : mLk "SilenceMinuteModel" 154 MX8_ridesAtAll := gd4 134 rfl rfl
theorem lk_X8_157 : mLk "SilenceMinuteModel" 157 MX8_rideAtOnce := gd4 138 rfl rfl
theorem lk_L_97 : mLk "SilenceMinuteLaw" 97 MX8_word := gd4 142 rfl rfl
theorem lk_X8_163 : mLk "SilenceMinuteModel" 163 MX8_goWord := gd4 146 rfl rfl
theorem lk_L_101 : mLk "SilenceMinuteLaw" 101 MX8_heard := gd4 150 rfl rfl
theorem lk_L_105 : mLk "SilenceMinuteLaw" 105 MX8_richest := gd4 154 rfl rfl
theorem lk_L_109 : mLk "SilenceMinuteLaw" 109 MX8_seen := gd4 158 rfl rfl
theorem lk_L_113 : mLk "SilenceMinuteLaw" 113 MX8_forget := gd4 162 rfl rfl
theorem lk_L_117 : mLk "SilenceMinuteLaw" 117 MX8_hum := gd4 166 rfl rfl
theorem lk_X8_170 : mLk "SilenceMinuteModel" 170 MX8_humSet := gd4 170 rfl rfl
theorem lk_L_121 : mLk "SilenceMinuteLaw" 121 MX8_watch := gd4 174 rfl rfl
theorem lk_L_125 : mLk "SilenceMinuteLaw" 125 MX8_auction := gd4 179 rfl rfl
theorem lk_L_130 : mLk "SilenceMinuteLaw" 130 MX8_coughs := gd4 183 rfl rfl
theorem lk_L_134 : mLk "SilenceMinuteLaw" 134 MX8_year := gd4 190 rfl rfl
theorem lk_L_138 : mLk "SilenceMinuteLaw" 138 MX8_image := gd4 195 rfl rfl
theorem lk_L_142 : mLk "SilenceMinuteLaw" 142 MX8_restore := gd4 199 rfl rfl
theorem lk_L_146 : mLk "SilenceMinuteLaw" 146 MX8_told := gd4 203 rfl rfl
theorem fl_X5_9 : fLk "SilenceMinute$Train" 9 5 0 := ⟨RX5, TX5, 11, rfl, by decide, rfl, gd1 26 rfl rfl⟩
theorem fl_X7_68 : fLk "SilenceMinute" 68 5 0 := ⟨RX5, TX5, 11, rfl, by decide, rfl, gd1 27 rfl rfl⟩
theorem fl_X5_34 : fLk "SilenceMinute$Train" 34 5 1 := ⟨RX5, TX5, 11, rfl, by decide, rfl, gd1 28 rfl rfl⟩
theorem fl_X7_72 : fLk "SilenceMinute" 72 5 1 := ⟨RX5, TX5, 11, rfl, by decide, rfl, gd1 29 rfl rfl⟩
theorem fl_X5_37 : fLk "SilenceMinute$Train" 37 5 2 := ⟨RX5, TX5, 11, rfl, by decide, rfl, gd1 30 rfl rfl⟩
theorem fl_X7_136 : fLk "SilenceMinute" 136 5 2 := ⟨RX5, TX5, 11, rfl, by decide, rfl, gd1 31 rfl rfl⟩
theorem fl_X5_15 : fLk "SilenceMinute$Train" 15 5 3 := ⟨RX5, TX5, 11, rfl, by decide, rfl, gd1 32 rfl rfl⟩
theorem fl_X7_107 : fLk "SilenceMinute" 107 5 3 := ⟨RX5, TX5, 11, rfl, by decide, rfl, gd1 33 rfl rfl⟩
theorem fl_X5_40 : fLk "SilenceMinute$Train" 40 5 4 := ⟨RX5, TX5, 11, rfl, by decide, rfl, gd1 34 rfl rfl⟩
theorem fl_X7_139 : fLk "SilenceMinute" 139 5 4 := ⟨RX5, TX5, 11, rfl, by decide, rfl, gd1 35 rfl rfl⟩
theorem fl_X5_43 : fLk "SilenceMinute$Train" 43 5 5 := ⟨RX5, TX5, 11, rfl, by decide, rfl, gd1 36 rfl rfl⟩
theorem fl_X7_79 : fLk "SilenceMinute" 79 5 5 := ⟨RX5, TX5, 11, rfl, by decide, rfl, gd1 37 rfl rfl⟩
theorem fl_X5_18 : fLk "SilenceMinute$Train" 18 5 6 := ⟨RX5, TX5, 11, rfl, by decide, rfl, gd1 38 rfl rfl⟩
theorem fl_X7_271 : fLk "SilenceMinute" 271 5 6 := ⟨RX5, TX5, 11, rfl, by decide, rfl, gd1 39 rfl rfl⟩
theorem fl_X5_22 : fLk "SilenceMinute$Train" 22 5 7 := ⟨RX5, TX5, 11, rfl, by decide, rfl, gd1 40 rfl rfl⟩
theorem fl_X7_274 : fLk "SilenceMinute" 274 5 7 := ⟨RX5, TX5, 11, rfl, by decide, rfl, gd1 41 rfl rfl⟩
theorem fl_X5_25 : fLk "SilenceMinute$Train" 25 5 8 := ⟨RX5, TX5, 11, rfl, by decide, rfl, gd1 42 rfl rfl⟩
theorem fl_X7_100 : fLk "SilenceMinute" 100 5 8 := ⟨RX5, TX5, 11, rfl, by decide, rfl, gd1 43 rfl rfl⟩
theorem fl_X5_28 : fLk "SilenceMinute$Train" 28 5 9 := ⟨RX5, TX5, 11, rfl, by decide, rfl, gd1 44 rfl rfl⟩
theorem fl_X7_104 : fLk "SilenceMinute" 104 5 9 := ⟨RX5, TX5, 11, rfl, by decide, rfl, gd1 45 rfl rfl⟩
theorem fl_X5_31 : fLk "SilenceMinute$Train" 31 5 10 := ⟨RX5, TX5, 11, rfl, by decide, rfl, gd1 46 rfl rfl⟩
theorem fl_X7_277 : fLk "SilenceMinute" 277 5 10 := ⟨RX5, TX5, 11, rfl, by decide, rfl, gd1 47 rfl rfl⟩
theorem fl_X1_11 : fLk "SilenceMinute$Pad" 11 1 0 := ⟨RX1, TX1, 2, rfl, by decide, rfl, gd1 78 rfl rfl⟩
theorem fl_X1_15 : fLk "SilenceMinute$Pad" 15 1 1 := ⟨RX1, TX1, 2, rfl, by decide, rfl, gd1 79 rfl rfl⟩
theorem fl_X6_20 : fLk "SilenceMinute$Verdict" 20 1 1 := ⟨RX1, TX1, 2, rfl, by decide, rfl, gd1 80 rfl rfl⟩
theorem fl_X7_113 : fLk "SilenceMinute" 113 1 1 := ⟨RX1, TX1, 2, rfl, by decide, rfl, gd1 81 rfl rfl⟩
theorem fl_X6_9 : fLk "SilenceMinute$Verdict" 9 6 0 := ⟨RX6, TX6, 2, rfl, by decide, rfl, gd1 93 rfl rfl⟩
theorem fl_X7_126 : fLk "SilenceMinute" 126 6 0 := ⟨RX6, TX6, 2, rfl, by decide, rfl, gd1 94 rfl rfl⟩
theorem fl_X6_15 : fLk "SilenceMinute$Verdict" 15 6 1 := ⟨RX6, TX6, 2, rfl, by decide, rfl, gd1 95 rfl rfl⟩
theorem fl_X7_129 : fLk "SilenceMinute" 129 6 1 := ⟨RX6, TX6, 2, rfl, by decide, rfl, gd1 96 rfl rfl⟩
theorem fl_X4_9 : fLk "SilenceMinute$Sights" 9 4 0 := ⟨RX4, TX4, 3, rfl, by decide, rfl, gd1 108 rfl rfl⟩
theorem fl_X4_13 : fLk "SilenceMinute$Sights" 13 4 1 := ⟨RX4, TX4, 3, rfl, by decide, rfl, gd1 109 rfl rfl⟩
theorem fl_X4_16 : fLk "SilenceMinute$Sights" 16 4 2 := ⟨RX4, TX4, 3, rfl, by decide, rfl, gd1 110 rfl rfl⟩
theorem fl_X7_193 : fLk "SilenceMinute" 193 4 2 := ⟨RX4, TX4, 3, rfl, by decide, rfl, gd1 111 rfl rfl⟩
theorem fl_X3_15 : fLk "SilenceMinute$Seating" 15 3 0 := ⟨RX3, TX3, 4, rfl, by decide, rfl, gd1 125 rfl rfl⟩
theorem fl_X7_175 : fLk "SilenceMinute" 175 3 0 := ⟨RX3, TX3, 4, rfl, by decide, rfl, gd1 126 rfl rfl⟩
theorem fl_X3_19 : fLk "SilenceMinute$Seating" 19 3 1 := ⟨RX3, TX3, 4, rfl, by decide, rfl, gd1 127 rfl rfl⟩
theorem fl_X7_178 : fLk "SilenceMinute" 178 3 1 := ⟨RX3, TX3, 4, rfl, by decide, rfl, gd1 128 rfl rfl⟩
theorem fl_X3_28 : fLk "SilenceMinute$Seating" 28 3 2 := ⟨RX3, TX3, 4, rfl, by decide, rfl, gd1 129 rfl rfl⟩
theorem fl_X3_9 : fLk "SilenceMinute$Seating" 9 3 3 := ⟨RX3, TX3, 4, rfl, by decide, rfl, gd1 130 rfl rfl⟩
theorem fl_X2_31 : fLk "SilenceMinute$Sale" 31 2 0 := ⟨RX2, TX2, 3, rfl, by decide, rfl, gd1 146 rfl rfl⟩
theorem fl_X7_209 : fLk "SilenceMinute" 209 2 0 := ⟨RX2, TX2, 3, rfl, by decide, rfl, gd1 147 rfl rfl⟩
theorem fl_X2_35 : fLk "SilenceMinute$Sale" 35 2 1 := ⟨RX2, TX2, 3, rfl, by decide, rfl, gd1 148 rfl rfl⟩
theorem fl_X7_212 : fLk "SilenceMinute" 212 2 1 := ⟨RX2, TX2, 3, rfl, by decide, rfl, gd1 149 rfl rfl⟩
theorem fl_X2_38 : fLk "SilenceMinute$Sale" 38 2 2 := ⟨RX2, TX2, 3, rfl, by decide, rfl, gd1 150 rfl rfl⟩
theorem fl_X0_30 : fLk "SilenceMinute$Image" 30 0 0 := ⟨RX0, TX0, 3, rfl, by decide, rfl, gd1 168 rfl rfl⟩
theorem fl_X0_10 : fLk "SilenceMinute$Image" 10 0 1 := ⟨RX0, TX0, 3, rfl, by decide, rfl, gd1 169 rfl rfl⟩
theorem fl_X0_19 : fLk "SilenceMinute$Image" 19 0 2 := ⟨RX0, TX0, 3, rfl, by decide, rfl, gd1 170 rfl rfl⟩
theorem fl_X7_10 : fLk "SilenceMinute" 10 7 0 := ⟨RX7, TX7, 9, rfl, by decide, rfl, gd1 178 rfl rfl⟩
theorem fl_X7_16 : fLk "SilenceMinute" 16 7 1 := ⟨RX7, TX7, 9, rfl, by decide, rfl, gd1 179 rfl rfl⟩
theorem fl_X7_22 : fLk "SilenceMinute" 22 7 2 := ⟨RX7, TX7, 9, rfl, by decide, rfl, gd1 180 rfl rfl⟩
theorem fl_X7_29 : fLk "SilenceMinute" 29 7 3 := ⟨RX7, TX7, 9, rfl, by decide, rfl, gd1 181 rfl rfl⟩
theorem fl_X7_36 : fLk "SilenceMinute" 36 7 4 := ⟨RX7, TX7, 9, rfl, by decide, rfl, gd1 182 rfl rfl⟩
theorem fl_X7_43 : fLk "SilenceMinute" 43 7 5 := ⟨RX7, TX7, 9, rfl, by decide, rfl, gd1 183 rfl rfl⟩
theorem fl_X7_50 : fLk "SilenceMinute" 50 7 6 := ⟨RX7, TX7, 9, rfl, by decide, rfl, gd1 184 rfl rfl⟩
theorem fl_X7_57 : fLk "SilenceMinute" 57 7 7 := ⟨RX7, TX7, 9, rfl, by decide, rfl, gd1 185 rfl rfl⟩
theorem fl_X7_61 : fLk "SilenceMinute" 61 7 8 := ⟨RX7, TX7, 9, rfl, by decide, rfl, gd1 186 rfl rfl⟩
theorem fl_X8_7 : fLk "SilenceMinuteModel" 7 8 0 := ⟨RX8, TX8, 27, rfl, by decide, rfl, gd3 142 rfl rfl⟩
theorem fl_X8_67 : fLk "SilenceMinuteModel" 67 8 1 := ⟨RX8, TX8, 27, rfl, by decide, rfl, gd3 143 rfl rfl⟩
theorem fl_X8_13 : fLk "SilenceMinuteModel" 13 8 2 := ⟨RX8, TX8, 27, rfl, by decide, rfl, gd3 144 rfl rfl⟩
theorem fl_X8_17 : fLk "SilenceMinuteModel" 17 8 3 := ⟨RX8, TX8, 27, rfl, by decide, rfl, gd3 145 rfl rfl⟩
theorem fl_X8_20 : fLk "SilenceMinuteModel" 20 8 4 := ⟨RX8, TX8, 27, rfl, by decide, rfl, gd3 146 rfl rfl⟩
theorem fl_X8_23 : fLk "SilenceMinuteModel" 23 8 5 := ⟨RX8, TX8, 27, rfl, by decide, rfl, gd3 147 rfl rfl⟩
theorem fl_X8_26 : fLk "SilenceMinuteModel" 26 8 6 := ⟨RX8, TX8, 27, rfl, by decide, rfl, gd3 148 rfl rfl⟩
theorem fl_X8_29 : fLk "SilenceMinuteModel" 29 8 7 := ⟨RX8, TX8, 27, rfl, by decide, rfl, gd3 149 rfl rfl⟩
theorem fl_X8_64 : fLk "SilenceMinuteModel" 64 8 8 := ⟨RX8, TX8, 27, rfl, by decide, rfl, gd3 150 rfl rfl⟩
theorem fl_X8_101 : fLk "SilenceMinuteModel" 101 8 9 := ⟨RX8, TX8, 27, rfl, by decide, rfl, gd3 151 rfl rfl⟩
theorem fl_X8_167 : fLk "SilenceMinuteModel" 167 8 10 := ⟨RX8, TX8, 27, rfl, by decide, rfl, gd3 152 rfl rfl⟩
theorem fl_X8_32 : fLk "SilenceMinuteModel" 32 8 11 := ⟨RX8, TX8, 27, rfl, by decide, rfl, gd3 153 rfl rfl⟩
theorem fl_X8_85 : fLk "SilenceMinuteModel" 85 8 12 := ⟨RX8, TX8, 27, rfl, by decide, rfl, gd3 154 rfl rfl⟩
theorem fl_X8_35 : fLk "SilenceMinuteModel" 35 8 13 := ⟨RX8, TX8, 27, rfl, by decide, rfl, gd3 155 rfl rfl⟩
theorem fl_X8_38 : fLk "SilenceMinuteModel" 38 8 14 := ⟨RX8, TX8, 27, rfl, by decide, rfl, gd3 156 rfl rfl⟩
theorem fl_X8_41 : fLk "SilenceMinuteModel" 41 8 15 := ⟨RX8, TX8, 27, rfl, by decide, rfl, gd3 157 rfl rfl⟩
theorem fl_X8_98 : fLk "SilenceMinuteModel" 98 8 16 := ⟨RX8, TX8, 27, rfl, by decide, rfl, gd3 158 rfl rfl⟩
theorem fl_X8_104 : fLk "SilenceMinuteModel" 104 8 17 := ⟨RX8, TX8, 27, rfl, by decide, rfl, gd3 159 rfl rfl⟩
theorem fl_X8_107 : fLk "SilenceMinuteModel" 107 8 18 := ⟨RX8, TX8, 27, rfl, by decide, rfl, gd3 160 rfl rfl⟩
theorem fl_X8_44 : fLk "SilenceMinuteModel" 44 8 19 := ⟨RX8, TX8, 27, rfl, by decide, rfl, gd3 161 rfl rfl⟩
theorem fl_X8_47 : fLk "SilenceMinuteModel" 47 8 20 := ⟨RX8, TX8, 27, rfl, by decide, rfl, gd3 162 rfl rfl⟩
theorem fl_X8_131 : fLk "SilenceMinuteModel" 131 8 21 := ⟨RX8, TX8, 27, rfl, by decide, rfl, gd3 163 rfl rfl⟩
theorem fl_X8_128 : fLk "SilenceMinuteModel" 128 8 22 := ⟨RX8, TX8, 27, rfl, by decide, rfl, gd3 164 rfl rfl⟩
theorem fl_X8_160 : fLk "SilenceMinuteModel" 160 8 23 := ⟨RX8, TX8, 27, rfl, by decide, rfl, gd3 165 rfl rfl⟩
theorem fl_X8_50 : fLk "SilenceMinuteModel" 50 8 24 := ⟨RX8, TX8, 27, rfl, by decide, rfl, gd3 166 rfl rfl⟩
theorem fl_X8_53 : fLk "SilenceMinuteModel" 53 8 25 := ⟨RX8, TX8, 27, rfl, by decide, rfl, gd3 167 rfl rfl⟩
theorem fl_X8_56 : fLk "SilenceMinuteModel" 56 8 26 := ⟨RX8, TX8, 27, rfl, by decide, rfl, gd3 168 rfl rfl⟩
theorem cu_X0 : ∀ w ∈ u_ws RX0 TX0 3, w ∈ lw_gd := by
  intro w hw
  have h : u_ws RX0 TX0 3 = [206, 208, 210].filterMap (fun i => lw_tbl[i]?) := by decide +kernel
  have hg : (u_ws RX0 TX0 3).all goodWord = true := by decide +kernel
  refine List.mem_filter.mpr ⟨?_, List.all_eq_true.mp hg w hw⟩
  rw [h] at hw
  obtain ⟨i, -, hi⟩ := List.mem_filterMap.mp hw
  exact List.mem_of_getElem? hi
theorem ck_X0 : cOk 0 := ⟨RX0, TX0, 3, tyX0, rfl, cu_X0, tyX0_ok, nmX0, gd1 159 rfl rfl, gd1 8 rfl rfl⟩
theorem cu_X1 : ∀ w ∈ u_ws RX1 TX1 2, w ∈ lw_gd := by
  intro w hw
  have h : u_ws RX1 TX1 2 = [117, 119].filterMap (fun i => lw_tbl[i]?) := by decide +kernel
  have hg : (u_ws RX1 TX1 2).all goodWord = true := by decide +kernel
  refine List.mem_filter.mpr ⟨?_, List.all_eq_true.mp hg w hw⟩
  rw [h] at hw
  obtain ⟨i, -, hi⟩ := List.mem_filterMap.mp hw
  exact List.mem_of_getElem? hi
theorem ck_X1 : cOk 1 := ⟨RX1, TX1, 2, tyX1, rfl, cu_X1, tyX1_ok, nmX1, gd1 73 rfl rfl, gd1 3 rfl rfl⟩
theorem cu_X2 : ∀ w ∈ u_ws RX2 TX2 3, w ∈ lw_gd := by
  intro w hw
  have h : u_ws RX2 TX2 3 = [186, 188, 190].filterMap (fun i => lw_tbl[i]?) := by decide +kernel
  have hg : (u_ws RX2 TX2 3).all goodWord = true := by decide +kernel
  refine List.mem_filter.mpr ⟨?_, List.all_eq_true.mp hg w hw⟩
  rw [h] at hw
  obtain ⟨i, -, hi⟩ := List.mem_filterMap.mp hw
  exact List.mem_of_getElem? hi
theorem ck_X2 : cOk 2 := ⟨RX2, TX2, 3, tyX2, rfl, cu_X2, tyX2_ok, nmX2, gd1 141 rfl rfl, gd1 7 rfl rfl⟩
theorem cu_X3 : ∀ w ∈ u_ws RX3 TX3 4, w ∈ lw_gd := by
  intro w hw
  have h : u_ws RX3 TX3 4 = [166, 168, 170, 172].filterMap (fun i => lw_tbl[i]?) := by decide +kernel
  have hg : (u_ws RX3 TX3 4).all goodWord = true := by decide +kernel
  refine List.mem_filter.mpr ⟨?_, List.all_eq_true.mp hg w hw⟩
  rw [h] at hw
  obtain ⟨i, -, hi⟩ := List.mem_filterMap.mp hw
  exact List.mem_of_getElem? hi
theorem ck_X3 : cOk 3 := ⟨RX3, TX3, 4, tyX3, rfl, cu_X3, tyX3_ok, nmX3, gd1 120 rfl rfl, gd1 6 rfl rfl⟩
theorem cu_X4 : ∀ w ∈ u_ws RX4 TX4 3, w ∈ lw_gd := by
  intro w hw
  have h : u_ws RX4 TX4 3 = [147, 149, 151].filterMap (fun i => lw_tbl[i]?) := by decide +kernel
  have hg : (u_ws RX4 TX4 3).all goodWord = true := by decide +kernel
  refine List.mem_filter.mpr ⟨?_, List.all_eq_true.mp hg w hw⟩
  rw [h] at hw
  obtain ⟨i, -, hi⟩ := List.mem_filterMap.mp hw
  exact List.mem_of_getElem? hi
theorem ck_X4 : cOk 4 := ⟨RX4, TX4, 3, tyX4, rfl, cu_X4, tyX4_ok, nmX4, gd1 103 rfl rfl, gd1 5 rfl rfl⟩
theorem cu_X5 : ∀ w ∈ u_ws RX5 TX5 11, w ∈ lw_gd := by
  intro w hw
  have h : u_ws RX5 TX5 11 = [83, 85, 87, 89, 91, 93, 95, 97, 99, 101, 103].filterMap (fun i => lw_tbl[i]?) := by decide +kernel
  have hg : (u_ws RX5 TX5 11).all goodWord = true := by decide +kernel
  refine List.mem_filter.mpr ⟨?_, List.all_eq_true.mp hg w hw⟩
  rw [h] at hw
  obtain ⟨i, -, hi⟩ := List.mem_filterMap.mp hw
  exact List.mem_of_getElem? hi
theorem ck_X5 : cOk 5 := ⟨RX5, TX5, 11, tyX5, rfl, cu_X5, tyX5_ok, nmX5, gd1 21 rfl rfl, gd1 2 rfl rfl⟩
theorem cu_X6 : ∀ w ∈ u_ws RX6 TX6 2, w ∈ lw_gd := by
  intro w hw
  have h : u_ws RX6 TX6 2 = [132, 134].filterMap (fun i => lw_tbl[i]?) := by decide +kernel
  have hg : (u_ws RX6 TX6 2).all goodWord = true := by decide +kernel
  refine List.mem_filter.mpr ⟨?_, List.all_eq_true.mp hg w hw⟩
  rw [h] at hw
  obtain ⟨i, -, hi⟩ := List.mem_filterMap.mp hw
  exact List.mem_of_getElem? hi
theorem ck_X6 : cOk 6 := ⟨RX6, TX6, 2, tyX6, rfl, cu_X6, tyX6_ok, nmX6, gd1 88 rfl rfl, gd1 4 rfl rfl⟩
theorem cu_X7 : ∀ w ∈ u_ws RX7 TX7 9, w ∈ lw_gd := by
  intro w hw
  have h : u_ws RX7 TX7 9 = [222, 224, 226, 228, 230, 232, 234, 236, 238].filterMap (fun i => lw_tbl[i]?) := by decide +kernel
  have hg : (u_ws RX7 TX7 9).all goodWord = true := by decide +kernel
  refine List.mem_filter.mpr ⟨?_, List.all_eq_true.mp hg w hw⟩
  rw [h] at hw
  obtain ⟨i, -, hi⟩ := List.mem_filterMap.mp hw
  exact List.mem_of_getElem? hi
theorem ck_X7 : cOk 7 := ⟨RX7, TX7, 9, tyX7, rfl, cu_X7, tyX7_ok, nmX7, gd1 13 rfl rfl, gd1 1 rfl rfl⟩
theorem cu_X8 : ∀ w ∈ u_ws RX8 TX8 27, w ∈ lw_gd := by
  intro w hw
  have h : u_ws RX8 TX8 27 = [684, 686, 688, 690, 692, 694, 696, 698, 700, 702, 704, 706, 708, 710, 712, 714, 716, 718, 720, 722, 724, 726, 728, 730, 732, 734, 736].filterMap (fun i => lw_tbl[i]?) := by decide +kernel
  have hg : (u_ws RX8 TX8 27).all goodWord = true := by decide +kernel
  refine List.mem_filter.mpr ⟨?_, List.all_eq_true.mp hg w hw⟩
  rw [h] at hw
  obtain ⟨i, -, hi⟩ := List.mem_filterMap.mp hw
  exact List.mem_of_getElem? hi
theorem ck_X8 : cOk 8 := ⟨RX8, TX8, 27, tyX8, rfl, cu_X8, tyX8_ok, nmX8, gd3 137 rfl rfl, gd1 9 rfl rfl⟩
theorem kc_J6_265 : Cond.constant "java/lang/Integer" 265 (1431655765) ∈ lw_gd := gd3 49 rfl rfl
theorem kc_J6_266 : Cond.constant "java/lang/Integer" 266 (858993459) ∈ lw_gd := gd3 50 rfl rfl
theorem kc_J6_267 : Cond.constant "java/lang/Integer" 267 (252645135) ∈ lw_gd := gd3 51 rfl rfl
theorem kl_X7_215 : Cond.constantLong "SilenceMinute" 215 (-1000000000000000001) ∈ lw_gd := gd3 82 rfl rfl
theorem kl_X7_217 : Cond.constantLong "SilenceMinute" 217 (-1000000000000000002) ∈ lw_gd := gd3 83 rfl rfl
theorem kc_X7_225 : Cond.constant "SilenceMinute" 225 (65537) ∈ lw_gd := gd3 95 rfl rfl
theorem kc_X8_173 : Cond.constant "SilenceMinuteModel" 173 (1000000) ∈ lw_gd := gd4 178 rfl rfl
theorem kl_X8_174 : Cond.constantLong "SilenceMinuteModel" 174 (-1000000000000000001) ∈ lw_gd := gd4 187 rfl rfl
theorem kl_X8_176 : Cond.constantLong "SilenceMinuteModel" 176 (-1000000000000000002) ∈ lw_gd := gd4 188 rfl rfl
theorem kl_X8_178 : Cond.constantLong "SilenceMinuteModel" 178 (10) ∈ lw_gd := gd4 189 rfl rfl
theorem kc_X8_180 : Cond.constant "SilenceMinuteModel" 180 (65537) ∈ lw_gd := gd4 194 rfl rfl
end
section
abbrev St : Type := Nat → Nat → Int32
abbrev Sh : Type := (Nat × List (Option Nat)) ⊕ (Nat × Bool)
/-- the world: objects (class, fields: a place, or an int), arrays (length, of booleans?) -/
def shL : List Sh := [.inl (7, [some 1, some 7, some 13, some 15, some 16, some 19, some 21, some 22, some 32]), .inl (5, [none, none, none, none, none, none, some 2, some 3, some 4, some 5, some 6]), .inr (6, false), .inr (6, false), .inr (6, false), .inr (6, false), .inr (6, false), .inl (5, [none, none, none, none, none, none, some 8, some 9, some 10, some 11, some 12]), .inr (6, false), .inr (6, false), .inr (6, false), .inr (6, false), .inr (6, false), .inl (1, [some 14, none]), .inr (60, false), .inl (6, [none, none]), .inl (4, [some 17, some 18, none]), .inr (8, false), .inr (8, false), .inl (3, [none, none, none, some 20]), .inr (6, false), .inl (2, [none, none, none]), .inl (0, [none, some 23, some 29]), .inl (5, [none, none, none, none, none, none, some 24, some 25, some 26, some 27, some 28]), .inr (6, false), .inr (6, false), .inr (6, false), .inr (6, false), .inr (6, false), .inl (4, [some 30, some 31, none]), .inr (8, false), .inr (8, false), .inl (0, [none, some 33, some 39]), .inl (5, [none, none, none, none, none, none, some 34, some 35, some 36, some 37, some 38]), .inr (6, false), .inr (6, false), .inr (6, false), .inr (6, false), .inr (6, false), .inl (4, [some 40, some 41, none]), .inr (8, false), .inr (8, false), .inl (8, [none, none, some 43, some 44, some 45, some 46, some 47, none, none, none, none, some 48, none, some 49, some 50, some 51, none, none, none, some 52, some 53, none, none, none, some 54, some 55, some 56]), .inr (6, false), .inr (6, false), .inr (6, false), .inr (6, false), .inr (6, false), .inr (16, false), .inr (60, false), .inr (6, false), .inr (6, false), .inr (6, false), .inr (3, false), .inr (21, false), .inr (140, false), .inr (2, true)]
def sh (p : Nat) : Sh := shL.getD p (.inr (0, false))
theorem sh_0 : sh 0 = .inl (7, [some 1, some 7, some 13, some 15, some 16, some 19, some 21, some 22, some 32]) := rfl
theorem sh_1 : sh 1 = .inl (5, [none, none, none, none, none, none, some 2, some 3, some 4, some 5, some 6]) := rfl
theorem sh_2 : sh 2 = .inr (6, false) := rfl
theorem sh_3 : sh 3 = .inr (6, false) := rfl
theorem sh_4 : sh 4 = .inr (6, false) := rfl
theorem sh_5 : sh 5 = .inr (6, false) := rfl
theorem sh_6 : sh 6 = .inr (6, false) := rfl
theorem sh_7 : sh 7 = .inl (5, [none, none, none, none, none, none, some 8, some 9, some 10, some 11, some 12]) := rfl
theorem sh_8 : sh 8 = .inr (6, false) := rfl
theorem sh_9 : sh 9 = .inr (6, false) := rfl
theorem sh_10 : sh 10 = .inr (6, false) := rfl
theorem sh_11 : sh 11 = .inr (6, false) := rfl
theorem sh_12 : sh 12 = .inr (6, false) := rfl
theorem sh_13 : sh 13 = .inl (1, [some 14, none]) := rfl
theorem sh_14 : sh 14 = .inr (60, false) := rfl
theorem sh_15 : sh 15 = .inl (6, [none, none]) := rfl
theorem sh_16 : sh 16 = .inl (4, [some 17, some 18, none]) := rfl
theorem sh_17 : sh 17 = .inr (8, false) := rfl
theorem sh_18 : sh 18 = .inr (8, false) := rfl
theorem sh_19 : sh 19 = .inl (3, [none, none, none, some 20]) := rfl
theorem sh_20 : sh 20 = .inr (6, false) := rfl
theorem sh_21 : sh 21 = .inl (2, [none, none, none]) := rfl
theorem sh_22 : sh 22 = .inl (0, [none, some 23, some 29]) := rfl
theorem sh_23 : sh 23 = .inl (5, [none, none, none, none, none, none, some 24, some 25, some 26, some 27, some 28]) := rfl
theorem sh_24 : sh 24 = .inr (6, false) := rfl
theorem sh_25 : sh 25 = .inr (6, false) := rfl
theorem sh_26 : sh 26 = .inr (6, false) := rfl
theorem sh_27 : sh 27 = .inr (6, false) := rfl
theorem sh_28 : sh 28 = .inr (6, false) := rfl
theorem sh_29 : sh 29 = .inl (4, [some 30, some 31, none]) := rfl
theorem sh_30 : sh 30 = .inr (8, false) := rfl
theorem sh_31 : sh 31 = .inr (8, false) := rfl
theorem sh_32 : sh 32 = .inl (0, [none, some 33, some 39]) := rfl
theorem sh_33 : sh 33 = .inl (5, [none, none, none, none, none, none, some 34, some 35, some 36, some 37, some 38]) := rfl
theorem sh_34 : sh 34 = .inr (6, false) := rfl
theorem sh_35 : sh 35 = .inr (6, false) := rfl
theorem sh_36 : sh 36 = .inr (6, false) := rfl
theorem sh_37 : sh 37 = .inr (6, false) := rfl
theorem sh_38 : sh 38 = .inr (6, false) := rfl
theorem sh_39 : sh 39 = .inl (4, [some 40, some 41, none]) := rfl
theorem sh_40 : sh 40 = .inr (8, false) := rfl
theorem sh_41 : sh 41 = .inr (8, false) := rfl
theorem sh_42 : sh 42 = .inl (8, [none, none, some 43, some 44, some 45, some 46, some 47, none, none, none, none, some 48, none, some 49, some 50, some 51, none, none, none, some 52, some 53, none, none, none, some 54, some 55, some 56]) := rfl
theorem sh_43 : sh 43 = .inr (6, false) := rfl
theorem sh_44 : sh 44 = .inr (6, false) := rfl
theorem sh_45 : sh 45 = .inr (6, false) := rfl
theorem sh_46 : sh 46 = .inr (6, false) := rfl
theorem sh_47 : sh 47 = .inr (6, false) := rfl
theorem sh_48 : sh 48 = .inr (16, false) := rfl
theorem sh_49 : sh 49 = .inr (60, false) := rfl
theorem sh_50 : sh 50 = .inr (6, false) := rfl
theorem sh_51 : sh 51 = .inr (6, false) := rfl
theorem sh_52 : sh 52 = .inr (6, false) := rfl
theorem sh_53 : sh 53 = .inr (3, false) := rfl
theorem sh_54 : sh 54 = .inr (21, false) := rfl
theorem sh_55 : sh 55 = .inr (140, false) := rfl
theorem sh_56 : sh 56 = .inr (2, true) := rfl
theorem sh_lt {p : Nat} (h : sh p ≠ .inr (0, false)) : p < 57 := by
  rcases Nat.lt_or_ge p 57 with q | q
  · exact q
  · exact absurd (by unfold sh; rw [List.getD_eq_getElem?_getD, List.getElem?_eq_none (show shL.length ≤ p from q)]; rfl) h
def ups (σ : St) (p i : Nat) (x : Int32) : St := fun q j => if q = p then (if j = i then x else σ q j) else σ q j
theorem ups_at (σ : St) (p i : Nat) (x : Int32) : ups σ p i x p = upd (σ p) i x := by funext j; simp [ups, upd]
theorem ups_ne (σ : St) {p q : Nat} (i : Nat) (x : Int32) (h : q ≠ p) : ups σ p i x q = σ q := by funext j; simp [ups, h]
def cv (ad : Nat → Nat) : Value → Value
  | .ref p => .ref (ad p)
  | v => v
theorem cv_cat (ad : Nat → Nat) (v : Value) : (cv ad v).category = v.category := by cases v <;> rfl
def fv (ad : Nat → Nat) (f : Nat → Int32) : List (Option Nat) → Nat → List Value
  | [], _ => []
  | none :: r, i => .int (f i) :: fv ad f r (i + 1)
  | some q :: r, i => .ref (ad q) :: fv ad f r (i + 1)
theorem fv_at (ad : Nat → Nat) (f : Nat → Int32) : ∀ (ks : List (Option Nat)) (i j : Nat), (fv ad f ks i)[j]? = (ks[j]?).map (fun o => match o with | none => Value.int (f (i + j)) | some q => .ref (ad q))
  | [], i, j => by simp [fv]
  | none :: r, i, 0 => by simp [fv]
  | some q :: r, i, 0 => by simp [fv]
  | none :: r, i, j + 1 => by simp [fv, fv_at ad f r (i + 1) j, Nat.add_assoc, Nat.add_comm 1 j]
  | some q :: r, i, j + 1 => by simp [fv, fv_at ad f r (i + 1) j, Nat.add_assoc, Nat.add_comm 1 j]
theorem fv_len (ad : Nat → Nat) (f : Nat → Int32) : ∀ (ks : List (Option Nat)) (i : Nat), (fv ad f ks i).length = ks.length
  | [], i => rfl
  | none :: r, i => by simp [fv, fv_len ad f r (i + 1)]
  | some q :: r, i => by simp [fv, fv_len ad f r (i + 1)]
theorem fv_set (ad : Nat → Nat) (f : Nat → Int32) (ks : List (Option Nat)) (j : Nat) (x : Int32) (h : ks[j]? = some none) : (fv ad f ks 0).set j (.int x) = fv ad (upd f j x) ks 0 := by
  apply List.ext_getElem?
  intro n
  rw [List.getElem?_set, fv_at, fv_at]
  by_cases hn : j = n
  · subst hn
    have hl : j < ks.length := (List.getElem?_eq_some_iff.mp h).1
    have h2 : ks[j] = none := (List.getElem?_eq_some_iff.mp h).2
    simp [fv_len, hl, h2, upd]
  · rw [if_neg hn]
    cases hk : ks[n]? with
    | none => rfl
    | some o => cases o with
      | none => simp [upd, Ne.symm hn]
      | some q => rfl
def ent (ad : Nat → Nat) (cA : Nat → ClassId) (σ : St) (p : Nat) : va_E := match sh p with
  | .inl (ci, ks) => .inr (ci, fv ad (σ p) ks 0)
  | .inr (n, _) => .inl (cA p, n, .inl (σ p))
def wl (ad : Nat → Nat) (cA : Nat → ClassId) (σ : St) : va_W := (List.range 57).map (fun p => (ad p, ent ad cA σ p))
def tyl (cA : Nat → ClassId) : List (ClassId × FieldType) := (List.range 57).map (fun p => (cA p, match sh p with | .inr (_, true) => .boolean | _ => .int))
theorem wl_at {ad : Nat → Nat} {cA : Nat → ClassId} {σ : St} {p : Nat} (h : p < 57) : (wl ad cA σ)[p]? = some (ad p, ent ad cA σ p) := by
  simp [wl, h]
theorem wl_len (ad : Nat → Nat) (cA : Nat → ClassId) (σ : St) : (wl ad cA σ).length = 57 := by simp [wl]
theorem wl_obj {ad : Nat → Nat} {cA : Nat → ClassId} {σ : St} {p ci : Nat} {ks : List (Option Nat)} (h : sh p = .inl (ci, ks)) : (wl ad cA σ)[p]? = some (ad p, .inr (ci, fv ad (σ p) ks 0)) := by
  rw [wl_at (sh_lt (by rw [h]; simp))]; simp only [ent, h]
theorem wl_arr {ad : Nat → Nat} {cA : Nat → ClassId} {σ : St} {p n : Nat} {b : Bool} (h : sh p = .inr (n, b)) (hn : 0 < n) : (wl ad cA σ)[p]? = some (ad p, .inl (cA p, n, .inl (σ p))) := by
  rw [wl_at (sh_lt (by rw [h]; intro e; cases e; omega))]; simp only [ent, h]
theorem ty_arr {cA : Nat → ClassId} {p n : Nat} (h : sh p = .inr (n, false)) (hn : 0 < n) : (tyl cA)[p]? = some (cA p, .int) := by
  have hp : p < 57 := sh_lt (by rw [h]; intro e; cases e; omega)
  simp [tyl, hp, h]
theorem ty_arrZ {cA : Nat → ClassId} {p n : Nat} (h : sh p = .inr (n, true)) : (tyl cA)[p]? = some (cA p, .boolean) := by
  have hp : p < 57 := sh_lt (by rw [h]; intro e; cases e)
  simp [tyl, hp, h]
theorem wl_set {ad : Nat → Nat} {cA : Nat → ClassId} {σ : St} {p i : Nat} {x : Int32} {e : va_E} (he : ent ad cA (ups σ p i x) p = e) : (wl ad cA σ).set p (ad p, e) = wl ad cA (ups σ p i x) := by
  apply List.ext_getElem?
  intro n
  rw [List.getElem?_set, wl_len]
  by_cases hn : p = n
  · subst hn
    by_cases hp : p < 57
    · rw [if_pos rfl, if_pos hp, wl_at hp, he]
    · rw [if_pos rfl, if_neg hp, List.getElem?_eq_none (by rw [wl_len]; omega)]
  · rw [if_neg hn]
    by_cases hq : n < 57
    · rw [wl_at hq, wl_at hq]
      simp only [ent, ups_ne σ i x (Ne.symm hn)]
    · rw [List.getElem?_eq_none (by rw [wl_len]; omega), List.getElem?_eq_none (by rw [wl_len]; omega)]
theorem wl_putO {ad : Nat → Nat} {cA : Nat → ClassId} {σ : St} {p ci j : Nat} {ks : List (Option Nat)} {x : Int32} (h : sh p = .inl (ci, ks)) (hj : ks[j]? = some none) : (wl ad cA σ).set p (ad p, .inr (ci, (fv ad (σ p) ks 0).set j (.int x))) = wl ad cA (ups σ p j x) := by
  refine wl_set ?_
  simp only [ent, h, ups_at, fv_set ad (σ p) ks j x hj]
theorem wl_putA {ad : Nat → Nat} {cA : Nat → ClassId} {σ : St} {p n i : Nat} {b : Bool} {x : Int32} (h : sh p = .inr (n, b)) : (wl ad cA σ).set p (ad p, .inl (cA p, n, .inl (upd (σ p) i x))) = wl ad cA (ups σ p i x) := by
  refine wl_set ?_
  simp only [ent, h, ups_at]
/-! locals -/
def lvl (ad : Nat → Nat) : Nat → List (Option Value) → List (Nat × Value)
  | _, [] => []
  | i, none :: r => lvl ad (i + 1) r
  | i, some v :: r => (i, cv ad v) :: lvl ad (i + 1) r
theorem lvl_mem {ad : Nat → Nat} : ∀ {ls : List (Option Value)} {i : Nat} {q : Nat × Value}, q ∈ lvl ad i ls → ∃ (k : Nat) (v : Value), ls[k]? = some (some v) ∧ q = (i + k, cv ad v)
  | [], i, q, h => by simp [lvl] at h
  | none :: r, i, q, h => by
    obtain ⟨k, v, h1, h2⟩ := lvl_mem (ls := r) (i := i + 1) h
    exact ⟨k + 1, v, by simpa using h1, by rw [h2]; congr 1; omega⟩
  | some w :: r, i, q, h => by
    rcases List.mem_cons.mp h with h | h
    · exact ⟨0, w, by simp, by rw [h]; rfl⟩
    · obtain ⟨k, v, h1, h2⟩ := lvl_mem (ls := r) (i := i + 1) h
      exact ⟨k + 1, v, by simpa using h1, by rw [h2]; congr 1; omega⟩
theorem lvl_in {ad : Nat → Nat} : ∀ {ls : List (Option Value)} {i k : Nat} {v : Value}, ls[k]? = some (some v) → (i + k, cv ad v) ∈ lvl ad i ls
  | [], i, k, v, h => by simp at h
  | none :: r, i, 0, v, h => by simp at h
  | none :: r, i, k + 1, v, h => by
    have := lvl_in (ad := ad) (ls := r) (i := i + 1) (k := k) (v := v) (by simpa using h)
    rw [show i + (k + 1) = i + 1 + k by omega]
    exact this
  | some w :: r, i, 0, v, h => by
    simp at h
    subst h
    exact List.mem_cons_self
  | some w :: r, i, k + 1, v, h => by
    have := lvl_in (ad := ad) (ls := r) (i := i + 1) (k := k) (v := v) (by simpa using h)
    rw [show i + (k + 1) = i + 1 + k by omega]
    exact List.mem_cons_of_mem _ this
theorem lv_mono {ls : Array Slot} {n : Nat} {l l' : List (Nat × Value)} (h : lv_has ls n l) (hl : ∀ q ∈ l', q ∈ l) : lv_has ls n l' := ⟨h.1, h.2.1, fun q hq => h.2.2 q (hl q hq)⟩
def nlg : Option Value → Bool
  | some (.long _) => false
  | some (.double _) => false
  | _ => true
theorem nlg_cat {v : Value} (h : nlg (some v) = true) : ¬ v.category = 2 := by cases v <;> simp [nlg, Value.category] at h ⊢
/-- the value ahead of place i is no long -/
def nlp (ls : List (Option Value)) (i : Nat) : Bool := match i with
  | 0 => true
  | j + 1 => nlg ((ls[j]?).getD none)
theorem st_mem {ad : Nat → Nat} {ls : List (Option Value)} {i : Nat} {v : Value} (hi : i < ls.length) (hp : nlp ls i = true) : ∀ q ∈ lvl ad 0 (ls.set i (some v)), q ∈ (i, cv ad v) :: (lvl ad 0 ls).filter (fun q => !(q.1 == i) && !(q.1 + 1 == i && q.2.category == 2)) := by
  intro q hq
  obtain ⟨k, w, h1, h2⟩ := lvl_mem hq
  rw [Nat.zero_add] at h2
  by_cases hk : k = i
  · subst hk
    rw [List.getElem?_set_self hi] at h1
    cases h1
    rw [h2]
    exact List.mem_cons_self
  · rw [List.getElem?_set_ne (Ne.symm hk)] at h1
    refine List.mem_cons_of_mem _ (List.mem_filter.mpr ⟨?_, ?_⟩)
    · rw [h2]
      have := lvl_in (ad := ad) (i := 0) h1
      rwa [Nat.zero_add] at this
    · rw [h2]
      simp only [Bool.and_eq_true, Bool.not_eq_true', beq_eq_false_iff_ne, ne_eq, hk, not_false_eq_true, true_and]
      rw [Bool.eq_false_iff]
      intro hc
      simp only [Bool.and_eq_true, beq_iff_eq] at hc
      obtain ⟨c1, c2⟩ := hc
      subst c1
      rw [cv_cat] at c2
      have hp2 : nlg ((ls[k]?).getD none) = true := hp
      rw [h1] at hp2
      exact nlg_cat hp2 c2
theorem st_mem2 {ad : Nat → Nat} {ls : List (Option Value)} {i : Nat} {v : Value} (hi : i + 1 < ls.length) (hp : nlp ls i = true) : ∀ q ∈ lvl ad 0 ((ls.set i (some v)).set (i + 1) none), q ∈ (i, cv ad v) :: (lvl ad 0 ls).filter (fun q => !(q.1 == i) && (!(q.1 == i + 1) && !(q.1 + 1 == i && q.2.category == 2))) := by
  intro q hq
  obtain ⟨k, w, h1, h2⟩ := lvl_mem hq
  rw [Nat.zero_add] at h2
  by_cases hk1 : k = i + 1
  · subst hk1
    rw [List.getElem?_set_self (by simpa using hi)] at h1
    cases h1
  · rw [List.getElem?_set_ne (Ne.symm hk1)] at h1
    by_cases hk : k = i
    · subst hk
      rw [List.getElem?_set_self (by omega)] at h1
      cases h1
      rw [h2]
      exact List.mem_cons_self
    · rw [List.getElem?_set_ne (Ne.symm hk)] at h1
      refine List.mem_cons_of_mem _ (List.mem_filter.mpr ⟨?_, ?_⟩)
      · rw [h2]
        have := lvl_in (ad := ad) (i := 0) h1
        rwa [Nat.zero_add] at this
      · rw [h2]
        simp only [Bool.and_eq_true, Bool.not_eq_true', beq_eq_false_iff_ne, ne_eq, hk, hk1, not_false_eq_true, true_and]
        rw [Bool.eq_false_iff]
        intro hc
        simp only [Bool.and_eq_true, beq_iff_eq] at hc
        obtain ⟨c1, c2⟩ := hc
        subst c1
        rw [cv_cat] at c2
        have hp2 : nlg ((ls[k]?).getD none) = true := hp
        rw [h1] at hp2
        exact nlg_cat hp2 c2
/-! the judgement -/
abbrev Gt : Type := (Program × Launch × Env × Room × State × MethodId × Array Value × List Frame × Method × Code) × va_G × (Nat → Nat) × (Nat → ClassId) × (Nat → Prop) × (Nat × Nat) × (State → Prop)
def Nst (U : State) : Prop := ∀ w ∈ nst, va_Nw w U
def CX (g : Gt) (M : Mt) : Prop := match g with
  | ((p, l, e, R, s, m, args, below, meth, c), D, ad, cA, A, (kc, ks), Q) => p.tables.exec = Jvm.exec ∧ c.code = mC M ∧ c.maxLocals = mL M ∧ s.vm.findClass (mY M).cls = some m.cls ∧ (∀ w ∈ lw_gd, w.before args s = true) ∧ Nst s ∧ va_K D cls (tyl cA) s ∧ (∀ q, s.heap.size ≤ q → A q) ∧ (mF M ≤ R.frames ∧ mO M ≤ R.locals) ∧ (kc ≤ R.cells ∧ ks ≤ R.slots)
def ZW (g : Gt) (pc : Nat) (ls : List (Option Value)) (st : List Value) (σ : St) : Prop := match g with
  | ((p, l, e, R, s, m, args, below, meth, c), D, ad, cA, A, (kc, ks), Q) => ∀ (H : Heap) (locs : List Loc) (lsa : Array Slot), va_P D cls (wl ad cA σ) H → va_D A (wl ad cA σ) → va_S A s.heap H locs → ls.length = c.maxLocals → lv_has lsa c.maxLocals (lvl ad 0 ls) → W p l e R s m args below meth c H locs kc ks Q (F0 m pc lsa (st.map (cv ad)))
/-- a row of the code: what stands at pc, how long it is, where the next one is -/
def Dc (M : Mt) (pc pc1 : Nat) (i : Instr) (len : Nat) : Prop := decode (mC M) pc = .ok (i, len) ∧ pc + len = pc1
theorem lvl_at {ad : Nat → Nat} {ls : List (Option Value)} {lsa : Array Slot} {n i : Nat} {v : Value} (h : lv_has lsa n (lvl ad 0 ls)) (hi : ls[i]? = some (some v)) : lsa[i]? = some (.val (cv ad v)) := by
  have h1 := lvl_in (ad := ad) (i := 0) hi
  rw [Nat.zero_add] at h1
  exact h.2.2 _ h1
section ZR
variable {g : Gt} {M : Mt} {pc pc1 i : Nat} {ls : List (Option Value)} {st : List Value} {σ : St}
theorem zw_iloadn {x : Int32} (X : CX g M) {q : Fin 4} (hq : (q : Nat) = i) (d : Dc M pc pc1 (.iload_n q) 1) (hl : ls[i]? = some (some (.int x))) (k : ZW g pc1 ls (.int x :: st) σ) : ZW g pc ls st σ := by
  obtain ⟨⟨p, l, e, R, s, m, args, below, meth, c⟩, D, ad, cA, A, ⟨kc, ks⟩, Q⟩ := g
  obtain ⟨hx, hb, -⟩ := X
  obtain ⟨d1, rfl⟩ := d
  intro H locs lsa hP hD hS hn hh
  exact lv_iload_n hx hb d1 hq (lvl_at hh hl) (k H locs lsa hP hD hS hn hh)
theorem zw_iload {x : Int32} (X : CX g M) (d : Dc M pc pc1 (.iload i) 2) (hl : ls[i]? = some (some (.int x))) (k : ZW g pc1 ls (.int x :: st) σ) : ZW g pc ls st σ := by
  obtain ⟨⟨p, l, e, R, s, m, args, below, meth, c⟩, D, ad, cA, A, ⟨kc, ks⟩, Q⟩ := g
  obtain ⟨hx, hb, -⟩ := X
  obtain ⟨d1, rfl⟩ := d
  intro H locs lsa hP hD hS hn hh
  exact lv_iload hx hb d1 (lvl_at hh hl) (k H locs lsa hP hD hS hn hh)
theorem zw_lloadn {x : Int64} (X : CX g M) {q : Fin 4} (hq : (q : Nat) = i) (d : Dc M pc pc1 (.lload_n q) 1) (hl : ls[i]? = some (some (.long x))) (k : ZW g pc1 ls (.long x :: st) σ) : ZW g pc ls st σ := by
  obtain ⟨⟨p, l, e, R, s, m, args, below, meth, c⟩, D, ad, cA, A, ⟨kc, ks⟩, Q⟩ := g
  obtain ⟨hx, hb, -⟩ := X
  obtain ⟨d1, rfl⟩ := d
  intro H locs lsa hP hD hS hn hh
  exact lv_lload_n hx hb d1 hq (lvl_at hh hl) (k H locs lsa hP hD hS hn hh)
theorem zw_lload {x : Int64} (X : CX g M) (d : Dc M pc pc1 (.lload i) 2) (hl : ls[i]? = some (some (.long x))) (k : ZW g pc1 ls (.long x :: st) σ) : ZW g pc ls st σ := by
  obtain ⟨⟨p, l, e, R, s, m, args, below, meth, c⟩, D, ad, cA, A, ⟨kc, ks⟩, Q⟩ := g
  obtain ⟨hx, hb, -⟩ := X
  obtain ⟨d1, rfl⟩ := d
  intro H locs lsa hP hD hS hn hh
  exact lv_lload hx hb d1 (lvl_at hh hl) (k H locs lsa hP hD hS hn hh)
theorem zw_aloadn {x : Nat} (X : CX g M) {q : Fin 4} (hq : (q : Nat) = i) (d : Dc M pc pc1 (.aload_n q) 1) (hl : ls[i]? = some (some (.ref x))) (k : ZW g pc1 ls (.ref x :: st) σ) : ZW g pc ls st σ := by
  obtain ⟨⟨p, l, e, R, s, m, args, below, meth, c⟩, D, ad, cA, A, ⟨kc, ks⟩, Q⟩ := g
  obtain ⟨hx, hb, -⟩ := X
  obtain ⟨d1, rfl⟩ := d
  intro H locs lsa hP hD hS hn hh
  exact lv_aload_n hx hb d1 hq (lvl_at hh hl) (k H locs lsa hP hD hS hn hh)
theorem zw_istoren {x : Int32} (X : CX g M) {q : Fin 4} (hq : (q : Nat) = i) (d : Dc M pc pc1 (.istore_n q) 1) (hi : i < ls.length) (hp : nlp ls i = true) (k : ZW g pc1 (ls.set i (some (.int x))) st σ) : ZW g pc ls (.int x :: st) σ := by
  obtain ⟨⟨p, l, e, R, s, m, args, below, meth, c⟩, D, ad, cA, A, ⟨kc, ks⟩, Q⟩ := g
  obtain ⟨hx, hb, -⟩ := X
  obtain ⟨d1, rfl⟩ := d
  intro H locs lsa hP hD hS hn hh
  exact lv_istore_n hx hb d1 hq hh (by rw [← hn]; exact hi) rfl (fun ls' h' => k H locs ls' hP hD hS (by rw [List.length_set]; exact hn) (lv_mono h' (st_mem hi hp)))
theorem zw_istore {x : Int32} (X : CX g M) (d : Dc M pc pc1 (.istore i) 2) (hi : i < ls.length) (hp : nlp ls i = true) (k : ZW g pc1 (ls.set i (some (.int x))) st σ) : ZW g pc ls (.int x :: st) σ := by
  obtain ⟨⟨p, l, e, R, s, m, args, below, meth, c⟩, D, ad, cA, A, ⟨kc, ks⟩, Q⟩ := g
  obtain ⟨hx, hb, -⟩ := X
  obtain ⟨d1, rfl⟩ := d
  intro H locs lsa hP hD hS hn hh
  exact lv_istore hx hb d1 hh (by rw [← hn]; exact hi) rfl (fun ls' h' => k H locs ls' hP hD hS (by rw [List.length_set]; exact hn) (lv_mono h' (st_mem hi hp)))
theorem zw_astoren {x : Nat} (X : CX g M) {q : Fin 4} (hq : (q : Nat) = i) (d : Dc M pc pc1 (.astore_n q) 1) (hi : i < ls.length) (hp : nlp ls i = true) (k : ZW g pc1 (ls.set i (some (.ref x))) st σ) : ZW g pc ls (.ref x :: st) σ := by
  obtain ⟨⟨p, l, e, R, s, m, args, below, meth, c⟩, D, ad, cA, A, ⟨kc, ks⟩, Q⟩ := g
  obtain ⟨hx, hb, -⟩ := X
  obtain ⟨d1, rfl⟩ := d
  intro H locs lsa hP hD hS hn hh
  exact lv_astore_n hx hb d1 hq hh (by rw [← hn]; exact hi) rfl (fun ls' h' => k H locs ls' hP hD hS (by rw [List.length_set]; exact hn) (lv_mono h' (st_mem (v := .ref x) hi hp)))
theorem zw_lstoren {x : Int64} (X : CX g M) {q : Fin 4} (hq : (q : Nat) = i) (d : Dc M pc pc1 (.lstore_n q) 1) (hi : i + 1 < ls.length) (hp : nlp ls i = true) (k : ZW g pc1 ((ls.set i (some (.long x))).set (i + 1) none) st σ) : ZW g pc ls (.long x :: st) σ := by
  obtain ⟨⟨p, l, e, R, s, m, args, below, meth, c⟩, D, ad, cA, A, ⟨kc, ks⟩, Q⟩ := g
  obtain ⟨hx, hb, -⟩ := X
  obtain ⟨d1, rfl⟩ := d
  intro H locs lsa hP hD hS hn hh
  exact lv_lstore_n hx hb d1 hq hh (by rw [← hn]; exact hi) rfl (fun ls' h' => k H locs ls' hP hD hS (by rw [List.length_set, List.length_set]; exact hn) (lv_mono h' (st_mem2 hi hp)))
theorem zw_lstore {x : Int64} (X : CX g M) (d : Dc M pc pc1 (.lstore i) 2) (hi : i + 1 < ls.length) (hp : nlp ls i = true) (k : ZW g pc1 ((ls.set i (some (.long x))).set (i + 1) none) st σ) : ZW g pc ls (.long x :: st) σ := by
  obtain ⟨⟨p, l, e, R, s, m, args, below, meth, c⟩, D, ad, cA, A, ⟨kc, ks⟩, Q⟩ := g
  obtain ⟨hx, hb, -⟩ := X
  obtain ⟨d1, rfl⟩ := d
  intro H locs lsa hP hD hS hn hh
  exact lv_lstore hx hb d1 hh (by rw [← hn]; exact hi) rfl (fun ls' h' => k H locs ls' hP hD hS (by rw [List.length_set, List.length_set]; exact hn) (lv_mono h' (st_mem2 hi hp)))
theorem lvl_place {ad : Nat → Nat} {ls : List (Option Value)} {k : Nat} {v : Value} (h : ls[k]? = some (some v)) : ∃ j : Nat, (lvl ad 0 ls)[j]? = some (k, cv ad v) := by
  have h1 := lvl_in (ad := ad) (i := 0) h
  rw [Nat.zero_add] at h1
  exact List.getElem?_of_mem h1
theorem zw_iinc {x v : Int32} {n : Int} (X : CX g M) (d : Dc M pc pc1 (.iinc i n) 3) (hl : ls[i]? = some (some (.int x))) (hv : x + Int32.ofInt n = v) (hi : i < ls.length) (hp : nlp ls i = true) (k : ZW g pc1 (ls.set i (some (.int v))) st σ) : ZW g pc ls st σ := by
  obtain ⟨⟨p, l, e, R, s, m, args, below, meth, c⟩, D, ad, cA, A, ⟨kc, ks⟩, Q⟩ := g
  obtain ⟨hx, hb, -⟩ := X
  obtain ⟨d1, rfl⟩ := d
  intro H locs lsa hP hD hS hn hh
  obtain ⟨j, hj⟩ := lvl_place (ad := ad) hl
  exact lv_iinc hx hb d1 hh hj hv (by rw [← hn]; exact hi) rfl (fun ls' h' => k H locs ls' hP hD hS (by rw [List.length_set]; exact hn) (lv_mono h' (st_mem hi hp)))
end ZR

theorem zw_iload_0 {g : Gt} {M : Mt} {pc pc1 : Nat} {st : List Value} {σ : St} {x : Int32} {r : List (Option Value)} (X : CX g M) (d : Dc M pc pc1 (.iload_n 0) 1) (k : ZW g pc1 (some (.int x) :: r) (.int x :: st) σ) : ZW g pc (some (.int x) :: r) st σ := zw_iloadn (i := 0) X (q := 0) rfl d rfl k
theorem zw_lload_0 {g : Gt} {M : Mt} {pc pc1 : Nat} {st : List Value} {σ : St} {x : Int64} {r : List (Option Value)} (X : CX g M) (d : Dc M pc pc1 (.lload_n 0) 1) (k : ZW g pc1 (some (.long x) :: r) (.long x :: st) σ) : ZW g pc (some (.long x) :: r) st σ := zw_lloadn (i := 0) X (q := 0) rfl d rfl k
theorem zw_aload_0 {g : Gt} {M : Mt} {pc pc1 : Nat} {st : List Value} {σ : St} {x : Nat} {r : List (Option Value)} (X : CX g M) (d : Dc M pc pc1 (.aload_n 0) 1) (k : ZW g pc1 (some (.ref x) :: r) (.ref x :: st) σ) : ZW g pc (some (.ref x) :: r) st σ := zw_aloadn (i := 0) X (q := 0) rfl d rfl k
theorem zw_iload_1 {g : Gt} {M : Mt} {pc pc1 : Nat} {st : List Value} {σ : St} {x : Int32} {a0 : Option Value} {r : List (Option Value)} (X : CX g M) (d : Dc M pc pc1 (.iload_n 1) 1) (k : ZW g pc1 (a0 :: some (.int x) :: r) (.int x :: st) σ) : ZW g pc (a0 :: some (.int x) :: r) st σ := zw_iloadn (i := 1) X (q := 1) rfl d rfl k
theorem zw_lload_1 {g : Gt} {M : Mt} {pc pc1 : Nat} {st : List Value} {σ : St} {x : Int64} {a0 : Option Value} {r : List (Option Value)} (X : CX g M) (d : Dc M pc pc1 (.lload_n 1) 1) (k : ZW g pc1 (a0 :: some (.long x) :: r) (.long x :: st) σ) : ZW g pc (a0 :: some (.long x) :: r) st σ := zw_lloadn (i := 1) X (q := 1) rfl d rfl k
theorem zw_aload_1 {g : Gt} {M : Mt} {pc pc1 : Nat} {st : List Value} {σ : St} {x : Nat} {a0 : Option Value} {r : List (Option Value)} (X : CX g M) (d : Dc M pc pc1 (.aload_n 1) 1) (k : ZW g pc1 (a0 :: some (.ref x) :: r) (.ref x :: st) σ) : ZW g pc (a0 :: some (.ref x) :: r) st σ := zw_aloadn (i := 1) X (q := 1) rfl d rfl k
theorem zw_iload_2 {g : Gt} {M : Mt} {pc pc1 : Nat} {st : List Value} {σ : St} {x : Int32} {a0 a1 : Option Value} {r : List (Option Value)} (X : CX g M) (d : Dc M pc pc1 (.iload_n 2) 1) (k : ZW g pc1 (a0 :: a1 :: some (.int x) :: r) (.int x :: st) σ) : ZW g pc (a0 :: a1 :: some (.int x) :: r) st σ := zw_iloadn (i := 2) X (q := 2) rfl d rfl k
theorem zw_lload_2 {g : Gt} {M : Mt} {pc pc1 : Nat} {st : List Value} {σ : St} {x : Int64} {a0 a1 : Option Value} {r : List (Option Value)} (X : CX g M) (d : Dc M pc pc1 (.lload_n 2) 1) (k : ZW g pc1 (a0 :: a1 :: some (.long x) :: r) (.long x :: st) σ) : ZW g pc (a0 :: a1 :: some (.long x) :: r) st σ := zw_lloadn (i := 2) X (q := 2) rfl d rfl k
theorem zw_aload_2 {g : Gt} {M : Mt} {pc pc1 : Nat} {st : List Value} {σ : St} {x : Nat} {a0 a1 : Option Value} {r : List (Option Value)} (X : CX g M) (d : Dc M pc pc1 (.aload_n 2) 1) (k : ZW g pc1 (a0 :: a1 :: some (.ref x) :: r) (.ref x :: st) σ) : ZW g pc (a0 :: a1 :: some (.ref x) :: r) st σ := zw_aloadn (i := 2) X (q := 2) rfl d rfl k
theorem zw_iload_3 {g : Gt} {M : Mt} {pc pc1 : Nat} {st : List Value} {σ : St} {x : Int32} {a0 a1 a2 : Option Value} {r : List (Option Value)} (X : CX g M) (d : Dc M pc pc1 (.iload_n 3) 1) (k : ZW g pc1 (a0 :: a1 :: a2 :: some (.int x) :: r) (.int x :: st) σ) : ZW g pc (a0 :: a1 :: a2 :: some (.int x) :: r) st σ := zw_iloadn (i := 3) X (q := 3) rfl d rfl k
theorem zw_lload_3 {g : Gt} {M : Mt} {pc pc1 : Nat} {st : List Value} {σ : St} {x : Int64} {a0 a1 a2 : Option Value} {r : List (Option Value)} (X : CX g M) (d : Dc M pc pc1 (.lload_n 3) 1) (k : ZW g pc1 (a0 :: a1 :: a2 :: some (.long x) :: r) (.long x :: st) σ) : ZW g pc (a0 :: a1 :: a2 :: some (.long x) :: r) st σ := zw_lloadn (i := 3) X (q := 3) rfl d rfl k
theorem zw_aload_3 {g : Gt} {M : Mt} {pc pc1 : Nat} {st : List Value} {σ : St} {x : Nat} {a0 a1 a2 : Option Value} {r : List (Option Value)} (X : CX g M) (d : Dc M pc pc1 (.aload_n 3) 1) (k : ZW g pc1 (a0 :: a1 :: a2 :: some (.ref x) :: r) (.ref x :: st) σ) : ZW g pc (a0 :: a1 :: a2 :: some (.ref x) :: r) st σ := zw_aloadn (i := 3) X (q := 3) rfl d rfl k
theorem zw_iload_4 {g : Gt} {M : Mt} {pc pc1 : Nat} {st : List Value} {σ : St} {x : Int32} {a0 a1 a2 a3 : Option Value} {r : List (Option Value)} (X : CX g M) (d : Dc M pc pc1 (.iload 4) 2) (k : ZW g pc1 (a0 :: a1 :: a2 :: a3 :: some (.int x) :: r) (.int x :: st) σ) : ZW g pc (a0 :: a1 :: a2 :: a3 :: some (.int x) :: r) st σ := zw_iload (i := 4) X d rfl k
theorem zw_lload_4 {g : Gt} {M : Mt} {pc pc1 : Nat} {st : List Value} {σ : St} {x : Int64} {a0 a1 a2 a3 : Option Value} {r : List (Option Value)} (X : CX g M) (d : Dc M pc pc1 (.lload 4) 2) (k : ZW g pc1 (a0 :: a1 :: a2 :: a3 :: some (.long x) :: r) (.long x :: st) σ) : ZW g pc (a0 :: a1 :: a2 :: a3 :: some (.long x) :: r) st σ := zw_lload (i := 4) X d rfl k
theorem zw_iload_5 {g : Gt} {M : Mt} {pc pc1 : Nat} {st : List Value} {σ : St} {x : Int32} {a0 a1 a2 a3 a4 : Option Value} {r : List (Option Value)} (X : CX g M) (d : Dc M pc pc1 (.iload 5) 2) (k : ZW g pc1 (a0 :: a1 :: a2 :: a3 :: a4 :: some (.int x) :: r) (.int x :: st) σ) : ZW g pc (a0 :: a1 :: a2 :: a3 :: a4 :: some (.int x) :: r) st σ := zw_iload (i := 5) X d rfl k
theorem zw_lload_5 {g : Gt} {M : Mt} {pc pc1 : Nat} {st : List Value} {σ : St} {x : Int64} {a0 a1 a2 a3 a4 : Option Value} {r : List (Option Value)} (X : CX g M) (d : Dc M pc pc1 (.lload 5) 2) (k : ZW g pc1 (a0 :: a1 :: a2 :: a3 :: a4 :: some (.long x) :: r) (.long x :: st) σ) : ZW g pc (a0 :: a1 :: a2 :: a3 :: a4 :: some (.long x) :: r) st σ := zw_lload (i := 5) X d rfl k
theorem zw_iload_6 {g : Gt} {M : Mt} {pc pc1 : Nat} {st : List Value} {σ : St} {x : Int32} {a0 a1 a2 a3 a4 a5 : Option Value} {r : List (Option Value)} (X : CX g M) (d : Dc M pc pc1 (.iload 6) 2) (k : ZW g pc1 (a0 :: a1 :: a2 :: a3 :: a4 :: a5 :: some (.int x) :: r) (.int x :: st) σ) : ZW g pc (a0 :: a1 :: a2 :: a3 :: a4 :: a5 :: some (.int x) :: r) st σ := zw_iload (i := 6) X d rfl k
theorem zw_lload_6 {g : Gt} {M : Mt} {pc pc1 : Nat} {st : List Value} {σ : St} {x : Int64} {a0 a1 a2 a3 a4 a5 : Option Value} {r : List (Option Value)} (X : CX g M) (d : Dc M pc pc1 (.lload 6) 2) (k : ZW g pc1 (a0 :: a1 :: a2 :: a3 :: a4 :: a5 :: some (.long x) :: r) (.long x :: st) σ) : ZW g pc (a0 :: a1 :: a2 :: a3 :: a4 :: a5 :: some (.long x) :: r) st σ := zw_lload (i := 6) X d rfl k
theorem zw_iload_7 {g : Gt} {M : Mt} {pc pc1 : Nat} {st : List Value} {σ : St} {x : Int32} {a0 a1 a2 a3 a4 a5 a6 : Option Value} {r : List (Option Value)} (X : CX g M) (d : Dc M pc pc1 (.iload 7) 2) (k : ZW g pc1 (a0 :: a1 :: a2 :: a3 :: a4 :: a5 :: a6 :: some (.int x) :: r) (.int x :: st) σ) : ZW g pc (a0 :: a1 :: a2 :: a3 :: a4 :: a5 :: a6 :: some (.int x) :: r) st σ := zw_iload (i := 7) X d rfl k
theorem zw_lload_7 {g : Gt} {M : Mt} {pc pc1 : Nat} {st : List Value} {σ : St} {x : Int64} {a0 a1 a2 a3 a4 a5 a6 : Option Value} {r : List (Option Value)} (X : CX g M) (d : Dc M pc pc1 (.lload 7) 2) (k : ZW g pc1 (a0 :: a1 :: a2 :: a3 :: a4 :: a5 :: a6 :: some (.long x) :: r) (.long x :: st) σ) : ZW g pc (a0 :: a1 :: a2 :: a3 :: a4 :: a5 :: a6 :: some (.long x) :: r) st σ := zw_lload (i := 7) X d rfl k
theorem zw_iload_8 {g : Gt} {M : Mt} {pc pc1 : Nat} {st : List Value} {σ : St} {x : Int32} {a0 a1 a2 a3 a4 a5 a6 a7 : Option Value} {r : List (Option Value)} (X : CX g M) (d : Dc M pc pc1 (.iload 8) 2) (k : ZW g pc1 (a0 :: a1 :: a2 :: a3 :: a4 :: a5 :: a6 :: a7 :: some (.int x) :: r) (.int x :: st) σ) : ZW g pc (a0 :: a1 :: a2 :: a3 :: a4 :: a5 :: a6 :: a7 :: some (.int x) :: r) st σ := zw_iload (i := 8) X d rfl k
theorem zw_lload_8 {g : Gt} {M : Mt} {pc pc1 : Nat} {st : List Value} {σ : St} {x : Int64} {a0 a1 a2 a3 a4 a5 a6 a7 : Option Value} {r : List (Option Value)} (X : CX g M) (d : Dc M pc pc1 (.lload 8) 2) (k : ZW g pc1 (a0 :: a1 :: a2 :: a3 :: a4 :: a5 :: a6 :: a7 :: some (.long x) :: r) (.long x :: st) σ) : ZW g pc (a0 :: a1 :: a2 :: a3 :: a4 :: a5 :: a6 :: a7 :: some (.long x) :: r) st σ := zw_lload (i := 8) X d rfl k
theorem zw_iload_9 {g : Gt} {M : Mt} {pc pc1 : Nat} {st : List Value} {σ : St} {x : Int32} {a0 a1 a2 a3 a4 a5 a6 a7 a8 : Option Value} {r : List (Option Value)} (X : CX g M) (d : Dc M pc pc1 (.iload 9) 2) (k : ZW g pc1 (a0 :: a1 :: a2 :: a3 :: a4 :: a5 :: a6 :: a7 :: a8 :: some (.int x) :: r) (.int x :: st) σ) : ZW g pc (a0 :: a1 :: a2 :: a3 :: a4 :: a5 :: a6 :: a7 :: a8 :: some (.int x) :: r) st σ := zw_iload (i := 9) X d rfl k
theorem zw_lload_9 {g : Gt} {M : Mt} {pc pc1 : Nat} {st : List Value} {σ : St} {x : Int64} {a0 a1 a2 a3 a4 a5 a6 a7 a8 : Option Value} {r : List (Option Value)} (X : CX g M) (d : Dc M pc pc1 (.lload 9) 2) (k : ZW g pc1 (a0 :: a1 :: a2 :: a3 :: a4 :: a5 :: a6 :: a7 :: a8 :: some (.long x) :: r) (.long x :: st) σ) : ZW g pc (a0 :: a1 :: a2 :: a3 :: a4 :: a5 :: a6 :: a7 :: a8 :: some (.long x) :: r) st σ := zw_lload (i := 9) X d rfl k
theorem zw_iload_10 {g : Gt} {M : Mt} {pc pc1 : Nat} {st : List Value} {σ : St} {x : Int32} {a0 a1 a2 a3 a4 a5 a6 a7 a8 a9 : Option Value} {r : List (Option Value)} (X : CX g M) (d : Dc M pc pc1 (.iload 10) 2) (k : ZW g pc1 (a0 :: a1 :: a2 :: a3 :: a4 :: a5 :: a6 :: a7 :: a8 :: a9 :: some (.int x) :: r) (.int x :: st) σ) : ZW g pc (a0 :: a1 :: a2 :: a3 :: a4 :: a5 :: a6 :: a7 :: a8 :: a9 :: some (.int x) :: r) st σ := zw_iload (i := 10) X d rfl k
theorem zw_lload_10 {g : Gt} {M : Mt} {pc pc1 : Nat} {st : List Value} {σ : St} {x : Int64} {a0 a1 a2 a3 a4 a5 a6 a7 a8 a9 : Option Value} {r : List (Option Value)} (X : CX g M) (d : Dc M pc pc1 (.lload 10) 2) (k : ZW g pc1 (a0 :: a1 :: a2 :: a3 :: a4 :: a5 :: a6 :: a7 :: a8 :: a9 :: some (.long x) :: r) (.long x :: st) σ) : ZW g pc (a0 :: a1 :: a2 :: a3 :: a4 :: a5 :: a6 :: a7 :: a8 :: a9 :: some (.long x) :: r) st σ := zw_lload (i := 10) X d rfl k
theorem zw_iload_11 {g : Gt} {M : Mt} {pc pc1 : Nat} {st : List Value} {σ : St} {x : Int32} {a0 a1 a2 a3 a4 a5 a6 a7 a8 a9 a10 : Option Value} {r : List (Option Value)} (X : CX g M) (d : Dc M pc pc1 (.iload 11) 2) (k : ZW g pc1 (a0 :: a1 :: a2 :: a3 :: a4 :: a5 :: a6 :: a7 :: a8 :: a9 :: a10 :: some (.int x) :: r) (.int x :: st) σ) : ZW g pc (a0 :: a1 :: a2 :: a3 :: a4 :: a5 :: a6 :: a7 :: a8 :: a9 :: a10 :: some (.int x) :: r) st σ := zw_iload (i := 11) X d rfl k
theorem zw_lload_11 {g : Gt} {M : Mt} {pc pc1 : Nat} {st : List Value} {σ : St} {x : Int64} {a0 a1 a2 a3 a4 a5 a6 a7 a8 a9 a10 : Option Value} {r : List (Option Value)} (X : CX g M) (d : Dc M pc pc1 (.lload 11) 2) (k : ZW g pc1 (a0 :: a1 :: a2 :: a3 :: a4 :: a5 :: a6 :: a7 :: a8 :: a9 :: a10 :: some (.long x) :: r) (.long x :: st) σ) : ZW g pc (a0 :: a1 :: a2 :: a3 :: a4 :: a5 :: a6 :: a7 :: a8 :: a9 :: a10 :: some (.long x) :: r) st σ := zw_lload (i := 11) X d rfl k
theorem zw_iload_12 {g : Gt} {M : Mt} {pc pc1 : Nat} {st : List Value} {σ : St} {x : Int32} {a0 a1 a2 a3 a4 a5 a6 a7 a8 a9 a10 a11 : Option Value} {r : List (Option Value)} (X : CX g M) (d : Dc M pc pc1 (.iload 12) 2) (k : ZW g pc1 (a0 :: a1 :: a2 :: a3 :: a4 :: a5 :: a6 :: a7 :: a8 :: a9 :: a10 :: a11 :: some (.int x) :: r) (.int x :: st) σ) : ZW g pc (a0 :: a1 :: a2 :: a3 :: a4 :: a5 :: a6 :: a7 :: a8 :: a9 :: a10 :: a11 :: some (.int x) :: r) st σ := zw_iload (i := 12) X d rfl k
theorem zw_lload_12 {g : Gt} {M : Mt} {pc pc1 : Nat} {st : List Value} {σ : St} {x : Int64} {a0 a1 a2 a3 a4 a5 a6 a7 a8 a9 a10 a11 : Option Value} {r : List (Option Value)} (X : CX g M) (d : Dc M pc pc1 (.lload 12) 2) (k : ZW g pc1 (a0 :: a1 :: a2 :: a3 :: a4 :: a5 :: a6 :: a7 :: a8 :: a9 :: a10 :: a11 :: some (.long x) :: r) (.long x :: st) σ) : ZW g pc (a0 :: a1 :: a2 :: a3 :: a4 :: a5 :: a6 :: a7 :: a8 :: a9 :: a10 :: a11 :: some (.long x) :: r) st σ := zw_lload (i := 12) X d rfl k
theorem zw_iload_13 {g : Gt} {M : Mt} {pc pc1 : Nat} {st : List Value} {σ : St} {x : Int32} {a0 a1 a2 a3 a4 a5 a6 a7 a8 a9 a10 a11 a12 : Option Value} {r : List (Option Value)} (X : CX g M) (d : Dc M pc pc1 (.iload 13) 2) (k : ZW g pc1 (a0 :: a1 :: a2 :: a3 :: a4 :: a5 :: a6 :: a7 :: a8 :: a9 :: a10 :: a11 :: a12 :: some (.int x) :: r) (.int x :: st) σ) : ZW g pc (a0 :: a1 :: a2 :: a3 :: a4 :: a5 :: a6 :: a7 :: a8 :: a9 :: a10 :: a11 :: a12 :: some (.int x) :: r) st σ := zw_iload (i := 13) X d rfl k
theorem zw_lload_13 {g : Gt} {M : Mt} {pc pc1 : Nat} {st : List Value} {σ : St} {x : Int64} {a0 a1 a2 a3 a4 a5 a6 a7 a8 a9 a10 a11 a12 : Option Value} {r : List (Option Value)} (X : CX g M) (d : Dc M pc pc1 (.lload 13) 2) (k : ZW g pc1 (a0 :: a1 :: a2 :: a3 :: a4 :: a5 :: a6 :: a7 :: a8 :: a9 :: a10 :: a11 :: a12 :: some (.long x) :: r) (.long x :: st) σ) : ZW g pc (a0 :: a1 :: a2 :: a3 :: a4 :: a5 :: a6 :: a7 :: a8 :: a9 :: a10 :: a11 :: a12 :: some (.long x) :: r) st σ := zw_lload (i := 13) X d rfl k
theorem zw_istore_0 {g : Gt} {M : Mt} {pc pc1 : Nat} {st : List Value} {σ : St} {x : Int32} {b : Option Value} {r : List (Option Value)} (X : CX g M) (d : Dc M pc pc1 (.istore_n 0) 1) (k : ZW g pc1 (some (.int x) :: r) st σ) : ZW g pc (b :: r) (.int x :: st) σ := zw_istoren (i := 0) X (q := 0) rfl d (by simp) rfl k
theorem zw_astore_0 {g : Gt} {M : Mt} {pc pc1 : Nat} {st : List Value} {σ : St} {x : Nat} {b : Option Value} {r : List (Option Value)} (X : CX g M) (d : Dc M pc pc1 (.astore_n 0) 1) (k : ZW g pc1 (some (.ref x) :: r) st σ) : ZW g pc (b :: r) (.ref x :: st) σ := zw_astoren (i := 0) X (q := 0) rfl d (by simp) rfl k
theorem zw_iinc_0_p1 {g : Gt} {M : Mt} {pc pc1 : Nat} {st : List Value} {σ : St} {x : Int32} {r : List (Option Value)} (X : CX g M) (d : Dc M pc pc1 (.iinc 0 1) 3) (k : ZW g pc1 (some (.int (x + 1)) :: r) st σ) : ZW g pc (some (.int x) :: r) st σ := zw_iinc (i := 0) (x := x) X d rfl (congrArg (x + ·) (by decide)) (by simp) rfl k
theorem zw_iinc_0_m1 {g : Gt} {M : Mt} {pc pc1 : Nat} {st : List Value} {σ : St} {x : Int32} {r : List (Option Value)} (X : CX g M) (d : Dc M pc pc1 (.iinc 0 (-1)) 3) (k : ZW g pc1 (some (.int (x + (-1))) :: r) st σ) : ZW g pc (some (.int x) :: r) st σ := zw_iinc (i := 0) (x := x) X d rfl (congrArg (x + ·) (by decide)) (by simp) rfl k
theorem zw_iinc_0_p2 {g : Gt} {M : Mt} {pc pc1 : Nat} {st : List Value} {σ : St} {x : Int32} {r : List (Option Value)} (X : CX g M) (d : Dc M pc pc1 (.iinc 0 2) 3) (k : ZW g pc1 (some (.int (x + 2)) :: r) st σ) : ZW g pc (some (.int x) :: r) st σ := zw_iinc (i := 0) (x := x) X d rfl (congrArg (x + ·) (by decide)) (by simp) rfl k
theorem zw_iinc_0_p3 {g : Gt} {M : Mt} {pc pc1 : Nat} {st : List Value} {σ : St} {x : Int32} {r : List (Option Value)} (X : CX g M) (d : Dc M pc pc1 (.iinc 0 3) 3) (k : ZW g pc1 (some (.int (x + 3)) :: r) st σ) : ZW g pc (some (.int x) :: r) st σ := zw_iinc (i := 0) (x := x) X d rfl (congrArg (x + ·) (by decide)) (by simp) rfl k
theorem zw_istore_1 {g : Gt} {M : Mt} {pc pc1 : Nat} {st : List Value} {σ : St} {x : Int32} {a0 : Option Value} {b : Option Value} {r : List (Option Value)} (X : CX g M) (d : Dc M pc pc1 (.istore_n 1) 1) (k : ZW g pc1 (a0 :: some (.int x) :: r) st σ) (hp : nlg a0 = true := by rfl) : ZW g pc (a0 :: b :: r) (.int x :: st) σ := zw_istoren (i := 1) X (q := 1) rfl d (by simp) hp k
theorem zw_astore_1 {g : Gt} {M : Mt} {pc pc1 : Nat} {st : List Value} {σ : St} {x : Nat} {a0 : Option Value} {b : Option Value} {r : List (Option Value)} (X : CX g M) (d : Dc M pc pc1 (.astore_n 1) 1) (k : ZW g pc1 (a0 :: some (.ref x) :: r) st σ) (hp : nlg a0 = true := by rfl) : ZW g pc (a0 :: b :: r) (.ref x :: st) σ := zw_astoren (i := 1) X (q := 1) rfl d (by simp) hp k
theorem zw_iinc_1_p1 {g : Gt} {M : Mt} {pc pc1 : Nat} {st : List Value} {σ : St} {x : Int32} {a0 : Option Value} {r : List (Option Value)} (X : CX g M) (d : Dc M pc pc1 (.iinc 1 1) 3) (k : ZW g pc1 (a0 :: some (.int (x + 1)) :: r) st σ) (hp : nlg a0 = true := by rfl) : ZW g pc (a0 :: some (.int x) :: r) st σ := zw_iinc (i := 1) (x := x) X d rfl (congrArg (x + ·) (by decide)) (by simp) hp k
theorem zw_iinc_1_m1 {g : Gt} {M : Mt} {pc pc1 : Nat} {st : List Value} {σ : St} {x : Int32} {a0 : Option Value} {r : List (Option Value)} (X : CX g M) (d : Dc M pc pc1 (.iinc 1 (-1)) 3) (k : ZW g pc1 (a0 :: some (.int (x + (-1))) :: r) st σ) (hp : nlg a0 = true := by rfl) : ZW g pc (a0 :: some (.int x) :: r) st σ := zw_iinc (i := 1) (x := x) X d rfl (congrArg (x + ·) (by decide)) (by simp) hp k
theorem zw_iinc_1_p2 {g : Gt} {M : Mt} {pc pc1 : Nat} {st : List Value} {σ : St} {x : Int32} {a0 : Option Value} {r : List (Option Value)} (X : CX g M) (d : Dc M pc pc1 (.iinc 1 2) 3) (k : ZW g pc1 (a0 :: some (.int (x + 2)) :: r) st σ) (hp : nlg a0 = true := by rfl) : ZW g pc (a0 :: some (.int x) :: r) st σ := zw_iinc (i := 1) (x := x) X d rfl (congrArg (x + ·) (by decide)) (by simp) hp k
theorem zw_iinc_1_p3 {g : Gt} {M : Mt} {pc pc1 : Nat} {st : List Value} {σ : St} {x : Int32} {a0 : Option Value} {r : List (Option Value)} (X : CX g M) (d : Dc M pc pc1 (.iinc 1 3) 3) (k : ZW g pc1 (a0 :: some (.int (x + 3)) :: r) st σ) (hp : nlg a0 = true := by rfl) : ZW g pc (a0 :: some (.int x) :: r) st σ := zw_iinc (i := 1) (x := x) X d rfl (congrArg (x + ·) (by decide)) (by simp) hp k
theorem zw_istore_2 {g : Gt} {M : Mt} {pc pc1 : Nat} {st : List Value} {σ : St} {x : Int32} {a0 a1 : Option Value} {b : Option Value} {r : List (Option Value)} (X : CX g M) (d : Dc M pc pc1 (.istore_n 2) 1) (k : ZW g pc1 (a0 :: a1 :: some (.int x) :: r) st σ) (hp : nlg a1 = true := by rfl) : ZW g pc (a0 :: a1 :: b :: r) (.int x :: st) σ := zw_istoren (i := 2) X (q := 2) rfl d (by simp) hp k
theorem zw_astore_2 {g : Gt} {M : Mt} {pc pc1 : Nat} {st : List Value} {σ : St} {x : Nat} {a0 a1 : Option Value} {b : Option Value} {r : List (Option Value)} (X : CX g M) (d : Dc M pc pc1 (.astore_n 2) 1) (k : ZW g pc1 (a0 :: a1 :: some (.ref x) :: r) st σ) (hp : nlg a1 = true := by rfl) : ZW g pc (a0 :: a1 :: b :: r) (.ref x :: st) σ := zw_astoren (i := 2) X (q := 2) rfl d (by simp) hp k
theorem zw_iinc_2_p1 {g : Gt} {M : Mt} {pc pc1 : Nat} {st : List Value} {σ : St} {x : Int32} {a0 a1 : Option Value} {r : List (Option Value)} (X : CX g M) (d : Dc M pc pc1 (.iinc 2 1) 3) (k : ZW g pc1 (a0 :: a1 :: some (.int (x + 1)) :: r) st σ) (hp : nlg a1 = true := by rfl) : ZW g pc (a0 :: a1 :: some (.int x) :: r) st σ := zw_iinc (i := 2) (x := x) X d rfl (congrArg (x + ·) (by decide)) (by simp) hp k
theorem zw_iinc_2_m1 {g : Gt} {M : Mt} {pc pc1 : Nat} {st : List Value} {σ : St} {x : Int32} {a0 a1 : Option Value} {r : List (Option Value)} (X : CX g M) (d : Dc M pc pc1 (.iinc 2 (-1)) 3) (k : ZW g pc1 (a0 :: a1 :: some (.int (x + (-1))) :: r) st σ) (hp : nlg a1 = true := by rfl) : ZW g pc (a0 :: a1 :: some (.int x) :: r) st σ := zw_iinc (i := 2) (x := x) X d rfl (congrArg (x + ·) (by decide)) (by simp) hp k
theorem zw_iinc_2_p2 {g : Gt} {M : Mt} {pc pc1 : Nat} {st : List Value} {σ : St} {x : Int32} {a0 a1 : Option Value} {r : List (Option Value)} (X : CX g M) (d : Dc M pc pc1 (.iinc 2 2) 3) (k : ZW g pc1 (a0 :: a1 :: some (.int (x + 2)) :: r) st σ) (hp : nlg a1 = true := by rfl) : ZW g pc (a0 :: a1 :: some (.int x) :: r) st σ := zw_iinc (i := 2) (x := x) X d rfl (congrArg (x + ·) (by decide)) (by simp) hp k
theorem zw_iinc_2_p3 {g : Gt} {M : Mt} {pc pc1 : Nat} {st : List Value} {σ : St} {x : Int32} {a0 a1 : Option Value} {r : List (Option Value)} (X : CX g M) (d : Dc M pc pc1 (.iinc 2 3) 3) (k : ZW g pc1 (a0 :: a1 :: some (.int (x + 3)) :: r) st σ) (hp : nlg a1 = true := by rfl) : ZW g pc (a0 :: a1 :: some (.int x) :: r) st σ := zw_iinc (i := 2) (x := x) X d rfl (congrArg (x + ·) (by decide)) (by simp) hp k
theorem zw_istore_3 {g : Gt} {M : Mt} {pc pc1 : Nat} {st : List Value} {σ : St} {x : Int32} {a0 a1 a2 : Option Value} {b : Option Value} {r : List (Option Value)} (X : CX g M) (d : Dc M pc pc1 (.istore_n 3) 1) (k : ZW g pc1 (a0 :: a1 :: a2 :: some (.int x) :: r) st σ) (hp : nlg a2 = true := by rfl) : ZW g pc (a0 :: a1 :: a2 :: b :: r) (.int x :: st) σ := zw_istoren (i := 3) X (q := 3) rfl d (by simp) hp k
theorem zw_astore_3 {g : Gt} {M : Mt} {pc pc1 : Nat} {st : List Value} {σ : St} {x : Nat} {a0 a1 a2 : Option Value} {b : Option Value} {r : List (Option Value)} (X : CX g M) (d : Dc M pc pc1 (.astore_n 3) 1) (k : ZW g pc1 (a0 :: a1 :: a2 :: some (.ref x) :: r) st σ) (hp : nlg a2 = true := by rfl) : ZW g pc (a0 :: a1 :: a2 :: b :: r) (.ref x :: st) σ := zw_astoren (i := 3) X (q := 3) rfl d (by simp) hp k
theorem zw_iinc_3_p1 {g : Gt} {M : Mt} {pc pc1 : Nat} {st : List Value} {σ : St} {x : Int32} {a0 a1 a2 : Option Value} {r : List (Option Value)} (X : CX g M) (d : Dc M pc pc1 (.iinc 3 1) 3) (k : ZW g pc1 (a0 :: a1 :: a2 :: some (.int (x + 1)) :: r) st σ) (hp : nlg a2 = true := by rfl) : ZW g pc (a0 :: a1 :: a2 :: some (.int x) :: r) st σ := zw_iinc (i := 3) (x := x) X d rfl (congrArg (x + ·) (by decide)) (by simp) hp k
theorem zw_iinc_3_m1 {g : Gt} {M : Mt} {pc pc1 : Nat} {st : List Value} {σ : St} {x : Int32} {a0 a1 a2 : Option Value} {r : List (Option Value)} (X : CX g M) (d : Dc M pc pc1 (.iinc 3 (-1)) 3) (k : ZW g pc1 (a0 :: a1 :: a2 :: some (.int (x + (-1))) :: r) st σ) (hp : nlg a2 = true := by rfl) : ZW g pc (a0 :: a1 :: a2 :: some (.int x) :: r) st σ := zw_iinc (i := 3) (x := x) X d rfl (congrArg (x + ·) (by decide)) (by simp) hp k
theorem zw_iinc_3_p2 {g : Gt} {M : Mt} {pc pc1 : Nat} {st : List Value} {σ : St} {x : Int32} {a0 a1 a2 : Option Value} {r : List (Option Value)} (X : CX g M) (d : Dc M pc pc1 (.iinc 3 2) 3) (k : ZW g pc1 (a0 :: a1 :: a2 :: some (.int (x + 2)) :: r) st σ) (hp : nlg a2 = true := by rfl) : ZW g pc (a0 :: a1 :: a2 :: some (.int x) :: r) st σ := zw_iinc (i := 3) (x := x) X d rfl (congrArg (x + ·) (by decide)) (by simp) hp k
theorem zw_iinc_3_p3 {g : Gt} {M : Mt} {pc pc1 : Nat} {st : List Value} {σ : St} {x : Int32} {a0 a1 a2 : Option Value} {r : List (Option Value)} (X : CX g M) (d : Dc M pc pc1 (.iinc 3 3) 3) (k : ZW g pc1 (a0 :: a1 :: a2 :: some (.int (x + 3)) :: r) st σ) (hp : nlg a2 = true := by rfl) : ZW g pc (a0 :: a1 :: a2 :: some (.int x) :: r) st σ := zw_iinc (i := 3) (x := x) X d rfl (congrArg (x + ·) (by decide)) (by simp) hp k
theorem zw_istore_4 {g : Gt} {M : Mt} {pc pc1 : Nat} {st : List Value} {σ : St} {x : Int32} {a0 a1 a2 a3 : Option Value} {b : Option Value} {r : List (Option Value)} (X : CX g M) (d : Dc M pc pc1 (.istore 4) 2) (k : ZW g pc1 (a0 :: a1 :: a2 :: a3 :: some (.int x) :: r) st σ) (hp : nlg a3 = true := by rfl) : ZW g pc (a0 :: a1 :: a2 :: a3 :: b :: r) (.int x :: st) σ := zw_istore (i := 4) X d (by simp) hp k
theorem zw_iinc_4_p1 {g : Gt} {M : Mt} {pc pc1 : Nat} {st : List Value} {σ : St} {x : Int32} {a0 a1 a2 a3 : Option Value} {r : List (Option Value)} (X : CX g M) (d : Dc M pc pc1 (.iinc 4 1) 3) (k : ZW g pc1 (a0 :: a1 :: a2 :: a3 :: some (.int (x + 1)) :: r) st σ) (hp : nlg a3 = true := by rfl) : ZW g pc (a0 :: a1 :: a2 :: a3 :: some (.int x) :: r) st σ := zw_iinc (i := 4) (x := x) X d rfl (congrArg (x + ·) (by decide)) (by simp) hp k
theorem zw_iinc_4_m1 {g : Gt} {M : Mt} {pc pc1 : Nat} {st : List Value} {σ : St} {x : Int32} {a0 a1 a2 a3 : Option Value} {r : List (Option Value)} (X : CX g M) (d : Dc M pc pc1 (.iinc 4 (-1)) 3) (k : ZW g pc1 (a0 :: a1 :: a2 :: a3 :: some (.int (x + (-1))) :: r) st σ) (hp : nlg a3 = true := by rfl) : ZW g pc (a0 :: a1 :: a2 :: a3 :: some (.int x) :: r) st σ := zw_iinc (i := 4) (x := x) X d rfl (congrArg (x + ·) (by decide)) (by simp) hp k
theorem zw_iinc_4_p2 {g : Gt} {M : Mt} {pc pc1 : Nat} {st : List Value} {σ : St} {x : Int32} {a0 a1 a2 a3 : Option Value} {r : List (Option Value)} (X : CX g M) (d : Dc M pc pc1 (.iinc 4 2) 3) (k : ZW g pc1 (a0 :: a1 :: a2 :: a3 :: some (.int (x + 2)) :: r) st σ) (hp : nlg a3 = true := by rfl) : ZW g pc (a0 :: a1 :: a2 :: a3 :: some (.int x) :: r) st σ := zw_iinc (i := 4) (x := x) X d rfl (congrArg (x + ·) (by decide)) (by simp) hp k
theorem zw_iinc_4_p3 {g : Gt} {M : Mt} {pc pc1 : Nat} {st : List Value} {σ : St} {x : Int32} {a0 a1 a2 a3 : Option Value} {r : List (Option Value)} (X : CX g M) (d : Dc M pc pc1 (.iinc 4 3) 3) (k : ZW g pc1 (a0 :: a1 :: a2 :: a3 :: some (.int (x + 3)) :: r) st σ) (hp : nlg a3 = true := by rfl) : ZW g pc (a0 :: a1 :: a2 :: a3 :: some (.int x) :: r) st σ := zw_iinc (i := 4) (x := x) X d rfl (congrArg (x + ·) (by decide)) (by simp) hp k
theorem zw_istore_5 {g : Gt} {M : Mt} {pc pc1 : Nat} {st : List Value} {σ : St} {x : Int32} {a0 a1 a2 a3 a4 : Option Value} {b : Option Value} {r : List (Option Value)} (X : CX g M) (d : Dc M pc pc1 (.istore 5) 2) (k : ZW g pc1 (a0 :: a1 :: a2 :: a3 :: a4 :: some (.int x) :: r) st σ) (hp : nlg a4 = true := by rfl) : ZW g pc (a0 :: a1 :: a2 :: a3 :: a4 :: b :: r) (.int x :: st) σ := zw_istore (i := 5) X d (by simp) hp k
theorem zw_iinc_5_p1 {g : Gt} {M : Mt} {pc pc1 : Nat} {st : List Value} {σ : St} {x : Int32} {a0 a1 a2 a3 a4 : Option Value} {r : List (Option Value)} (X : CX g M) (d : Dc M pc pc1 (.iinc 5 1) 3) (k : ZW g pc1 (a0 :: a1 :: a2 :: a3 :: a4 :: some (.int (x + 1)) :: r) st σ) (hp : nlg a4 = true := by rfl) : ZW g pc (a0 :: a1 :: a2 :: a3 :: a4 :: some (.int x) :: r) st σ := zw_iinc (i := 5) (x := x) X d rfl (congrArg (x + ·) (by decide)) (by simp) hp k
theorem zw_iinc_5_m1 {g : Gt} {M : Mt} {pc pc1 : Nat} {st : List Value} {σ : St} {x : Int32} {a0 a1 a2 a3 a4 : Option Value} {r : List (Option Value)} (X : CX g M) (d : Dc M pc pc1 (.iinc 5 (-1)) 3) (k : ZW g pc1 (a0 :: a1 :: a2 :: a3 :: a4 :: some (.int (x + (-1))) :: r) st σ) (hp : nlg a4 = true := by rfl) : ZW g pc (a0 :: a1 :: a2 :: a3 :: a4 :: some (.int x) :: r) st σ := zw_iinc (i := 5) (x := x) X d rfl (congrArg (x + ·) (by decide)) (by simp) hp k
theorem zw_iinc_5_p2 {g : Gt} {M : Mt} {pc pc1 : Nat} {st : List Value} {σ : St} {x : Int32} {a0 a1 a2 a3 a4 : Option Value} {r : List (Option Value)} (X : CX g M) (d : Dc M pc pc1 (.iinc 5 2) 3) (k : ZW g pc1 (a0 :: a1 :: a2 :: a3 :: a4 :: some (.int (x + 2)) :: r) st σ) (hp : nlg a4 = true := by rfl) : ZW g pc (a0 :: a1 :: a2 :: a3 :: a4 :: some (.int x) :: r) st σ := zw_iinc (i := 5) (x := x) X d rfl (congrArg (x + ·) (by decide)) (by simp) hp k
theorem zw_iinc_5_p3 {g : Gt} {M : Mt} {pc pc1 : Nat} {st : List Value} {σ : St} {x : Int32} {a0 a1 a2 a3 a4 : Option Value} {r : List (Option Value)} (X : CX g M) (d : Dc M pc pc1 (.iinc 5 3) 3) (k : ZW g pc1 (a0 :: a1 :: a2 :: a3 :: a4 :: some (.int (x + 3)) :: r) st σ) (hp : nlg a4 = true := by rfl) : ZW g pc (a0 :: a1 :: a2 :: a3 :: a4 :: some (.int x) :: r) st σ := zw_iinc (i := 5) (x := x) X d rfl (congrArg (x + ·) (by decide)) (by simp) hp k
theorem zw_istore_6 {g : Gt} {M : Mt} {pc pc1 : Nat} {st : List Value} {σ : St} {x : Int32} {a0 a1 a2 a3 a4 a5 : Option Value} {b : Option Value} {r : List (Option Value)} (X : CX g M) (d : Dc M pc pc1 (.istore 6) 2) (k : ZW g pc1 (a0 :: a1 :: a2 :: a3 :: a4 :: a5 :: some (.int x) :: r) st σ) (hp : nlg a5 = true := by rfl) : ZW g pc (a0 :: a1 :: a2 :: a3 :: a4 :: a5 :: b :: r) (.int x :: st) σ := zw_istore (i := 6) X d (by simp) hp k
theorem zw_iinc_6_p1 {g : Gt} {M : Mt} {pc pc1 : Nat} {st : List Value} {σ : St} {x : Int32} {a0 a1 a2 a3 a4 a5 : Option Value} {r : List (Option Value)} (X : CX g M) (d : Dc M pc pc1 (.iinc 6 1) 3) (k : ZW g pc1 (a0 :: a1 :: a2 :: a3 :: a4 :: a5 :: some (.int (x + 1)) :: r) st σ) (hp : nlg a5 = true := by rfl) : ZW g pc (a0 :: a1 :: a2 :: a3 :: a4 :: a5 :: some (.int x) :: r) st σ := zw_iinc (i := 6) (x := x) X d rfl (congrArg (x + ·) (by decide)) (by simp) hp k
theorem zw_iinc_6_m1 {g : Gt} {M : Mt} {pc pc1 : Nat} {st : List Value} {σ : St} {x : Int32} {a0 a1 a2 a3 a4 a5 : Option Value} {r : List (Option Value)} (X : CX g M) (d : Dc M pc pc1 (.iinc 6 (-1)) 3) (k : ZW g pc1 (a0 :: a1 :: a2 :: a3 :: a4 :: a5 :: some (.int (x + (-1))) :: r) st σ) (hp : nlg a5 = true := by rfl) : ZW g pc (a0 :: a1 :: a2 :: a3 :: a4 :: a5 :: some (.int x) :: r) st σ := zw_iinc (i := 6) (x := x) X d rfl (congrArg (x + ·) (by decide)) (by simp) hp k
theorem zw_iinc_6_p2 {g : Gt} {M : Mt} {pc pc1 : Nat} {st : List Value} {σ : St} {x : Int32} {a0 a1 a2 a3 a4 a5 : Option Value} {r : List (Option Value)} (X : CX g M) (d : Dc M pc pc1 (.iinc 6 2) 3) (k : ZW g pc1 (a0 :: a1 :: a2 :: a3 :: a4 :: a5 :: some (.int (x + 2)) :: r) st σ) (hp : nlg a5 = true := by rfl) : ZW g pc (a0 :: a1 :: a2 :: a3 :: a4 :: a5 :: some (.int x) :: r) st σ := zw_iinc (i := 6) (x := x) X d rfl (congrArg (x + ·) (by decide)) (by simp) hp k
theorem zw_iinc_6_p3 {g : Gt} {M : Mt} {pc pc1 : Nat} {st : List Value} {σ : St} {x : Int32} {a0 a1 a2 a3 a4 a5 : Option Value} {r : List (Option Value)} (X : CX g M) (d : Dc M pc pc1 (.iinc 6 3) 3) (k : ZW g pc1 (a0 :: a1 :: a2 :: a3 :: a4 :: a5 :: some (.int (x + 3)) :: r) st σ) (hp : nlg a5 = true := by rfl) : ZW g pc (a0 :: a1 :: a2 :: a3 :: a4 :: a5 :: some (.int x) :: r) st σ := zw_iinc (i := 6) (x := x) X d rfl (congrArg (x + ·) (by decide)) (by simp) hp k
theorem zw_istore_7 {g : Gt} {M : Mt} {pc pc1 : Nat} {st : List Value} {σ : St} {x : Int32} {a0 a1 a2 a3 a4 a5 a6 : Option Value} {b : Option Value} {r : List (Option Value)} (X : CX g M) (d : Dc M pc pc1 (.istore 7) 2) (k : ZW g pc1 (a0 :: a1 :: a2 :: a3 :: a4 :: a5 :: a6 :: some (.int x) :: r) st σ) (hp : nlg a6 = true := by rfl) : ZW g pc (a0 :: a1 :: a2 :: a3 :: a4 :: a5 :: a6 :: b :: r) (.int x :: st) σ := zw_istore (i := 7) X d (by simp) hp k
theorem zw_iinc_7_p1 {g : Gt} {M : Mt} {pc pc1 : Nat} {st : List Value} {σ : St} {x : Int32} {a0 a1 a2 a3 a4 a5 a6 : Option Value} {r : List (Option Value)} (X : CX g M) (d : Dc M pc pc1 (.iinc 7 1) 3) (k : ZW g pc1 (a0 :: a1 :: a2 :: a3 :: a4 :: a5 :: a6 :: some (.int (x + 1)) :: r) st σ) (hp : nlg a6 = true := by rfl) : ZW g pc (a0 :: a1 :: a2 :: a3 :: a4 :: a5 :: a6 :: some (.int x) :: r) st σ := zw_iinc (i := 7) (x := x) X d rfl (congrArg (x + ·) (by decide)) (by simp) hp k
theorem zw_iinc_7_m1 {g : Gt} {M : Mt} {pc pc1 : Nat} {st : List Value} {σ : St} {x : Int32} {a0 a1 a2 a3 a4 a5 a6 : Option Value} {r : List (Option Value)} (X : CX g M) (d : Dc M pc pc1 (.iinc 7 (-1)) 3) (k : ZW g pc1 (a0 :: a1 :: a2 :: a3 :: a4 :: a5 :: a6 :: some (.int (x + (-1))) :: r) st σ) (hp : nlg a6 = true := by rfl) : ZW g pc (a0 :: a1 :: a2 :: a3 :: a4 :: a5 :: a6 :: some (.int x) :: r) st σ := zw_iinc (i := 7) (x := x) X d rfl (congrArg (x + ·) (by decide)) (by simp) hp k
theorem zw_iinc_7_p2 {g : Gt} {M : Mt} {pc pc1 : Nat} {st : List Value} {σ : St} {x : Int32} {a0 a1 a2 a3 a4 a5 a6 : Option Value} {r : List (Option Value)} (X : CX g M) (d : Dc M pc pc1 (.iinc 7 2) 3) (k : ZW g pc1 (a0 :: a1 :: a2 :: a3 :: a4 :: a5 :: a6 :: some (.int (x + 2)) :: r) st σ) (hp : nlg a6 = true := by rfl) : ZW g pc (a0 :: a1 :: a2 :: a3 :: a4 :: a5 :: a6 :: some (.int x) :: r) st σ := zw_iinc (i := 7) (x := x) X d rfl (congrArg (x + ·) (by decide)) (by simp) hp k
theorem zw_iinc_7_p3 {g : Gt} {M : Mt} {pc pc1 : Nat} {st : List Value} {σ : St} {x : Int32} {a0 a1 a2 a3 a4 a5 a6 : Option Value} {r : List (Option Value)} (X : CX g M) (d : Dc M pc pc1 (.iinc 7 3) 3) (k : ZW g pc1 (a0 :: a1 :: a2 :: a3 :: a4 :: a5 :: a6 :: some (.int (x + 3)) :: r) st σ) (hp : nlg a6 = true := by rfl) : ZW g pc (a0 :: a1 :: a2 :: a3 :: a4 :: a5 :: a6 :: some (.int x) :: r) st σ := zw_iinc (i := 7) (x := x) X d rfl (congrArg (x + ·) (by decide)) (by simp) hp k
theorem zw_istore_8 {g : Gt} {M : Mt} {pc pc1 : Nat} {st : List Value} {σ : St} {x : Int32} {a0 a1 a2 a3 a4 a5 a6 a7 : Option Value} {b : Option Value} {r : List (Option Value)} (X : CX g M) (d : Dc M pc pc1 (.istore 8) 2) (k : ZW g pc1 (a0 :: a1 :: a2 :: a3 :: a4 :: a5 :: a6 :: a7 :: some (.int x) :: r) st σ) (hp : nlg a7 = true := by rfl) : ZW g pc (a0 :: a1 :: a2 :: a3 :: a4 :: a5 :: a6 :: a7 :: b :: r) (.int x :: st) σ := zw_istore (i := 8) X d (by simp) hp k
theorem zw_iinc_8_p1 {g : Gt} {M : Mt} {pc pc1 : Nat} {st : List Value} {σ : St} {x : Int32} {a0 a1 a2 a3 a4 a5 a6 a7 : Option Value} {r : List (Option Value)} (X : CX g M) (d : Dc M pc pc1 (.iinc 8 1) 3) (k : ZW g pc1 (a0 :: a1 :: a2 :: a3 :: a4 :: a5 :: a6 :: a7 :: some (.int (x + 1)) :: r) st σ) (hp : nlg a7 = true := by rfl) : ZW g pc (a0 :: a1 :: a2 :: a3 :: a4 :: a5 :: a6 :: a7 :: some (.int x) :: r) st σ := zw_iinc (i := 8) (x := x) X d rfl (congrArg (x + ·) (by decide)) (by simp) hp k
theorem zw_iinc_8_m1 {g : Gt} {M : Mt} {pc pc1 : Nat} {st : List Value} {σ : St} {x : Int32} {a0 a1 a2 a3 a4 a5 a6 a7 : Option Value} {r : List (Option Value)} (X : CX g M) (d : Dc M pc pc1 (.iinc 8 (-1)) 3) (k : ZW g pc1 (a0 :: a1 :: a2 :: a3 :: a4 :: a5 :: a6 :: a7 :: some (.int (x + (-1))) :: r) st σ) (hp : nlg a7 = true := by rfl) : ZW g pc (a0 :: a1 :: a2 :: a3 :: a4 :: a5 :: a6 :: a7 :: some (.int x) :: r) st σ := zw_iinc (i := 8) (x := x) X d rfl (congrArg (x + ·) (by decide)) (by simp) hp k
theorem zw_iinc_8_p2 {g : Gt} {M : Mt} {pc pc1 : Nat} {st : List Value} {σ : St} {x : Int32} {a0 a1 a2 a3 a4 a5 a6 a7 : Option Value} {r : List (Option Value)} (X : CX g M) (d : Dc M pc pc1 (.iinc 8 2) 3) (k : ZW g pc1 (a0 :: a1 :: a2 :: a3 :: a4 :: a5 :: a6 :: a7 :: some (.int (x + 2)) :: r) st σ) (hp : nlg a7 = true := by rfl) : ZW g pc (a0 :: a1 :: a2 :: a3 :: a4 :: a5 :: a6 :: a7 :: some (.int x) :: r) st σ := zw_iinc (i := 8) (x := x) X d rfl (congrArg (x + ·) (by decide)) (by simp) hp k
theorem zw_iinc_8_p3 {g : Gt} {M : Mt} {pc pc1 : Nat} {st : List Value} {σ : St} {x : Int32} {a0 a1 a2 a3 a4 a5 a6 a7 : Option Value} {r : List (Option Value)} (X : CX g M) (d : Dc M pc pc1 (.iinc 8 3) 3) (k : ZW g pc1 (a0 :: a1 :: a2 :: a3 :: a4 :: a5 :: a6 :: a7 :: some (.int (x + 3)) :: r) st σ) (hp : nlg a7 = true := by rfl) : ZW g pc (a0 :: a1 :: a2 :: a3 :: a4 :: a5 :: a6 :: a7 :: some (.int x) :: r) st σ := zw_iinc (i := 8) (x := x) X d rfl (congrArg (x + ·) (by decide)) (by simp) hp k
theorem zw_istore_9 {g : Gt} {M : Mt} {pc pc1 : Nat} {st : List Value} {σ : St} {x : Int32} {a0 a1 a2 a3 a4 a5 a6 a7 a8 : Option Value} {b : Option Value} {r : List (Option Value)} (X : CX g M) (d : Dc M pc pc1 (.istore 9) 2) (k : ZW g pc1 (a0 :: a1 :: a2 :: a3 :: a4 :: a5 :: a6 :: a7 :: a8 :: some (.int x) :: r) st σ) (hp : nlg a8 = true := by rfl) : ZW g pc (a0 :: a1 :: a2 :: a3 :: a4 :: a5 :: a6 :: a7 :: a8 :: b :: r) (.int x :: st) σ := zw_istore (i := 9) X d (by simp) hp k
theorem zw_iinc_9_p1 {g : Gt} {M : Mt} {pc pc1 : Nat} {st : List Value} {σ : St} {x : Int32} {a0 a1 a2 a3 a4 a5 a6 a7 a8 : Option Value} {r : List (Option Value)} (X : CX g M) (d : Dc M pc pc1 (.iinc 9 1) 3) (k : ZW g pc1 (a0 :: a1 :: a2 :: a3 :: a4 :: a5 :: a6 :: a7 :: a8 :: some (.int (x + 1)) :: r) st σ) (hp : nlg a8 = true := by rfl) : ZW g pc (a0 :: a1 :: a2 :: a3 :: a4 :: a5 :: a6 :: a7 :: a8 :: some (.int x) :: r) st σ := zw_iinc (i := 9) (x := x) X d rfl (congrArg (x + ·) (by decide)) (by simp) hp k
theorem zw_iinc_9_m1 {g : Gt} {M : Mt} {pc pc1 : Nat} {st : List Value} {σ : St} {x : Int32} {a0 a1 a2 a3 a4 a5 a6 a7 a8 : Option Value} {r : List (Option Value)} (X : CX g M) (d : Dc M pc pc1 (.iinc 9 (-1)) 3) (k : ZW g pc1 (a0 :: a1 :: a2 :: a3 :: a4 :: a5 :: a6 :: a7 :: a8 :: some (.int (x + (-1))) :: r) st σ) (hp : nlg a8 = true := by rfl) : ZW g pc (a0 :: a1 :: a2 :: a3 :: a4 :: a5 :: a6 :: a7 :: a8 :: some (.int x) :: r) st σ := zw_iinc (i := 9) (x := x) X d rfl (congrArg (x + ·) (by decide)) (by simp) hp k
theorem zw_iinc_9_p2 {g : Gt} {M : Mt} {pc pc1 : Nat} {st : List Value} {σ : St} {x : Int32} {a0 a1 a2 a3 a4 a5 a6 a7 a8 : Option Value} {r : List (Option Value)} (X : CX g M) (d : Dc M pc pc1 (.iinc 9 2) 3) (k : ZW g pc1 (a0 :: a1 :: a2 :: a3 :: a4 :: a5 :: a6 :: a7 :: a8 :: some (.int (x + 2)) :: r) st σ) (hp : nlg a8 = true := by rfl) : ZW g pc (a0 :: a1 :: a2 :: a3 :: a4 :: a5 :: a6 :: a7 :: a8 :: some (.int x) :: r) st σ := zw_iinc (i := 9) (x := x) X d rfl (congrArg (x + ·) (by decide)) (by simp) hp k
theorem zw_iinc_9_p3 {g : Gt} {M : Mt} {pc pc1 : Nat} {st : List Value} {σ : St} {x : Int32} {a0 a1 a2 a3 a4 a5 a6 a7 a8 : Option Value} {r : List (Option Value)} (X : CX g M) (d : Dc M pc pc1 (.iinc 9 3) 3) (k : ZW g pc1 (a0 :: a1 :: a2 :: a3 :: a4 :: a5 :: a6 :: a7 :: a8 :: some (.int (x + 3)) :: r) st σ) (hp : nlg a8 = true := by rfl) : ZW g pc (a0 :: a1 :: a2 :: a3 :: a4 :: a5 :: a6 :: a7 :: a8 :: some (.int x) :: r) st σ := zw_iinc (i := 9) (x := x) X d rfl (congrArg (x + ·) (by decide)) (by simp) hp k
theorem zw_istore_10 {g : Gt} {M : Mt} {pc pc1 : Nat} {st : List Value} {σ : St} {x : Int32} {a0 a1 a2 a3 a4 a5 a6 a7 a8 a9 : Option Value} {b : Option Value} {r : List (Option Value)} (X : CX g M) (d : Dc M pc pc1 (.istore 10) 2) (k : ZW g pc1 (a0 :: a1 :: a2 :: a3 :: a4 :: a5 :: a6 :: a7 :: a8 :: a9 :: some (.int x) :: r) st σ) (hp : nlg a9 = true := by rfl) : ZW g pc (a0 :: a1 :: a2 :: a3 :: a4 :: a5 :: a6 :: a7 :: a8 :: a9 :: b :: r) (.int x :: st) σ := zw_istore (i := 10) X d (by simp) hp k
theorem zw_iinc_10_p1 {g : Gt} {M : Mt} {pc pc1 : Nat} {st : List Value} {σ : St} {x : Int32} {a0 a1 a2 a3 a4 a5 a6 a7 a8 a9 : Option Value} {r : List (Option Value)} (X : CX g M) (d : Dc M pc pc1 (.iinc 10 1) 3) (k : ZW g pc1 (a0 :: a1 :: a2 :: a3 :: a4 :: a5 :: a6 :: a7 :: a8 :: a9 :: some (.int (x + 1)) :: r) st σ) (hp : nlg a9 = true := by rfl) : ZW g pc (a0 :: a1 :: a2 :: a3 :: a4 :: a5 :: a6 :: a7 :: a8 :: a9 :: some (.int x) :: r) st σ := zw_iinc (i := 10) (x := x) X d rfl (congrArg (x + ·) (by decide)) (by simp) hp k
theorem zw_iinc_10_m1 {g : Gt} {M : Mt} {pc pc1 : Nat} {st : List Value} {σ : St} {x : Int32} {a0 a1 a2 a3 a4 a5 a6 a7 a8 a9 : Option Value} {r : List (Option Value)} (X : CX g M) (d : Dc M pc pc1 (.iinc 10 (-1)) 3) (k : ZW g pc1 (a0 :: a1 :: a2 :: a3 :: a4 :: a5 :: a6 :: a7 :: a8 :: a9 :: some (.int (x + (-1))) :: r) st σ) (hp : nlg a9 = true := by rfl) : ZW g pc (a0 :: a1 :: a2 :: a3 :: a4 :: a5 :: a6 :: a7 :: a8 :: a9 :: some (.int x) :: r) st σ := zw_iinc (i := 10) (x := x) X d rfl (congrArg (x + ·) (by decide)) (by simp) hp k
theorem zw_iinc_10_p2 {g : Gt} {M : Mt} {pc pc1 : Nat} {st : List Value} {σ : St} {x : Int32} {a0 a1 a2 a3 a4 a5 a6 a7 a8 a9 : Option Value} {r : List (Option Value)} (X : CX g M) (d : Dc M pc pc1 (.iinc 10 2) 3) (k : ZW g pc1 (a0 :: a1 :: a2 :: a3 :: a4 :: a5 :: a6 :: a7 :: a8 :: a9 :: some (.int (x + 2)) :: r) st σ) (hp : nlg a9 = true := by rfl) : ZW g pc (a0 :: a1 :: a2 :: a3 :: a4 :: a5 :: a6 :: a7 :: a8 :: a9 :: some (.int x) :: r) st σ := zw_iinc (i := 10) (x := x) X d rfl (congrArg (x + ·) (by decide)) (by simp) hp k
theorem zw_iinc_10_p3 {g : Gt} {M : Mt} {pc pc1 : Nat} {st : List Value} {σ : St} {x : Int32} {a0 a1 a2 a3 a4 a5 a6 a7 a8 a9 : Option Value} {r : List (Option Value)} (X : CX g M) (d : Dc M pc pc1 (.iinc 10 3) 3) (k : ZW g pc1 (a0 :: a1 :: a2 :: a3 :: a4 :: a5 :: a6 :: a7 :: a8 :: a9 :: some (.int (x + 3)) :: r) st σ) (hp : nlg a9 = true := by rfl) : ZW g pc (a0 :: a1 :: a2 :: a3 :: a4 :: a5 :: a6 :: a7 :: a8 :: a9 :: some (.int x) :: r) st σ := zw_iinc (i := 10) (x := x) X d rfl (congrArg (x + ·) (by decide)) (by simp) hp k
theorem zw_istore_11 {g : Gt} {M : Mt} {pc pc1 : Nat} {st : List Value} {σ : St} {x : Int32} {a0 a1 a2 a3 a4 a5 a6 a7 a8 a9 a10 : Option Value} {b : Option Value} {r : List (Option Value)} (X : CX g M) (d : Dc M pc pc1 (.istore 11) 2) (k : ZW g pc1 (a0 :: a1 :: a2 :: a3 :: a4 :: a5 :: a6 :: a7 :: a8 :: a9 :: a10 :: some (.int x) :: r) st σ) (hp : nlg a10 = true := by rfl) : ZW g pc (a0 :: a1 :: a2 :: a3 :: a4 :: a5 :: a6 :: a7 :: a8 :: a9 :: a10 :: b :: r) (.int x :: st) σ := zw_istore (i := 11) X d (by simp) hp k
theorem zw_iinc_11_p1 {g : Gt} {M : Mt} {pc pc1 : Nat} {st : List Value} {σ : St} {x : Int32} {a0 a1 a2 a3 a4 a5 a6 a7 a8 a9 a10 : Option Value} {r : List (Option Value)} (X : CX g M) (d : Dc M pc pc1 (.iinc 11 1) 3) (k : ZW g pc1 (a0 :: a1 :: a2 :: a3 :: a4 :: a5 :: a6 :: a7 :: a8 :: a9 :: a10 :: some (.int (x + 1)) :: r) st σ) (hp : nlg a10 = true := by rfl) : ZW g pc (a0 :: a1 :: a2 :: a3 :: a4 :: a5 :: a6 :: a7 :: a8 :: a9 :: a10 :: some (.int x) :: r) st σ := zw_iinc (i := 11) (x := x) X d rfl (congrArg (x + ·) (by decide)) (by simp) hp k
theorem zw_iinc_11_m1 {g : Gt} {M : Mt} {pc pc1 : Nat} {st : List Value} {σ : St} {x : Int32} {a0 a1 a2 a3 a4 a5 a6 a7 a8 a9 a10 : Option Value} {r : List (Option Value)} (X : CX g M) (d : Dc M pc pc1 (.iinc 11 (-1)) 3) (k : ZW g pc1 (a0 :: a1 :: a2 :: a3 :: a4 :: a5 :: a6 :: a7 :: a8 :: a9 :: a10 :: some (.int (x + (-1))) :: r) st σ) (hp : nlg a10 = true := by rfl) : ZW g pc (a0 :: a1 :: a2 :: a3 :: a4 :: a5 :: a6 :: a7 :: a8 :: a9 :: a10 :: some (.int x) :: r) st σ := zw_iinc (i := 11) (x := x) X d rfl (congrArg (x + ·) (by decide)) (by simp) hp k
theorem zw_iinc_11_p2 {g : Gt} {M : Mt} {pc pc1 : Nat} {st : List Value} {σ : St} {x : Int32} {a0 a1 a2 a3 a4 a5 a6 a7 a8 a9 a10 : Option Value} {r : List (Option Value)} (X : CX g M) (d : Dc M pc pc1 (.iinc 11 2) 3) (k : ZW g pc1 (a0 :: a1 :: a2 :: a3 :: a4 :: a5 :: a6 :: a7 :: a8 :: a9 :: a10 :: some (.int (x + 2)) :: r) st σ) (hp : nlg a10 = true := by rfl) : ZW g pc (a0 :: a1 :: a2 :: a3 :: a4 :: a5 :: a6 :: a7 :: a8 :: a9 :: a10 :: some (.int x) :: r) st σ := zw_iinc (i := 11) (x := x) X d rfl (congrArg (x + ·) (by decide)) (by simp) hp k
theorem zw_iinc_11_p3 {g : Gt} {M : Mt} {pc pc1 : Nat} {st : List Value} {σ : St} {x : Int32} {a0 a1 a2 a3 a4 a5 a6 a7 a8 a9 a10 : Option Value} {r : List (Option Value)} (X : CX g M) (d : Dc M pc pc1 (.iinc 11 3) 3) (k : ZW g pc1 (a0 :: a1 :: a2 :: a3 :: a4 :: a5 :: a6 :: a7 :: a8 :: a9 :: a10 :: some (.int (x + 3)) :: r) st σ) (hp : nlg a10 = true := by rfl) : ZW g pc (a0 :: a1 :: a2 :: a3 :: a4 :: a5 :: a6 :: a7 :: a8 :: a9 :: a10 :: some (.int x) :: r) st σ := zw_iinc (i := 11) (x := x) X d rfl (congrArg (x + ·) (by decide)) (by simp) hp k
theorem zw_istore_12 {g : Gt} {M : Mt} {pc pc1 : Nat} {st : List Value} {σ : St} {x : Int32} {a0 a1 a2 a3 a4 a5 a6 a7 a8 a9 a10 a11 : Option Value} {b : Option Value} {r : List (Option Value)} (X : CX g M) (d : Dc M pc pc1 (.istore 12) 2) (k : ZW g pc1 (a0 :: a1 :: a2 :: a3 :: a4 :: a5 :: a6 :: a7 :: a8 :: a9 :: a10 :: a11 :: some (.int x) :: r) st σ) (hp : nlg a11 = true := by rfl) : ZW g pc (a0 :: a1 :: a2 :: a3 :: a4 :: a5 :: a6 :: a7 :: a8 :: a9 :: a10 :: a11 :: b :: r) (.int x :: st) σ := zw_istore (i := 12) X d (by simp) hp k
theorem zw_iinc_12_p1 {g : Gt} {M : Mt} {pc pc1 : Nat} {st : List Value} {σ : St} {x : Int32} {a0 a1 a2 a3 a4 a5 a6 a7 a8 a9 a10 a11 : Option Value} {r : List (Option Value)} (X : CX g M) (d : Dc M pc pc1 (.iinc 12 1) 3) (k : ZW g pc1 (a0 :: a1 :: a2 :: a3 :: a4 :: a5 :: a6 :: a7 :: a8 :: a9 :: a10 :: a11 :: some (.int (x + 1)) :: r) st σ) (hp : nlg a11 = true := by rfl) : ZW g pc (a0 :: a1 :: a2 :: a3 :: a4 :: a5 :: a6 :: a7 :: a8 :: a9 :: a10 :: a11 :: some (.int x) :: r) st σ := zw_iinc (i := 12) (x := x) X d rfl (congrArg (x + ·) (by decide)) (by simp) hp k
theorem zw_iinc_12_m1 {g : Gt} {M : Mt} {pc pc1 : Nat} {st : List Value} {σ : St} {x : Int32} {a0 a1 a2 a3 a4 a5 a6 a7 a8 a9 a10 a11 : Option Value} {r : List (Option Value)} (X : CX g M) (d : Dc M pc pc1 (.iinc 12 (-1)) 3) (k : ZW g pc1 (a0 :: a1 :: a2 :: a3 :: a4 :: a5 :: a6 :: a7 :: a8 :: a9 :: a10 :: a11 :: some (.int (x + (-1))) :: r) st σ) (hp : nlg a11 = true := by rfl) : ZW g pc (a0 :: a1 :: a2 :: a3 :: a4 :: a5 :: a6 :: a7 :: a8 :: a9 :: a10 :: a11 :: some (.int x) :: r) st σ := zw_iinc (i := 12) (x := x) X d rfl (congrArg (x + ·) (by decide)) (by simp) hp k
theorem zw_iinc_12_p2 {g : Gt} {M : Mt} {pc pc1 : Nat} {st : List Value} {σ : St} {x : Int32} {a0 a1 a2 a3 a4 a5 a6 a7 a8 a9 a10 a11 : Option Value} {r : List (Option Value)} (X : CX g M) (d : Dc M pc pc1 (.iinc 12 2) 3) (k : ZW g pc1 (a0 :: a1 :: a2 :: a3 :: a4 :: a5 :: a6 :: a7 :: a8 :: a9 :: a10 :: a11 :: some (.int (x + 2)) :: r) st σ) (hp : nlg a11 = true := by rfl) : ZW g pc (a0 :: a1 :: a2 :: a3 :: a4 :: a5 :: a6 :: a7 :: a8 :: a9 :: a10 :: a11 :: some (.int x) :: r) st σ := zw_iinc (i := 12) (x := x) X d rfl (congrArg (x + ·) (by decide)) (by simp) hp k
theorem zw_iinc_12_p3 {g : Gt} {M : Mt} {pc pc1 : Nat} {st : List Value} {σ : St} {x : Int32} {a0 a1 a2 a3 a4 a5 a6 a7 a8 a9 a10 a11 : Option Value} {r : List (Option Value)} (X : CX g M) (d : Dc M pc pc1 (.iinc 12 3) 3) (k : ZW g pc1 (a0 :: a1 :: a2 :: a3 :: a4 :: a5 :: a6 :: a7 :: a8 :: a9 :: a10 :: a11 :: some (.int (x + 3)) :: r) st σ) (hp : nlg a11 = true := by rfl) : ZW g pc (a0 :: a1 :: a2 :: a3 :: a4 :: a5 :: a6 :: a7 :: a8 :: a9 :: a10 :: a11 :: some (.int x) :: r) st σ := zw_iinc (i := 12) (x := x) X d rfl (congrArg (x + ·) (by decide)) (by simp) hp k
theorem zw_istore_13 {g : Gt} {M : Mt} {pc pc1 : Nat} {st : List Value} {σ : St} {x : Int32} {a0 a1 a2 a3 a4 a5 a6 a7 a8 a9 a10 a11 a12 : Option Value} {b : Option Value} {r : List (Option Value)} (X : CX g M) (d : Dc M pc pc1 (.istore 13) 2) (k : ZW g pc1 (a0 :: a1 :: a2 :: a3 :: a4 :: a5 :: a6 :: a7 :: a8 :: a9 :: a10 :: a11 :: a12 :: some (.int x) :: r) st σ) (hp : nlg a12 = true := by rfl) : ZW g pc (a0 :: a1 :: a2 :: a3 :: a4 :: a5 :: a6 :: a7 :: a8 :: a9 :: a10 :: a11 :: a12 :: b :: r) (.int x :: st) σ := zw_istore (i := 13) X d (by simp) hp k
theorem zw_iinc_13_p1 {g : Gt} {M : Mt} {pc pc1 : Nat} {st : List Value} {σ : St} {x : Int32} {a0 a1 a2 a3 a4 a5 a6 a7 a8 a9 a10 a11 a12 : Option Value} {r : List (Option Value)} (X : CX g M) (d : Dc M pc pc1 (.iinc 13 1) 3) (k : ZW g pc1 (a0 :: a1 :: a2 :: a3 :: a4 :: a5 :: a6 :: a7 :: a8 :: a9 :: a10 :: a11 :: a12 :: some (.int (x + 1)) :: r) st σ) (hp : nlg a12 = true := by rfl) : ZW g pc (a0 :: a1 :: a2 :: a3 :: a4 :: a5 :: a6 :: a7 :: a8 :: a9 :: a10 :: a11 :: a12 :: some (.int x) :: r) st σ := zw_iinc (i := 13) (x := x) X d rfl (congrArg (x + ·) (by decide)) (by simp) hp k
theorem zw_iinc_13_m1 {g : Gt} {M : Mt} {pc pc1 : Nat} {st : List Value} {σ : St} {x : Int32} {a0 a1 a2 a3 a4 a5 a6 a7 a8 a9 a10 a11 a12 : Option Value} {r : List (Option Value)} (X : CX g M) (d : Dc M pc pc1 (.iinc 13 (-1)) 3) (k : ZW g pc1 (a0 :: a1 :: a2 :: a3 :: a4 :: a5 :: a6 :: a7 :: a8 :: a9 :: a10 :: a11 :: a12 :: some (.int (x + (-1))) :: r) st σ) (hp : nlg a12 = true := by rfl) : ZW g pc (a0 :: a1 :: a2 :: a3 :: a4 :: a5 :: a6 :: a7 :: a8 :: a9 :: a10 :: a11 :: a12 :: some (.int x) :: r) st σ := zw_iinc (i := 13) (x := x) X d rfl (congrArg (x + ·) (by decide)) (by simp) hp k
theorem zw_iinc_13_p2 {g : Gt} {M : Mt} {pc pc1 : Nat} {st : List Value} {σ : St} {x : Int32} {a0 a1 a2 a3 a4 a5 a6 a7 a8 a9 a10 a11 a12 : Option Value} {r : List (Option Value)} (X : CX g M) (d : Dc M pc pc1 (.iinc 13 2) 3) (k : ZW g pc1 (a0 :: a1 :: a2 :: a3 :: a4 :: a5 :: a6 :: a7 :: a8 :: a9 :: a10 :: a11 :: a12 :: some (.int (x + 2)) :: r) st σ) (hp : nlg a12 = true := by rfl) : ZW g pc (a0 :: a1 :: a2 :: a3 :: a4 :: a5 :: a6 :: a7 :: a8 :: a9 :: a10 :: a11 :: a12 :: some (.int x) :: r) st σ := zw_iinc (i := 13) (x := x) X d rfl (congrArg (x + ·) (by decide)) (by simp) hp k
theorem zw_iinc_13_p3 {g : Gt} {M : Mt} {pc pc1 : Nat} {st : List Value} {σ : St} {x : Int32} {a0 a1 a2 a3 a4 a5 a6 a7 a8 a9 a10 a11 a12 : Option Value} {r : List (Option Value)} (X : CX g M) (d : Dc M pc pc1 (.iinc 13 3) 3) (k : ZW g pc1 (a0 :: a1 :: a2 :: a3 :: a4 :: a5 :: a6 :: a7 :: a8 :: a9 :: a10 :: a11 :: a12 :: some (.int (x + 3)) :: r) st σ) (hp : nlg a12 = true := by rfl) : ZW g pc (a0 :: a1 :: a2 :: a3 :: a4 :: a5 :: a6 :: a7 :: a8 :: a9 :: a10 :: a11 :: a12 :: some (.int x) :: r) st σ := zw_iinc (i := 13) (x := x) X d rfl (congrArg (x + ·) (by decide)) (by simp) hp k
theorem zw_lstore_0 {g : Gt} {M : Mt} {pc pc1 : Nat} {st : List Value} {σ : St} {x : Int64} {b b1 : Option Value} {r : List (Option Value)} (X : CX g M) (d : Dc M pc pc1 (.lstore_n 0) 1) (k : ZW g pc1 (some (.long x) :: none :: r) st σ) : ZW g pc (b :: b1 :: r) (.long x :: st) σ := zw_lstoren (i := 0) X (q := 0) rfl d (by simp) rfl k
theorem zw_lstore_1 {g : Gt} {M : Mt} {pc pc1 : Nat} {st : List Value} {σ : St} {x : Int64} {a0 : Option Value} {b b1 : Option Value} {r : List (Option Value)} (X : CX g M) (d : Dc M pc pc1 (.lstore_n 1) 1) (k : ZW g pc1 (a0 :: some (.long x) :: none :: r) st σ) (hp : nlg a0 = true := by rfl) : ZW g pc (a0 :: b :: b1 :: r) (.long x :: st) σ := zw_lstoren (i := 1) X (q := 1) rfl d (by simp) hp k
theorem zw_lstore_2 {g : Gt} {M : Mt} {pc pc1 : Nat} {st : List Value} {σ : St} {x : Int64} {a0 a1 : Option Value} {b b1 : Option Value} {r : List (Option Value)} (X : CX g M) (d : Dc M pc pc1 (.lstore_n 2) 1) (k : ZW g pc1 (a0 :: a1 :: some (.long x) :: none :: r) st σ) (hp : nlg a1 = true := by rfl) : ZW g pc (a0 :: a1 :: b :: b1 :: r) (.long x :: st) σ := zw_lstoren (i := 2) X (q := 2) rfl d (by simp) hp k
theorem zw_lstore_3 {g : Gt} {M : Mt} {pc pc1 : Nat} {st : List Value} {σ : St} {x : Int64} {a0 a1 a2 : Option Value} {b b1 : Option Value} {r : List (Option Value)} (X : CX g M) (d : Dc M pc pc1 (.lstore_n 3) 1) (k : ZW g pc1 (a0 :: a1 :: a2 :: some (.long x) :: none :: r) st σ) (hp : nlg a2 = true := by rfl) : ZW g pc (a0 :: a1 :: a2 :: b :: b1 :: r) (.long x :: st) σ := zw_lstoren (i := 3) X (q := 3) rfl d (by simp) hp k
theorem zw_lstore_4 {g : Gt} {M : Mt} {pc pc1 : Nat} {st : List Value} {σ : St} {x : Int64} {a0 a1 a2 a3 : Option Value} {b b1 : Option Value} {r : List (Option Value)} (X : CX g M) (d : Dc M pc pc1 (.lstore 4) 2) (k : ZW g pc1 (a0 :: a1 :: a2 :: a3 :: some (.long x) :: none :: r) st σ) (hp : nlg a3 = true := by rfl) : ZW g pc (a0 :: a1 :: a2 :: a3 :: b :: b1 :: r) (.long x :: st) σ := zw_lstore (i := 4) X d (by simp) hp k
theorem zw_lstore_5 {g : Gt} {M : Mt} {pc pc1 : Nat} {st : List Value} {σ : St} {x : Int64} {a0 a1 a2 a3 a4 : Option Value} {b b1 : Option Value} {r : List (Option Value)} (X : CX g M) (d : Dc M pc pc1 (.lstore 5) 2) (k : ZW g pc1 (a0 :: a1 :: a2 :: a3 :: a4 :: some (.long x) :: none :: r) st σ) (hp : nlg a4 = true := by rfl) : ZW g pc (a0 :: a1 :: a2 :: a3 :: a4 :: b :: b1 :: r) (.long x :: st) σ := zw_lstore (i := 5) X d (by simp) hp k
theorem zw_lstore_6 {g : Gt} {M : Mt} {pc pc1 : Nat} {st : List Value} {σ : St} {x : Int64} {a0 a1 a2 a3 a4 a5 : Option Value} {b b1 : Option Value} {r : List (Option Value)} (X : CX g M) (d : Dc M pc pc1 (.lstore 6) 2) (k : ZW g pc1 (a0 :: a1 :: a2 :: a3 :: a4 :: a5 :: some (.long x) :: none :: r) st σ) (hp : nlg a5 = true := by rfl) : ZW g pc (a0 :: a1 :: a2 :: a3 :: a4 :: a5 :: b :: b1 :: r) (.long x :: st) σ := zw_lstore (i := 6) X d (by simp) hp k
theorem zw_lstore_7 {g : Gt} {M : Mt} {pc pc1 : Nat} {st : List Value} {σ : St} {x : Int64} {a0 a1 a2 a3 a4 a5 a6 : Option Value} {b b1 : Option Value} {r : List (Option Value)} (X : CX g M) (d : Dc M pc pc1 (.lstore 7) 2) (k : ZW g pc1 (a0 :: a1 :: a2 :: a3 :: a4 :: a5 :: a6 :: some (.long x) :: none :: r) st σ) (hp : nlg a6 = true := by rfl) : ZW g pc (a0 :: a1 :: a2 :: a3 :: a4 :: a5 :: a6 :: b :: b1 :: r) (.long x :: st) σ := zw_lstore (i := 7) X d (by simp) hp k
theorem zw_lstore_8 {g : Gt} {M : Mt} {pc pc1 : Nat} {st : List Value} {σ : St} {x : Int64} {a0 a1 a2 a3 a4 a5 a6 a7 : Option Value} {b b1 : Option Value} {r : List (Option Value)} (X : CX g M) (d : Dc M pc pc1 (.lstore 8) 2) (k : ZW g pc1 (a0 :: a1 :: a2 :: a3 :: a4 :: a5 :: a6 :: a7 :: some (.long x) :: none :: r) st σ) (hp : nlg a7 = true := by rfl) : ZW g pc (a0 :: a1 :: a2 :: a3 :: a4 :: a5 :: a6 :: a7 :: b :: b1 :: r) (.long x :: st) σ := zw_lstore (i := 8) X d (by simp) hp k
theorem zw_lstore_9 {g : Gt} {M : Mt} {pc pc1 : Nat} {st : List Value} {σ : St} {x : Int64} {a0 a1 a2 a3 a4 a5 a6 a7 a8 : Option Value} {b b1 : Option Value} {r : List (Option Value)} (X : CX g M) (d : Dc M pc pc1 (.lstore 9) 2) (k : ZW g pc1 (a0 :: a1 :: a2 :: a3 :: a4 :: a5 :: a6 :: a7 :: a8 :: some (.long x) :: none :: r) st σ) (hp : nlg a8 = true := by rfl) : ZW g pc (a0 :: a1 :: a2 :: a3 :: a4 :: a5 :: a6 :: a7 :: a8 :: b :: b1 :: r) (.long x :: st) σ := zw_lstore (i := 9) X d (by simp) hp k
theorem zw_lstore_10 {g : Gt} {M : Mt} {pc pc1 : Nat} {st : List Value} {σ : St} {x : Int64} {a0 a1 a2 a3 a4 a5 a6 a7 a8 a9 : Option Value} {b b1 : Option Value} {r : List (Option Value)} (X : CX g M) (d : Dc M pc pc1 (.lstore 10) 2) (k : ZW g pc1 (a0 :: a1 :: a2 :: a3 :: a4 :: a5 :: a6 :: a7 :: a8 :: a9 :: some (.long x) :: none :: r) st σ) (hp : nlg a9 = true := by rfl) : ZW g pc (a0 :: a1 :: a2 :: a3 :: a4 :: a5 :: a6 :: a7 :: a8 :: a9 :: b :: b1 :: r) (.long x :: st) σ := zw_lstore (i := 10) X d (by simp) hp k
theorem zw_lstore_11 {g : Gt} {M : Mt} {pc pc1 : Nat} {st : List Value} {σ : St} {x : Int64} {a0 a1 a2 a3 a4 a5 a6 a7 a8 a9 a10 : Option Value} {b b1 : Option Value} {r : List (Option Value)} (X : CX g M) (d : Dc M pc pc1 (.lstore 11) 2) (k : ZW g pc1 (a0 :: a1 :: a2 :: a3 :: a4 :: a5 :: a6 :: a7 :: a8 :: a9 :: a10 :: some (.long x) :: none :: r) st σ) (hp : nlg a10 = true := by rfl) : ZW g pc (a0 :: a1 :: a2 :: a3 :: a4 :: a5 :: a6 :: a7 :: a8 :: a9 :: a10 :: b :: b1 :: r) (.long x :: st) σ := zw_lstore (i := 11) X d (by simp) hp k
section ZS
variable {g : Gt} {M : Mt} {pc pc1 : Nat} {ls : List (Option Value)} {st : List Value} {σ : St}
theorem zw_iconst {n : Int} {v : Int32} (X : CX g M) (d : Dc M pc pc1 (.iconst n) 1) (hv : Int32.ofInt n = v) (k : ZW g pc1 ls (.int v :: st) σ) : ZW g pc ls (st) σ := by
  obtain ⟨⟨p, l, e, R, s, m, args, below, meth, c⟩, D, ad, cA, A, ⟨kc, ks⟩, Q⟩ := g
  obtain ⟨hx, hb, -⟩ := X
  obtain ⟨d1, rfl⟩ := d
  intro H locs lsa hP hD hS hn hh
  exact lv_iconst hx hb d1 hv (k H locs lsa hP hD hS hn hh)
theorem zw_bipush {n : Int} {v : Int32} (X : CX g M) (d : Dc M pc pc1 (.bipush n) 2) (hv : (Int8.ofInt n).toInt32 = v) (k : ZW g pc1 ls (.int v :: st) σ) : ZW g pc ls (st) σ := by
  obtain ⟨⟨p, l, e, R, s, m, args, below, meth, c⟩, D, ad, cA, A, ⟨kc, ks⟩, Q⟩ := g
  obtain ⟨hx, hb, -⟩ := X
  obtain ⟨d1, rfl⟩ := d
  intro H locs lsa hP hD hS hn hh
  exact lv_bipush hx hb d1 hv (k H locs lsa hP hD hS hn hh)
theorem zw_sipush {n : Int} {v : Int32} (X : CX g M) (d : Dc M pc pc1 (.sipush n) 3) (hv : (Int16.ofInt n).toInt32 = v) (k : ZW g pc1 ls (.int v :: st) σ) : ZW g pc ls (st) σ := by
  obtain ⟨⟨p, l, e, R, s, m, args, below, meth, c⟩, D, ad, cA, A, ⟨kc, ks⟩, Q⟩ := g
  obtain ⟨hx, hb, -⟩ := X
  obtain ⟨d1, rfl⟩ := d
  intro H locs lsa hP hD hS hn hh
  exact lv_sipush hx hb d1 hv (k H locs lsa hP hD hS hn hh)
theorem zw_lconst {n : Fin 2} {v : Int64} (X : CX g M) (d : Dc M pc pc1 (.lconst n) 1) (hv : Int64.ofNat (n : Nat) = v) (k : ZW g pc1 ls (.long v :: st) σ) : ZW g pc ls (st) σ := by
  obtain ⟨⟨p, l, e, R, s, m, args, below, meth, c⟩, D, ad, cA, A, ⟨kc, ks⟩, Q⟩ := g
  obtain ⟨hx, hb, -⟩ := X
  obtain ⟨d1, rfl⟩ := d
  intro H locs lsa hP hD hS hn hh
  exact lv_lconst hx hb d1 hv (k H locs lsa hP hD hS hn hh)
theorem zw_iadd {x y : Int32} (X : CX g M) (d : Dc M pc pc1 .iadd 1) (k : ZW g pc1 ls (.int (x + y) :: st) σ) : ZW g pc ls (.int y :: .int x :: st) σ := by
  obtain ⟨⟨p, l, e, R, s, m, args, below, meth, c⟩, D, ad, cA, A, ⟨kc, ks⟩, Q⟩ := g
  obtain ⟨hx, hb, -⟩ := X
  obtain ⟨d1, rfl⟩ := d
  intro H locs lsa hP hD hS hn hh
  exact lv_iadd hx hb d1 (k H locs lsa hP hD hS hn hh)
theorem zw_isub {x y : Int32} (X : CX g M) (d : Dc M pc pc1 .isub 1) (k : ZW g pc1 ls (.int (x - y) :: st) σ) : ZW g pc ls (.int y :: .int x :: st) σ := by
  obtain ⟨⟨p, l, e, R, s, m, args, below, meth, c⟩, D, ad, cA, A, ⟨kc, ks⟩, Q⟩ := g
  obtain ⟨hx, hb, -⟩ := X
  obtain ⟨d1, rfl⟩ := d
  intro H locs lsa hP hD hS hn hh
  exact lv_isub hx hb d1 (k H locs lsa hP hD hS hn hh)
theorem zw_imul {x y : Int32} (X : CX g M) (d : Dc M pc pc1 .imul 1) (k : ZW g pc1 ls (.int (x * y) :: st) σ) : ZW g pc ls (.int y :: .int x :: st) σ := by
  obtain ⟨⟨p, l, e, R, s, m, args, below, meth, c⟩, D, ad, cA, A, ⟨kc, ks⟩, Q⟩ := g
  obtain ⟨hx, hb, -⟩ := X
  obtain ⟨d1, rfl⟩ := d
  intro H locs lsa hP hD hS hn hh
  exact lv_imul hx hb d1 (k H locs lsa hP hD hS hn hh)
theorem zw_iand {x y : Int32} (X : CX g M) (d : Dc M pc pc1 .iand 1) (k : ZW g pc1 ls (.int (x &&& y) :: st) σ) : ZW g pc ls (.int y :: .int x :: st) σ := by
  obtain ⟨⟨p, l, e, R, s, m, args, below, meth, c⟩, D, ad, cA, A, ⟨kc, ks⟩, Q⟩ := g
  obtain ⟨hx, hb, -⟩ := X
  obtain ⟨d1, rfl⟩ := d
  intro H locs lsa hP hD hS hn hh
  exact lv_iand hx hb d1 (k H locs lsa hP hD hS hn hh)
theorem zw_ior {x y : Int32} (X : CX g M) (d : Dc M pc pc1 .ior 1) (k : ZW g pc1 ls (.int (x ||| y) :: st) σ) : ZW g pc ls (.int y :: .int x :: st) σ := by
  obtain ⟨⟨p, l, e, R, s, m, args, below, meth, c⟩, D, ad, cA, A, ⟨kc, ks⟩, Q⟩ := g
  obtain ⟨hx, hb, -⟩ := X
  obtain ⟨d1, rfl⟩ := d
  intro H locs lsa hP hD hS hn hh
  exact lv_ior hx hb d1 (k H locs lsa hP hD hS hn hh)
theorem zw_ixor {x y : Int32} (X : CX g M) (d : Dc M pc pc1 .ixor 1) (k : ZW g pc1 ls (.int (x ^^^ y) :: st) σ) : ZW g pc ls (.int y :: .int x :: st) σ := by
  obtain ⟨⟨p, l, e, R, s, m, args, below, meth, c⟩, D, ad, cA, A, ⟨kc, ks⟩, Q⟩ := g
  obtain ⟨hx, hb, -⟩ := X
  obtain ⟨d1, rfl⟩ := d
  intro H locs lsa hP hD hS hn hh
  exact lv_ixor hx hb d1 (k H locs lsa hP hD hS hn hh)
theorem zw_ishl {x y : Int32} (X : CX g M) (d : Dc M pc pc1 .ishl 1) (k : ZW g pc1 ls (.int (x <<< (y &&& 31)) :: st) σ) : ZW g pc ls (.int y :: .int x :: st) σ := by
  obtain ⟨⟨p, l, e, R, s, m, args, below, meth, c⟩, D, ad, cA, A, ⟨kc, ks⟩, Q⟩ := g
  obtain ⟨hx, hb, -⟩ := X
  obtain ⟨d1, rfl⟩ := d
  intro H locs lsa hP hD hS hn hh
  exact lv_ishl hx hb d1 (k H locs lsa hP hD hS hn hh)
theorem zw_ishr {x y : Int32} (X : CX g M) (d : Dc M pc pc1 .ishr 1) (k : ZW g pc1 ls (.int (x >>> (y &&& 31)) :: st) σ) : ZW g pc ls (.int y :: .int x :: st) σ := by
  obtain ⟨⟨p, l, e, R, s, m, args, below, meth, c⟩, D, ad, cA, A, ⟨kc, ks⟩, Q⟩ := g
  obtain ⟨hx, hb, -⟩ := X
  obtain ⟨d1, rfl⟩ := d
  intro H locs lsa hP hD hS hn hh
  exact lv_ishr hx hb d1 (k H locs lsa hP hD hS hn hh)
theorem zw_iushr {x y : Int32} (X : CX g M) (d : Dc M pc pc1 .iushr 1) (k : ZW g pc1 ls (.int (x.toUInt32 >>> (y.toUInt32 &&& Int32.toUInt32 31)).toInt32 :: st) σ) : ZW g pc ls (.int y :: .int x :: st) σ := by
  obtain ⟨⟨p, l, e, R, s, m, args, below, meth, c⟩, D, ad, cA, A, ⟨kc, ks⟩, Q⟩ := g
  obtain ⟨hx, hb, -⟩ := X
  obtain ⟨d1, rfl⟩ := d
  intro H locs lsa hP hD hS hn hh
  exact lv_iushr hx hb d1 rfl (k H locs lsa hP hD hS hn hh)
theorem zw_idiv {x y : Int32} (X : CX g M) (d : Dc M pc pc1 .idiv 1) (hne : ¬ y = 0) (k : ZW g pc1 ls (.int (x / y) :: st) σ) : ZW g pc ls (.int y :: .int x :: st) σ := by
  obtain ⟨⟨p, l, e, R, s, m, args, below, meth, c⟩, D, ad, cA, A, ⟨kc, ks⟩, Q⟩ := g
  obtain ⟨hx, hb, -⟩ := X
  obtain ⟨d1, rfl⟩ := d
  intro H locs lsa hP hD hS hn hh
  exact lv_idiv hx hb d1 hne (k H locs lsa hP hD hS hn hh)
theorem zw_irem {x y : Int32} (X : CX g M) (d : Dc M pc pc1 .irem 1) (hne : ¬ y = 0) (k : ZW g pc1 ls (.int (x - x / y * y) :: st) σ) : ZW g pc ls (.int y :: .int x :: st) σ := by
  obtain ⟨⟨p, l, e, R, s, m, args, below, meth, c⟩, D, ad, cA, A, ⟨kc, ks⟩, Q⟩ := g
  obtain ⟨hx, hb, -⟩ := X
  obtain ⟨d1, rfl⟩ := d
  intro H locs lsa hP hD hS hn hh
  exact lv_irem hx hb d1 hne (k H locs lsa hP hD hS hn hh)
theorem zw_ineg {x : Int32} (X : CX g M) (d : Dc M pc pc1 .ineg 1) (k : ZW g pc1 ls (.int (-x) :: st) σ) : ZW g pc ls (.int x :: st) σ := by
  obtain ⟨⟨p, l, e, R, s, m, args, below, meth, c⟩, D, ad, cA, A, ⟨kc, ks⟩, Q⟩ := g
  obtain ⟨hx, hb, -⟩ := X
  obtain ⟨d1, rfl⟩ := d
  intro H locs lsa hP hD hS hn hh
  exact lv_ineg hx hb d1 (k H locs lsa hP hD hS hn hh)
theorem zw_ladd {x y : Int64} (X : CX g M) (d : Dc M pc pc1 .ladd 1) (k : ZW g pc1 ls (.long (x + y) :: st) σ) : ZW g pc ls (.long y :: .long x :: st) σ := by
  obtain ⟨⟨p, l, e, R, s, m, args, below, meth, c⟩, D, ad, cA, A, ⟨kc, ks⟩, Q⟩ := g
  obtain ⟨hx, hb, -⟩ := X
  obtain ⟨d1, rfl⟩ := d
  intro H locs lsa hP hD hS hn hh
  exact lv_ladd hx hb d1 (k H locs lsa hP hD hS hn hh)
theorem zw_ldiv {x y : Int64} (X : CX g M) (d : Dc M pc pc1 .ldiv 1) (hne : ¬ y = 0) (k : ZW g pc1 ls (.long (x / y) :: st) σ) : ZW g pc ls (.long y :: .long x :: st) σ := by
  obtain ⟨⟨p, l, e, R, s, m, args, below, meth, c⟩, D, ad, cA, A, ⟨kc, ks⟩, Q⟩ := g
  obtain ⟨hx, hb, -⟩ := X
  obtain ⟨d1, rfl⟩ := d
  intro H locs lsa hP hD hS hn hh
  exact lv_ldiv hx hb d1 hne (k H locs lsa hP hD hS hn hh)
theorem zw_lrem {x y : Int64} (X : CX g M) (d : Dc M pc pc1 .lrem 1) (hne : ¬ y = 0) (k : ZW g pc1 ls (.long (x - x / y * y) :: st) σ) : ZW g pc ls (.long y :: .long x :: st) σ := by
  obtain ⟨⟨p, l, e, R, s, m, args, below, meth, c⟩, D, ad, cA, A, ⟨kc, ks⟩, Q⟩ := g
  obtain ⟨hx, hb, -⟩ := X
  obtain ⟨d1, rfl⟩ := d
  intro H locs lsa hP hD hS hn hh
  exact lv_lrem hx hb d1 hne (k H locs lsa hP hD hS hn hh)
theorem zw_lcmp {x y : Int64} (X : CX g M) (d : Dc M pc pc1 .lcmp 1) (k : ZW g pc1 ls (.int (lg_cmp x y) :: st) σ) : ZW g pc ls (.long y :: .long x :: st) σ := by
  obtain ⟨⟨p, l, e, R, s, m, args, below, meth, c⟩, D, ad, cA, A, ⟨kc, ks⟩, Q⟩ := g
  obtain ⟨hx, hb, -⟩ := X
  obtain ⟨d1, rfl⟩ := d
  intro H locs lsa hP hD hS hn hh
  exact W.lcmp hx hb d1 (k H locs lsa hP hD hS hn hh)
theorem zw_i2l {x : Int32} (X : CX g M) (d : Dc M pc pc1 .i2l 1) (k : ZW g pc1 ls (.long x.toInt64 :: st) σ) : ZW g pc ls (.int x :: st) σ := by
  obtain ⟨⟨p, l, e, R, s, m, args, below, meth, c⟩, D, ad, cA, A, ⟨kc, ks⟩, Q⟩ := g
  obtain ⟨hx, hb, -⟩ := X
  obtain ⟨d1, rfl⟩ := d
  intro H locs lsa hP hD hS hn hh
  exact lv_i2l hx hb d1 rfl (k H locs lsa hP hD hS hn hh)
theorem zw_dup_r {x : Nat} (X : CX g M) (d : Dc M pc pc1 .dup 1) (k : ZW g pc1 ls (.ref x :: .ref x :: st) σ) : ZW g pc ls (.ref x :: st) σ := by
  obtain ⟨⟨p, l, e, R, s, m, args, below, meth, c⟩, D, ad, cA, A, ⟨kc, ks⟩, Q⟩ := g
  obtain ⟨hx, hb, -⟩ := X
  obtain ⟨d1, rfl⟩ := d
  intro H locs lsa hP hD hS hn hh
  exact lv_dup hx hb d1 rfl (k H locs lsa hP hD hS hn hh)
theorem zw_dup_i {x : Int32} (X : CX g M) (d : Dc M pc pc1 .dup 1) (k : ZW g pc1 ls (.int x :: .int x :: st) σ) : ZW g pc ls (.int x :: st) σ := by
  obtain ⟨⟨p, l, e, R, s, m, args, below, meth, c⟩, D, ad, cA, A, ⟨kc, ks⟩, Q⟩ := g
  obtain ⟨hx, hb, -⟩ := X
  obtain ⟨d1, rfl⟩ := d
  intro H locs lsa hP hD hS hn hh
  exact lv_dup hx hb d1 rfl (k H locs lsa hP hD hS hn hh)
theorem zw_pop_i {x : Int32} (X : CX g M) (d : Dc M pc pc1 .pop 1) (k : ZW g pc1 ls (st) σ) : ZW g pc ls (.int x :: st) σ := by
  obtain ⟨⟨p, l, e, R, s, m, args, below, meth, c⟩, D, ad, cA, A, ⟨kc, ks⟩, Q⟩ := g
  obtain ⟨hx, hb, -⟩ := X
  obtain ⟨d1, rfl⟩ := d
  intro H locs lsa hP hD hS hn hh
  exact lv_pop hx hb d1 rfl (k H locs lsa hP hD hS hn hh)
theorem zw_dup2_ir {x : Int32} {y : Nat} (X : CX g M) (d : Dc M pc pc1 .dup2 1) (k : ZW g pc1 ls (.int x :: .ref y :: .int x :: .ref y :: st) σ) : ZW g pc ls (.int x :: .ref y :: st) σ := by
  obtain ⟨⟨p, l, e, R, s, m, args, below, meth, c⟩, D, ad, cA, A, ⟨kc, ks⟩, Q⟩ := g
  obtain ⟨hx, hb, -⟩ := X
  obtain ⟨d1, rfl⟩ := d
  intro H locs lsa hP hD hS hn hh
  exact lv_dup2_11 hx hb d1 rfl rfl (k H locs lsa hP hD hS hn hh)
theorem zw_icmpeq {x y : Int32} {off : Int} {tgt : Nat} (X : CX g M) (d : Dc M pc pc1 (.if_icmp .eq off) 3) (ht : (pc : Int) + off = (tgt : Int)) (kt : x = y → ZW g tgt ls st σ) (kf : ¬ x = y → ZW g pc1 ls st σ) : ZW g pc ls (.int y :: .int x :: st) σ := by
  obtain ⟨⟨p, l, e, R, s, m, args, below, meth, c⟩, D, ad, cA, A, ⟨kc, ks⟩, Q⟩ := g
  obtain ⟨hx, hb, -⟩ := X
  obtain ⟨d1, rfl⟩ := d
  intro H locs lsa hP hD hS hn hh
  exact lv_icmp_eq hx hb d1 ht (fun h => kt h H locs lsa hP hD hS hn hh) (fun h => kf h H locs lsa hP hD hS hn hh)
theorem zw_ifeq {x : Int32} {off : Int} {tgt : Nat} (X : CX g M) (d : Dc M pc pc1 (.ifCond .eq off) 3) (ht : (pc : Int) + off = (tgt : Int)) (kt : x = 0 → ZW g tgt ls st σ) (kf : ¬ x = 0 → ZW g pc1 ls st σ) : ZW g pc ls (.int x :: st) σ := by
  obtain ⟨⟨p, l, e, R, s, m, args, below, meth, c⟩, D, ad, cA, A, ⟨kc, ks⟩, Q⟩ := g
  obtain ⟨hx, hb, -⟩ := X
  obtain ⟨d1, rfl⟩ := d
  intro H locs lsa hP hD hS hn hh
  exact lv_if_eq hx hb d1 ht (fun h => kt h H locs lsa hP hD hS hn hh) (fun h => kf h H locs lsa hP hD hS hn hh)
theorem zw_icmpne {x y : Int32} {off : Int} {tgt : Nat} (X : CX g M) (d : Dc M pc pc1 (.if_icmp .ne off) 3) (ht : (pc : Int) + off = (tgt : Int)) (kt : ¬ x = y → ZW g tgt ls st σ) (kf : x = y → ZW g pc1 ls st σ) : ZW g pc ls (.int y :: .int x :: st) σ := by
  obtain ⟨⟨p, l, e, R, s, m, args, below, meth, c⟩, D, ad, cA, A, ⟨kc, ks⟩, Q⟩ := g
  obtain ⟨hx, hb, -⟩ := X
  obtain ⟨d1, rfl⟩ := d
  intro H locs lsa hP hD hS hn hh
  exact lv_icmp_ne hx hb d1 ht (fun h => kt h H locs lsa hP hD hS hn hh) (fun h => kf h H locs lsa hP hD hS hn hh)
theorem zw_ifne {x : Int32} {off : Int} {tgt : Nat} (X : CX g M) (d : Dc M pc pc1 (.ifCond .ne off) 3) (ht : (pc : Int) + off = (tgt : Int)) (kt : ¬ x = 0 → ZW g tgt ls st σ) (kf : x = 0 → ZW g pc1 ls st σ) : ZW g pc ls (.int x :: st) σ := by
  obtain ⟨⟨p, l, e, R, s, m, args, below, meth, c⟩, D, ad, cA, A, ⟨kc, ks⟩, Q⟩ := g
  obtain ⟨hx, hb, -⟩ := X
  obtain ⟨d1, rfl⟩ := d
  intro H locs lsa hP hD hS hn hh
  exact lv_if_ne hx hb d1 ht (fun h => kt h H locs lsa hP hD hS hn hh) (fun h => kf h H locs lsa hP hD hS hn hh)
theorem zw_icmplt {x y : Int32} {off : Int} {tgt : Nat} (X : CX g M) (d : Dc M pc pc1 (.if_icmp .lt off) 3) (ht : (pc : Int) + off = (tgt : Int)) (kt : x < y → ZW g tgt ls st σ) (kf : ¬ x < y → ZW g pc1 ls st σ) : ZW g pc ls (.int y :: .int x :: st) σ := by
  obtain ⟨⟨p, l, e, R, s, m, args, below, meth, c⟩, D, ad, cA, A, ⟨kc, ks⟩, Q⟩ := g
  obtain ⟨hx, hb, -⟩ := X
  obtain ⟨d1, rfl⟩ := d
  intro H locs lsa hP hD hS hn hh
  exact lv_icmp_lt hx hb d1 ht (fun h => kt h H locs lsa hP hD hS hn hh) (fun h => kf h H locs lsa hP hD hS hn hh)
theorem zw_iflt {x : Int32} {off : Int} {tgt : Nat} (X : CX g M) (d : Dc M pc pc1 (.ifCond .lt off) 3) (ht : (pc : Int) + off = (tgt : Int)) (kt : x < 0 → ZW g tgt ls st σ) (kf : ¬ x < 0 → ZW g pc1 ls st σ) : ZW g pc ls (.int x :: st) σ := by
  obtain ⟨⟨p, l, e, R, s, m, args, below, meth, c⟩, D, ad, cA, A, ⟨kc, ks⟩, Q⟩ := g
  obtain ⟨hx, hb, -⟩ := X
  obtain ⟨d1, rfl⟩ := d
  intro H locs lsa hP hD hS hn hh
  exact lv_if_lt hx hb d1 ht (fun h => kt h H locs lsa hP hD hS hn hh) (fun h => kf h H locs lsa hP hD hS hn hh)
theorem zw_icmpgt {x y : Int32} {off : Int} {tgt : Nat} (X : CX g M) (d : Dc M pc pc1 (.if_icmp .gt off) 3) (ht : (pc : Int) + off = (tgt : Int)) (kt : y < x → ZW g tgt ls st σ) (kf : ¬ y < x → ZW g pc1 ls st σ) : ZW g pc ls (.int y :: .int x :: st) σ := by
  obtain ⟨⟨p, l, e, R, s, m, args, below, meth, c⟩, D, ad, cA, A, ⟨kc, ks⟩, Q⟩ := g
  obtain ⟨hx, hb, -⟩ := X
  obtain ⟨d1, rfl⟩ := d
  intro H locs lsa hP hD hS hn hh
  exact lv_icmp_gt hx hb d1 ht (fun h => kt h H locs lsa hP hD hS hn hh) (fun h => kf h H locs lsa hP hD hS hn hh)
theorem zw_ifgt {x : Int32} {off : Int} {tgt : Nat} (X : CX g M) (d : Dc M pc pc1 (.ifCond .gt off) 3) (ht : (pc : Int) + off = (tgt : Int)) (kt : 0 < x → ZW g tgt ls st σ) (kf : ¬ 0 < x → ZW g pc1 ls st σ) : ZW g pc ls (.int x :: st) σ := by
  obtain ⟨⟨p, l, e, R, s, m, args, below, meth, c⟩, D, ad, cA, A, ⟨kc, ks⟩, Q⟩ := g
  obtain ⟨hx, hb, -⟩ := X
  obtain ⟨d1, rfl⟩ := d
  intro H locs lsa hP hD hS hn hh
  exact lv_if_gt hx hb d1 ht (fun h => kt h H locs lsa hP hD hS hn hh) (fun h => kf h H locs lsa hP hD hS hn hh)
theorem zw_icmpge {x y : Int32} {off : Int} {tgt : Nat} (X : CX g M) (d : Dc M pc pc1 (.if_icmp .ge off) 3) (ht : (pc : Int) + off = (tgt : Int)) (kt : ¬ x < y → ZW g tgt ls st σ) (kf : x < y → ZW g pc1 ls st σ) : ZW g pc ls (.int y :: .int x :: st) σ := by
  obtain ⟨⟨p, l, e, R, s, m, args, below, meth, c⟩, D, ad, cA, A, ⟨kc, ks⟩, Q⟩ := g
  obtain ⟨hx, hb, -⟩ := X
  obtain ⟨d1, rfl⟩ := d
  intro H locs lsa hP hD hS hn hh
  exact lv_icmp_ge hx hb d1 ht (fun h => kt (fun q => Int32.not_lt.mpr h q) H locs lsa hP hD hS hn hh) (fun h => kf (Int32.not_le.mp h) H locs lsa hP hD hS hn hh)
theorem zw_ifge {x : Int32} {off : Int} {tgt : Nat} (X : CX g M) (d : Dc M pc pc1 (.ifCond .ge off) 3) (ht : (pc : Int) + off = (tgt : Int)) (kt : ¬ x < 0 → ZW g tgt ls st σ) (kf : x < 0 → ZW g pc1 ls st σ) : ZW g pc ls (.int x :: st) σ := by
  obtain ⟨⟨p, l, e, R, s, m, args, below, meth, c⟩, D, ad, cA, A, ⟨kc, ks⟩, Q⟩ := g
  obtain ⟨hx, hb, -⟩ := X
  obtain ⟨d1, rfl⟩ := d
  intro H locs lsa hP hD hS hn hh
  exact lv_if_ge hx hb d1 ht (fun h => kt (fun q => Int32.not_lt.mpr h q) H locs lsa hP hD hS hn hh) (fun h => kf (Int32.not_le.mp h) H locs lsa hP hD hS hn hh)
theorem zw_icmple {x y : Int32} {off : Int} {tgt : Nat} (X : CX g M) (d : Dc M pc pc1 (.if_icmp .le off) 3) (ht : (pc : Int) + off = (tgt : Int)) (kt : ¬ y < x → ZW g tgt ls st σ) (kf : y < x → ZW g pc1 ls st σ) : ZW g pc ls (.int y :: .int x :: st) σ := by
  obtain ⟨⟨p, l, e, R, s, m, args, below, meth, c⟩, D, ad, cA, A, ⟨kc, ks⟩, Q⟩ := g
  obtain ⟨hx, hb, -⟩ := X
  obtain ⟨d1, rfl⟩ := d
  intro H locs lsa hP hD hS hn hh
  exact lv_icmp_le hx hb d1 ht (fun h => kt (fun q => Int32.not_lt.mpr h q) H locs lsa hP hD hS hn hh) (fun h => kf (Int32.not_le.mp h) H locs lsa hP hD hS hn hh)
theorem zw_ifle {x : Int32} {off : Int} {tgt : Nat} (X : CX g M) (d : Dc M pc pc1 (.ifCond .le off) 3) (ht : (pc : Int) + off = (tgt : Int)) (kt : ¬ 0 < x → ZW g tgt ls st σ) (kf : 0 < x → ZW g pc1 ls st σ) : ZW g pc ls (.int x :: st) σ := by
  obtain ⟨⟨p, l, e, R, s, m, args, below, meth, c⟩, D, ad, cA, A, ⟨kc, ks⟩, Q⟩ := g
  obtain ⟨hx, hb, -⟩ := X
  obtain ⟨d1, rfl⟩ := d
  intro H locs lsa hP hD hS hn hh
  exact lv_if_le hx hb d1 ht (fun h => kt (fun q => Int32.not_lt.mpr h q) H locs lsa hP hD hS hn hh) (fun h => kf (Int32.not_le.mp h) H locs lsa hP hD hS hn hh)
theorem zw_goto {off : Int} {tgt : Nat} (X : CX g M) (d : Dc M pc pc1 (.goto off) 3) (ht : (pc : Int) + off = (tgt : Int)) (k : ZW g tgt ls st σ) : ZW g pc ls st σ := by
  obtain ⟨⟨p, l, e, R, s, m, args, below, meth, c⟩, D, ad, cA, A, ⟨kc, ks⟩, Q⟩ := g
  obtain ⟨hx, hb, -⟩ := X
  obtain ⟨d1, rfl⟩ := d
  intro H locs lsa hP hD hS hn hh
  exact lv_goto hx hb d1 ht (k H locs lsa hP hD hS hn hh)
theorem zw_tabIn {dflt lo hi : Int} {offs : Array Int} {len : Nat} {x : Int32} {off : Int} {tgt : Nat} (X : CX g M) (d : Dc M pc pc1 (.tableswitch dflt lo hi offs) len) (h1 : ¬ x.toInt < lo) (h2 : ¬ hi < x.toInt) (ho : offs[(x.toInt - lo).toNat]? = some off) (ht : (pc : Int) + off = (tgt : Int)) (k : ZW g tgt ls st σ) : ZW g pc ls (.int x :: st) σ := by
  obtain ⟨⟨p, l, e, R, s, m, args, below, meth, c⟩, D, ad, cA, A, ⟨kc, ks⟩, Q⟩ := g
  obtain ⟨hx, hb, -⟩ := X
  obtain ⟨d1, rfl⟩ := d
  intro H locs lsa hP hD hS hn hh
  exact lv_tableIn hx hb d1 h1 h2 ho ht (k H locs lsa hP hD hS hn hh)
theorem zw_tabOut {dflt lo hi : Int} {offs : Array Int} {len : Nat} {x : Int32} {tgt : Nat} (X : CX g M) (d : Dc M pc pc1 (.tableswitch dflt lo hi offs) len) (h : x.toInt < lo ∨ hi < x.toInt) (ht : (pc : Int) + dflt = (tgt : Int)) (k : ZW g tgt ls st σ) : ZW g pc ls (.int x :: st) σ := by
  obtain ⟨⟨p, l, e, R, s, m, args, below, meth, c⟩, D, ad, cA, A, ⟨kc, ks⟩, Q⟩ := g
  obtain ⟨hx, hb, -⟩ := X
  obtain ⟨d1, rfl⟩ := d
  intro H locs lsa hP hD hS hn hh
  exact lv_tableOut hx hb d1 h ht (k H locs lsa hP hD hS hn hh)
theorem zw_ldc {idx : Nat} {v : Int32} (X : CX g M) (d : Dc M pc pc1 (.ldc idx) 2) (hk : Cond.constant (mY M).cls idx v ∈ lw_gd) (k : ZW g pc1 ls (.int v :: st) σ) : ZW g pc ls st σ := by
  obtain ⟨⟨p, l, e, R, s, m, args, below, meth, c⟩, D, ad, cA, A, ⟨kc, ks⟩, Q⟩ := g
  obtain ⟨hx, hb, hml, hown, hts, hN, hK, hA, hR, hRc⟩ := X
  obtain ⟨d1, rfl⟩ := d
  intro H locs lsa hP hD hS hn hh
  exact lv_ldc hx hb hown (hts _ hk) d1 (k H locs lsa hP hD hS hn hh)
theorem zw_ldcw {idx : Nat} {v : Int32} (X : CX g M) (d : Dc M pc pc1 (.ldc_w idx) 3) (hk : Cond.constant (mY M).cls idx v ∈ lw_gd) (k : ZW g pc1 ls (.int v :: st) σ) : ZW g pc ls st σ := by
  obtain ⟨⟨p, l, e, R, s, m, args, below, meth, c⟩, D, ad, cA, A, ⟨kc, ks⟩, Q⟩ := g
  obtain ⟨hx, hb, hml, hown, hts, hN, hK, hA, hR, hRc⟩ := X
  obtain ⟨d1, rfl⟩ := d
  intro H locs lsa hP hD hS hn hh
  exact lv_ldcw hx hb hown (hts _ hk) d1 (k H locs lsa hP hD hS hn hh)
theorem zw_ldc2 {idx : Nat} {v : Int64} (X : CX g M) (d : Dc M pc pc1 (.ldc2_w idx) 3) (hk : Cond.constantLong (mY M).cls idx v ∈ lw_gd) (k : ZW g pc1 ls (.long v :: st) σ) : ZW g pc ls st σ := by
  obtain ⟨⟨p, l, e, R, s, m, args, below, meth, c⟩, D, ad, cA, A, ⟨kc, ks⟩, Q⟩ := g
  obtain ⟨hx, hb, hml, hown, hts, hN, hK, hA, hR, hRc⟩ := X
  obtain ⟨d1, rfl⟩ := d
  intro H locs lsa hP hD hS hn hh
  exact lv_ldc2 hx hb hown (hts _ hk) d1 (k H locs lsa hP hD hS hn hh)
theorem zw_getI {idx ci j p0 : Nat} {kd : List (Option Nat)} (X : CX g M) (d : Dc M pc pc1 (.getfield idx) 3) (f : fLk (mY M).cls idx ci j) (hc : cOk ci) (hs : sh p0 = .inl (ci, kd)) (hj : kd[j]? = some none) (k : ZW g pc1 ls (.int (σ p0 j) :: st) σ) : ZW g pc ls (.ref p0 :: st) σ := by
  obtain ⟨⟨p, l, e, R, s, m, args, below, meth, c⟩, D, ad, cA, A, ⟨kc, ks⟩, Q⟩ := g
  obtain ⟨hx, hb, hml, hown, hts, hN, hK, hA, hR, hRc⟩ := X
  obtain ⟨d1, rfl⟩ := d
  intro H locs lsa hP hD hS hn hh
  obtain ⟨C, T, N, f1, f2, f3, f4⟩ := f
  obtain ⟨C', T', N', ty, g1, g2, g3, g4, -⟩ := hc
  cases f1.symm.trans g1
  subst f3
  exact va_get hx hb hts g2 hown hK hP p0 (wl_obj hs) f1 j f2 (hts _ f4) (fun _ h9 => h9) (v := .int (σ p0 j)) (by rw [fv_at, hj]; simp) d1 (k H locs lsa hP hD hS hn hh)
theorem zw_getR {idx ci j p0 q0 : Nat} {kd : List (Option Nat)} (X : CX g M) (d : Dc M pc pc1 (.getfield idx) 3) (f : fLk (mY M).cls idx ci j) (hc : cOk ci) (hs : sh p0 = .inl (ci, kd)) (hj : kd[j]? = some (some q0)) (k : ZW g pc1 ls (.ref q0 :: st) σ) : ZW g pc ls (.ref p0 :: st) σ := by
  obtain ⟨⟨p, l, e, R, s, m, args, below, meth, c⟩, D, ad, cA, A, ⟨kc, ks⟩, Q⟩ := g
  obtain ⟨hx, hb, hml, hown, hts, hN, hK, hA, hR, hRc⟩ := X
  obtain ⟨d1, rfl⟩ := d
  intro H locs lsa hP hD hS hn hh
  obtain ⟨C, T, N, f1, f2, f3, f4⟩ := f
  obtain ⟨C', T', N', ty, g1, g2, g3, g4, -⟩ := hc
  cases f1.symm.trans g1
  subst f3
  exact va_get hx hb hts g2 hown hK hP p0 (wl_obj hs) f1 j f2 (hts _ f4) (fun _ h9 => h9) (v := .ref (ad q0)) (by rw [fv_at, hj]; simp) d1 (k H locs lsa hP hD hS hn hh)
/-- what field j of class ci is: not final, of type ty -/
def fTy (ci j : Nat) (ty : FieldType) : Prop := ∃ (C : String) (T : u_T) (N : Nat), cls[ci]? = some (C, T, N) ∧ (T j).2.2.2 = false ∧ parseFieldDescriptor (T j).2.2.1 = some ty
theorem zw_putT {idx ci j p0 : Nat} {kd : List (Option Nat)} {x : Int32} (ty : FieldType) (hn1 : narrow ty (.int x) = .int x) (hn2 : fits ty (.int x) = true) (X : CX g M) (d : Dc M pc pc1 (.putfield idx) 3) (f : fLk (mY M).cls idx ci j) (hc : cOk ci) (ht : fTy ci j ty) (hs : sh p0 = .inl (ci, kd)) (hj : kd[j]? = some none) (k : ZW g pc1 ls st (ups σ p0 j x)) : ZW g pc ls (.int x :: .ref p0 :: st) σ := by
  obtain ⟨⟨p, l, e, R, s, m, args, below, meth, c⟩, D, ad, cA, A, ⟨kc, ks⟩, Q⟩ := g
  obtain ⟨hx, hb, hml, hown, hts, hN, hK, hA, hR, hRc⟩ := X
  obtain ⟨d1, rfl⟩ := d
  intro H locs lsa hP hD hS hn hh
  obtain ⟨C, T, N, f1, f2, f3, f4⟩ := f
  obtain ⟨C', T', N', ty0, g1, g2, g3, g4, -⟩ := hc
  obtain ⟨C2, T2, N2, t1, t2, t3⟩ := ht
  cases f1.symm.trans g1
  cases f1.symm.trans t1
  subst f3
  refine va_put hx hb hts g2 ty0 g3 g4 hown hK hP hD hS p0 (wl_obj hs) f1 j f2 (hts _ f4) (fun _ h9 => h9) t2 (v := .int x) t3 hn1 hn2 (by rw [fv_len]; exact (List.getElem?_eq_some_iff.mp hj).1) d1 (fun H1 locs1 hP1 hD1 hS1 => ?_)
  rw [wl_putO hs hj] at hP1 hD1
  exact k H1 locs1 lsa hP1 hD1 hS1 hn hh
theorem zw_put {idx ci j p0 : Nat} {kd : List (Option Nat)} {x : Int32} (X : CX g M) (d : Dc M pc pc1 (.putfield idx) 3) (f : fLk (mY M).cls idx ci j) (hc : cOk ci) (ht : fTy ci j .int) (hs : sh p0 = .inl (ci, kd)) (hj : kd[j]? = some none) (k : ZW g pc1 ls st (ups σ p0 j x)) : ZW g pc ls (.int x :: .ref p0 :: st) σ := zw_putT .int rfl rfl X d f hc ht hs hj k
theorem zw_iald {p0 n : Nat} {i : Int32} (X : CX g M) (d : Dc M pc pc1 .iaload 1) (hs : sh p0 = .inr (n, false)) (hi : vp_in i n) (k : ZW g pc1 ls (.int (σ p0 i.toNatClampNeg) :: st) σ) : ZW g pc ls (.int i :: .ref p0 :: st) σ := by
  obtain ⟨⟨p, l, e, R, s, m, args, below, meth, c⟩, D, ad, cA, A, ⟨kc, ks⟩, Q⟩ := g
  obtain ⟨hx, hb, hml, hown, hts, hN, hK, hA, hR, hRc⟩ := X
  obtain ⟨d1, rfl⟩ := d
  intro H locs lsa hP hD hS hn hh
  have hn0 : 0 < n := by rcases Nat.eq_zero_or_pos n with h | h; (subst h; exact absurd (Or.inr (Nat.zero_le _)) hi); exact h
  exact va_iald hx hb hK hP p0 p0 (wl_arr hs hn0) (ty_arr hs hn0) hi d1 (k H locs lsa hP hD hS hn hh)
theorem zw_zald {p0 n : Nat} {i : Int32} (X : CX g M) (d : Dc M pc pc1 .baload 1) (hs : sh p0 = .inr (n, true)) (hi : vp_in i n) (k : ZW g pc1 ls (.int (σ p0 i.toNatClampNeg) :: st) σ) : ZW g pc ls (.int i :: .ref p0 :: st) σ := by
  obtain ⟨⟨p, l, e, R, s, m, args, below, meth, c⟩, D, ad, cA, A, ⟨kc, ks⟩, Q⟩ := g
  obtain ⟨hx, hb, hml, hown, hts, hN, hK, hA, hR, hRc⟩ := X
  obtain ⟨d1, rfl⟩ := d
  intro H locs lsa hP hD hS hn hh
  have hn0 : 0 < n := by rcases Nat.eq_zero_or_pos n with h | h; (subst h; exact absurd (Or.inr (Nat.zero_le _)) hi); exact h
  exact va_zald hx hb hK hP p0 p0 (wl_arr hs hn0) (ty_arrZ hs) hi d1 (k H locs lsa hP hD hS hn hh)
theorem zw_iast {p0 n : Nat} {i x : Int32} (X : CX g M) (d : Dc M pc pc1 .iastore 1) (hs : sh p0 = .inr (n, false)) (hi : vp_in i n) (k : ZW g pc1 ls st (ups σ p0 i.toNatClampNeg x)) : ZW g pc ls (.int x :: .int i :: .ref p0 :: st) σ := by
  obtain ⟨⟨p, l, e, R, s, m, args, below, meth, c⟩, D, ad, cA, A, ⟨kc, ks⟩, Q⟩ := g
  obtain ⟨hx, hb, hml, hown, hts, hN, hK, hA, hR, hRc⟩ := X
  obtain ⟨d1, rfl⟩ := d
  intro H locs lsa hP hD hS hn hh
  have hn0 : 0 < n := by rcases Nat.eq_zero_or_pos n with h | h; (subst h; exact absurd (Or.inr (Nat.zero_le _)) hi); exact h
  refine va_iast hx hb hK hP hD hS p0 p0 (wl_arr hs hn0) (ty_arr hs hn0) hi d1 (fun H1 locs1 hP1 hD1 hS1 => ?_)
  rw [wl_putA hs] at hP1 hD1
  exact k H1 locs1 lsa hP1 hD1 hS1 hn hh
theorem zw_zast {p0 n : Nat} {i x : Int32} (X : CX g M) (d : Dc M pc pc1 .bastore 1) (hs : sh p0 = .inr (n, true)) (hi : vp_in i n) (hx1 : vp_nar .boolean x = x) (k : ZW g pc1 ls st (ups σ p0 i.toNatClampNeg x)) : ZW g pc ls (.int x :: .int i :: .ref p0 :: st) σ := by
  obtain ⟨⟨p, l, e, R, s, m, args, below, meth, c⟩, D, ad, cA, A, ⟨kc, ks⟩, Q⟩ := g
  obtain ⟨hx, hb, hml, hown, hts, hN, hK, hA, hR, hRc⟩ := X
  obtain ⟨d1, rfl⟩ := d
  intro H locs lsa hP hD hS hn hh
  have hn0 : 0 < n := by rcases Nat.eq_zero_or_pos n with h | h; (subst h; exact absurd (Or.inr (Nat.zero_le _)) hi); exact h
  refine va_zast hx hb hK hP hD hS p0 p0 (wl_arr hs hn0) (ty_arrZ hs) hi d1 (fun H1 locs1 hP1 hD1 hS1 => ?_)
  rw [hx1, wl_putA hs] at hP1 hD1
  exact k H1 locs1 lsa hP1 hD1 hS1 hn hh
theorem zw_ialdN {p0 n i : Nat} (X : CX g M) (d : Dc M pc pc1 .iaload 1) (hs : sh p0 = .inr (n, false)) (hi : i < n) (hn9 : n < 2 ^ 31) (k : ZW g pc1 ls (.int (σ p0 i) :: st) σ) : ZW g pc ls (.int (nI i) :: .ref p0 :: st) σ :=
  zw_iald X d hs (vp_in_nI hi hn9) (by rw [nI_clamp (by omega)]; exact k)
theorem zw_iastN {p0 n i : Nat} {x : Int32} (X : CX g M) (d : Dc M pc pc1 .iastore 1) (hs : sh p0 = .inr (n, false)) (hi : i < n) (hn9 : n < 2 ^ 31) (k : ZW g pc1 ls st (ups σ p0 i x)) : ZW g pc ls (.int x :: .int (nI i) :: .ref p0 :: st) σ :=
  zw_iast X d hs (vp_in_nI hi hn9) (by rw [nI_clamp (by omega)]; exact k)
end ZS
end
section
def bI (b : Bool) : Int32 := if b then 1 else 0
theorem bI_t : bI true = 1 := rfl
theorem bI_f : bI false = 0 := rfl
/-! contracts -/
def ctP (D : va_G) (ad : Nat → Nat) (cA : Nat → ClassId) (σ : St) (sz : Nat) (as : List Value) : Array Value → State → Prop := va_Pc (as.map (cv ad)) (fun U => U.heap.size = sz ∧ va_P D cls (wl ad cA σ) U.heap ∧ va_K D cls (tyl cA) U ∧ va_D (fun _ => True) (wl ad cA σ) ∧ Nst U)
def ctQ (D : va_G) (ad : Nat → Nat) (cA : Nat → ClassId) (σ : St) (sz : Nat) (v : Option Value) (σ' : St) : Array Value → State → Outcome → State → Prop := fun _ st oc t => (oc = .returned (v.map (cv ad)) ∧ va_P D cls (wl ad cA σ') t.heap ∧ va_D (va_A (wl ad cA σ) sz) (wl ad cA σ')) ∧ va_F (va_A (wl ad cA σ) sz) st t
/-- method M, called with as in the world σ, answers v and leaves the world σ' -/
def Ct (M : Mt) (as : List Value) (σ : St) (v : Option Value) (σ' : St) : Prop := ∀ (l : Launch) (D : va_G) (ad : Nat → Nat) (cA : Nat → ClassId) (sz : Nat), Met l (mY M) (mWs M) (mRm M) (ctP D ad cA σ sz as) (ctQ D ad cA σ sz v σ') 0 0 (va_A (wl ad cA σ) sz)
def Fin (g : Gt) (M : Mt) (v : Option Value) (σ' : St) : Prop := match g with
  | ((p, l, e, R, s, m, args, below, meth, c), D, ad, cA, A, (kc, ks), Q) => ∃ σ0 : St, Q = MQ below (ctQ D ad cA σ0 s.heap.size v σ') args s kc ks (va_A (wl ad cA σ0) s.heap.size) ∧ A = va_A (wl ad cA σ0) s.heap.size ∧ meth.locks = false ∧ meth.sig.returnType = mR M
theorem nst_on : ∀ w ∈ nst, w.onTables = true := by decide +kernel
theorem nst_same {u U : State} (h : u.vm = U.vm) (hN : Nst u) : Nst U := fun w hw => va_Nw.same (nst_on w hw) h (hN w hw)
theorem nst_warm {s U : State} (hW : s.WarmedH U.vm) (hN : Nst s) : Nst U := by
  intro w hw
  have h := hN w hw
  simp only [nst, List.mem_cons, List.not_mem_nil, or_false] at hw
  rcases hw with rfl | rfl
  · exact va_Nw.warmM hW h
  · exact va_Nw.warmM hW h
theorem ctP_blind {D : va_G} {ad : Nat → Nat} {cA : Nat → ClassId} {σ : St} {sz : Nat} {as : List Value} : FrameBlind (ctP D ad cA σ sz as) := by
  intro a U g mk q
  obtain ⟨q0, q1, qP, qK, qD, qN⟩ := q
  exact ⟨q0, q1, qP, va_K.moved (u := U) (U := U.calling g mk a) (Vm.Alike.refl U.vm) qK, qD, nst_same (u := U) (U := U.calling g mk a) rfl qN⟩
theorem lvl_args {ad : Nat → Nat} {n : Nat} : ∀ (as : List Value) (i : Nat), (as.all (fun v => v.category == 1)) = true → ∀ q ∈ lvl ad i (as.map some ++ List.replicate n none), q ∈ lv_args i (as.map (cv ad))
  | [], i, _, q, hq => by
    obtain ⟨k, v, h1, -⟩ := lvl_mem hq
    rw [List.map_nil, List.nil_append, List.getElem?_replicate] at h1
    split at h1 <;> cases h1
  | a :: as, i, h, q, hq => by
    simp only [List.all_cons, Bool.and_eq_true, beq_iff_eq] at h
    simp only [List.map_cons, List.cons_append, lvl] at hq
    simp only [List.map_cons, lv_args, cv_cat, h.1]
    rcases List.mem_cons.mp hq with hq | hq
    · rw [hq]; exact List.mem_cons_self
    · exact List.mem_cons_of_mem _ (lvl_args as (i + 1) h.2 q hq)
theorem lg_sl_len {ad : Nat → Nat} : ∀ (as : List Value), (as.all (fun v => v.category == 1)) = true → (lg_sl (as.map (cv ad))).length = as.length
  | [], _ => rfl
  | a :: as, h => by
    simp only [List.all_cons, Bool.and_eq_true, beq_iff_eq] at h
    have := lg_sl_len (ad := ad) as h.2
    simp only [lg_sl, List.map_cons, List.flatMap_cons, cv_cat, h.1, List.length_append] at this ⊢
    simp [this]; omega
theorem ct_of {M : Mt} {n : Nat} {as : List Value} {σ σ' : St} {v : Option Value} {ls0 : List (Option Value)} (ok : mOk M n) (hc : (as.all (fun v => v.category == 1)) = true) (hl : as.length ≤ mL M) (hls : as.map some ++ List.replicate (mL M - as.length) none = ls0)
    (body : ∀ g : Gt, CX g M → Fin g M v σ' → ZW g 0 ls0 [] σ) : Ct M as σ v σ' := by
  intro l D ad cA sz
  refine Met.ofW (cc := mC M) (maxL := mL M) (ret := mR M) ok.2.2.2 rfl ?_
  intro p e s m args below meth c s₁ B hml hv
  obtain ⟨rfl, hsz, hP, hK, hD0, hN⟩ := hv
  subst hsz
  have hts := atoms_spec (ws := mWs M) B.pre
  have hl1 := lv_entry (as.map (cv ad)) (n := mL M) (by rw [lg_sl_len as hc]; exact hl)
  rw [lg_entry_eq]
  generalize (lg_sl (as.map (cv ad)) ++ List.replicate (mL M - (lg_sl (as.map (cv ad))).length) Slot.unset).toArray = lsa at hl1 ⊢
  subst hls
  refine body ((p, l, e, mRm M, s, m, (as.map (cv ad)).toArray, below, meth, c), D, ad, cA, va_A (wl ad cA σ) s.heap.size, (0, 0), _) ⟨B.exec, B.bytes, hml, findClass_of_methodNamed B.named, fun w hw => hts w (List.mem_cons_of_mem _ hw), hN, hK, fun q h => Or.inr h, ⟨Nat.le_refl _, Nat.le_refl _⟩, ⟨Nat.le_refl _, Nat.le_refl _⟩⟩ ⟨σ, rfl, rfl, B.notSynchronized, B.returns⟩ s.heap [] lsa hP hD0.self va_S.rf ?_ ?_
  · rw [hml]; simp; omega
  · rw [hml]; exact lv_mono hl1 (lvl_args as 0 hc)
section ZC
variable {g : Gt} {M : Mt} {pc pc1 : Nat} {ls : List (Option Value)} {st : List Value} {σ : St}
theorem zw_iret {x y : Int32} {σ' : St} (X : CX g M) (F : Fin g M (some (.int y)) σ') (d : Dc M pc pc1 .ireturn 1) (hr : mR M = some .int) (hxy : x = y) (hσ : σ = σ') : ZW g pc ls [.int x] σ := by
  obtain ⟨⟨p, l, e, R, s, m, args, below, meth, c⟩, D, ad, cA, A, ⟨kc, ks⟩, Q⟩ := g
  obtain ⟨hx, hb, hml, hown, hts, hN, hK, hA, hR, hRc⟩ := X
  obtain ⟨d1, rfl⟩ := d
  intro H locs lsa hP hD hS hn hh
  subst hxy; subst hσ
  obtain ⟨σ0, rfl, rfl, hlk, hrt⟩ := F
  exact W.iret (v := x) hx hb (hrt.trans hr) (fun t ht hW => ⟨⟨rfl, by rw [ht]; exact hP, hD⟩, hS.F ht⟩) hS.2.2 d1 hlk
theorem zw_zret {x : Int32} {y : Bool} {σ' : St} (X : CX g M) (F : Fin g M (some (.int (bI y))) σ') (d : Dc M pc pc1 .ireturn 1) (hr : mR M = some .boolean) (hxy : x = bI y) (hσ : σ = σ') : ZW g pc ls [.int x] σ := by
  obtain ⟨⟨p, l, e, R, s, m, args, below, meth, c⟩, D, ad, cA, A, ⟨kc, ks⟩, Q⟩ := g
  obtain ⟨hx, hb, hml, hown, hts, hN, hK, hA, hR, hRc⟩ := X
  obtain ⟨d1, rfl⟩ := d
  intro H locs lsa hP hD hS hn hh
  subst hxy; subst hσ
  obtain ⟨σ0, rfl, rfl, hlk, hrt⟩ := F
  exact W.zret (v := bI y) hx hb (hrt.trans hr) (by cases y <;> decide) (fun t ht hW => ⟨⟨rfl, by rw [ht]; exact hP, hD⟩, hS.F ht⟩) hS.2.2 d1 hlk
theorem zw_vret {σ' : St} (X : CX g M) (F : Fin g M none σ') (d : Dc M pc pc1 .return_ 1) (hr : mR M = none) (hσ : σ = σ') : ZW g pc ls [] σ := by
  obtain ⟨⟨p, l, e, R, s, m, args, below, meth, c⟩, D, ad, cA, A, ⟨kc, ks⟩, Q⟩ := g
  obtain ⟨hx, hb, hml, hown, hts, hN, hK, hA, hR, hRc⟩ := X
  obtain ⟨d1, rfl⟩ := d
  intro H locs lsa hP hD hS hn hh
  subst hσ
  obtain ⟨σ0, rfl, rfl, hlk, hrt⟩ := F
  exact W.vret hx hb (hrt.trans hr) (fun t ht hW => ⟨⟨rfl, by rw [ht]; exact hP, hD⟩, hS.F ht⟩) hS.2.2 d1 hlk
theorem zw_lret {x y : Int64} {σ' : St} (X : CX g M) (F : Fin g M (some (.long y)) σ') (d : Dc M pc pc1 .lreturn 1) (hr : mR M = some .long) (hxy : x = y) (hσ : σ = σ') : ZW g pc ls [.long x] σ := by
  obtain ⟨⟨p, l, e, R, s, m, args, below, meth, c⟩, D, ad, cA, A, ⟨kc, ks⟩, Q⟩ := g
  obtain ⟨hx, hb, hml, hown, hts, hN, hK, hA, hR, hRc⟩ := X
  obtain ⟨d1, rfl⟩ := d
  intro H locs lsa hP hD hS hn hh
  subst hxy; subst hσ
  obtain ⟨σ0, rfl, rfl, hlk, hrt⟩ := F
  exact W.lret (v := x) hx hb (hrt.trans hr) (fun t ht hW => ⟨⟨rfl, by rw [ht]; exact hP, hD⟩, hS.F ht⟩) hS.2.2 d1 hlk
theorem zw_aret {x : Nat} {C : String} {σ' : St} (X : CX g M) (F : Fin g M (some (.ref x)) σ') (d : Dc M pc pc1 .areturn 1) (hr : mR M = some (.object C)) (hσ : σ = σ') : ZW g pc ls [.ref x] σ := by
  obtain ⟨⟨p, l, e, R, s, m, args, below, meth, c⟩, D, ad, cA, A, ⟨kc, ks⟩, Q⟩ := g
  obtain ⟨hx, hb, hml, hown, hts, hN, hK, hA, hR, hRc⟩ := X
  obtain ⟨d1, rfl⟩ := d
  intro H locs lsa hP hD hS hn hh
  subst hσ
  obtain ⟨σ0, rfl, rfl, hlk, hrt⟩ := F
  exact W.aret (v := .ref (ad x)) hx hb (hrt.trans hr) (Or.inl ⟨_, rfl⟩) (Or.inr ⟨_, rfl⟩) (fun t ht hW => ⟨⟨rfl, by rw [ht]; exact hP, hD⟩, hS.F ht⟩) hS.2.2 d1 hlk
end ZC
/-- behind a call -/
theorem zw_back {p : Program} {l : Launch} {e : Env} {R : Room} {s : State} {m : MethodId} {args : Array Value} {below : List Frame} {meth : Method} {c : Code} {H : Heap} {locs : List Loc} {kc ks pc : Nat} {Q : State → Prop} {D : va_G} {ad : Nat → Nat} {cA : Nat → ClassId} {A : Nat → Prop} {σ σ' : St} {v : Option Value} {lsa : Array Slot} {st0 rest : List Value} {a : Array Value}
    (hr : va_Run p l e R s m args below meth c H locs kc ks 0 0 (F0 m pc lsa st0) rest (ctQ D ad cA σ H.size v σ' a) (va_A (wl ad cA σ) H.size)) (hD : va_D A (wl ad cA σ)) (hS : va_S A s.heap H locs) (hA : ∀ q, s.heap.size ≤ q → A q)
    (kk : ∀ (H1 : Heap) (locs1 : List Loc), va_P D cls (wl ad cA σ') H1 → va_D A (wl ad cA σ') → va_S A s.heap H1 locs1 → W p l e R s m args below meth c H1 locs1 kc ks Q (F0 m (pc + 3) lsa ((v.map (cv ad)).toList ++ rest))) : W p l e R s m args below meth c H locs kc ks Q (F0 m pc lsa st0) := by
  intro T hT X
  obtain ⟨v', st₀, t, T', L, h0, X', hL, e1, e2, ⟨⟨hv, hP1, hD1⟩, hz, hk⟩, stp⟩ := hr T hT X
  cases hv
  rw [h0] at hz hk
  have hF : ∀ q, va_A (wl ad cA σ) H.size q → A q := by
    intro q h
    rcases h with ⟨k, ee, h⟩ | h
    · exact hD.2 k (q, ee) h
    · exact hA q (Nat.le_trans hS.1 h)
  obtain ⟨t2, a1, b1⟩ := kk T'.heap (locs ++ L) (by rw [e1]; exact hP1) (hD1.weaken (fun _ _ _ h => hF _ h)) ⟨Nat.le_trans hS.1 (by rw [e1]; exact hz), fun q h1 h2 => by rw [e1, hk q (Nat.lt_of_lt_of_le h1 hS.1) (fun z => h2 (hF q z))]; exact hS.2.1 q h1 h2, fun q hq => by
      rcases List.mem_append.mp hq with h | h
      · exact hS.2.2 q h
      · exact hF _ (hL q h)⟩ T' rfl X'
  exact ⟨t2, stp t2 a1, b1⟩
def rmOk (M M1 : Mt) : Prop := mF M1 + 1 ≤ mF M ∧ 8 + (mL M1 + 11) + mO M1 ≤ mO M
theorem gd_in {M : Mt} {n : Nat} (ok : mOk M n) : GoodIn lw_gd (mWs M) := by
  intro w hw
  rcases List.mem_cons.mp hw with h | h
  · rw [h]; exact ⟨ok.1, gd_good _ ok.1⟩
  · exact ⟨h, gd_good _ h⟩
theorem cat_map (ad : Nat → Nat) (st : List Value) : ((st.map (cv ad)).map fun v => v.category) = st.map fun v => v.category := by
  rw [List.map_map]
  exact List.map_congr_left (fun v _ => cv_cat ad v)
theorem ct_pre {D : va_G} {ad : Nat → Nat} {cA : Nat → ClassId} {σ : St} {as : List Value} {s : State} {H : Heap} {A : Nat → Prop} (hP : va_P D cls (wl ad cA σ) H) (hD : va_D A (wl ad cA σ)) (hK : va_K D cls (tyl cA) s) (hN : Nst s) : ∀ U : State, U.heap = H → s.WarmedH U.vm → ctP D ad cA σ H.size as (as.map (cv ad)).toArray U := by
  intro U hU hW
  exact ⟨rfl, by rw [hU], by rw [hU]; exact hP, va_K.moved hW.alike hK, hD.weaken (fun _ _ _ _ => trivial), nst_warm hW hN⟩
section ZD
variable {g : Gt} {M M1 : Mt} {pc pc1 idx n : Nat} {ls : List (Option Value)} {st : List Value} {σ σ' : St} {v : Option Value}
theorem zw_callV {b ci : Nat} {kd : List (Option Nat)} {As stk : List Value} (X : CX g M) (d : Dc M pc pc1 (.invokevirtual idx) 3) (lk : mLk (mY M).cls idx M1) (ok : mOk M1 n) (vi : mVirt M1) (hrm : rmOk M M1) (hs : sh b = .inl (ci, kd)) (hcl : (cls[ci]?).map (fun q => q.1) = some (mY M1).cls) (hn0 : As.length = n) (hst : stk = As.reverse ++ .ref b :: st) (hcat : (st.map fun v => v.category).sum ≤ 8) (ct : Ct M1 (.ref b :: As) σ v σ')
    (k : ZW g pc1 ls (v.toList ++ st) σ') : ZW g pc ls stk σ := by
  obtain ⟨⟨p, l, e, R, s, m, args, below, meth, c⟩, D, ad, cA, A, ⟨kc, ks⟩, Q⟩ := g
  obtain ⟨hx, hb, hml, hown, hts, hN, hK, hA, hR, hRc⟩ := X
  obtain ⟨d1, rfl⟩ := d
  intro H locs lsa hP hD hS hn hh
  subst hst
  obtain ⟨q, hq1, hq2⟩ : ∃ q, cls[ci]? = some q ∧ q.1 = (mY M1).cls := by
    cases hq : cls[ci]? with
    | none => rw [hq] at hcl; cases hcl
    | some q => rw [hq] at hcl; exact ⟨q, rfl, Option.some.inj hcl⟩
  have cb : CallB R s args (mY M).cls idx (mY M1) (mC M1) (mL M1) (mR M1) (mWs M1) (mRm M1) 0 0 n := callB_of n hts (gd_in ok) rfl rfl rfl (hts _ ok.2.1) (hts _ lk) ok.2.2.1 ⟨Nat.le_trans hrm.1 hR.1, Nat.le_trans hrm.2 hR.2⟩
  refine zw_back (v := v) (va_runV (C := (mY M1).cls) (b := ad b) (As := As.map (cv ad)) (rest := st.map (cv ad)) (g := F0 m pc lsa ((As.reverse ++ .ref b :: st).map (cv ad))) ⟨hx, hb, rfl, hown, hts⟩ (ct l D ad cA H.size) ⟨cb, hts _ vi.1, hts _ vi.2⟩ ⟨ctP_blind, ?_, ct_pre (as := .ref b :: As) hP hD hK hN⟩ rfl (by rw [List.length_map]; exact hn0) hh.1 (by simp [cv]) (by show 2 * 0 + _ ≤ 8; rw [cat_map]; omega) d1 ⟨hRc.1, hRc.2⟩) hD hS hA (fun H1 locs1 hP1 hD1 hS1 => ?_)
  · rw [← hq2]; exact va_recv hK hP hq1 (wl_obj hs)
  · have h1 := k H1 locs1 lsa hP1 hD1 hS1 hn hh
    rw [List.map_append] at h1
    cases v with
    | none => exact h1
    | some w => exact h1
theorem zw_callS {As stk : List Value} (X : CX g M) (d : Dc M pc pc1 (.invokestatic idx) 3) (lk : mLk (mY M).cls idx M1) (ok : mOk M1 n) (hstt : mStat M1) (hrm : rmOk M M1) (hn0 : As.length = n) (hst : stk = As.reverse ++ st) (hcat : (st.map fun v => v.category).sum ≤ 8) (ct : Ct M1 As σ v σ')
    (k : ZW g pc1 ls (v.toList ++ st) σ') : ZW g pc ls stk σ := by
  obtain ⟨⟨p, l, e, R, s, m, args, below, meth, c⟩, D, ad, cA, A, ⟨kc, ks⟩, Q⟩ := g
  obtain ⟨hx, hb, hml, hown, hts, hN, hK, hA, hR, hRc⟩ := X
  obtain ⟨d1, rfl⟩ := d
  intro H locs lsa hP hD hS hn hh
  subst hst
  have cb : CallB R s args (mY M).cls idx (mY M1) (mC M1) (mL M1) (mR M1) (mWs M1) (mRm M1) 0 0 n := callB_of n hts (gd_in ok) rfl rfl rfl (hts _ ok.2.1) (hts _ lk) ok.2.2.1 ⟨Nat.le_trans hrm.1 hR.1, Nat.le_trans hrm.2 hR.2⟩
  refine zw_back (v := v) (va_runS (As := As.map (cv ad)) (rest := st.map (cv ad)) (g := F0 m pc lsa ((As.reverse ++ st).map (cv ad))) ⟨hx, hb, rfl, hown, hts⟩ (ct l D ad cA H.size) ⟨cb, hts _ hstt⟩ ⟨ctP_blind, ct_pre (as := As) hP hD hK hN⟩ rfl (by rw [List.length_map]; exact hn0) hh.1 (by simp) (by show 2 * 0 + _ ≤ 8; rw [cat_map]; omega) d1 ⟨hRc.1, hRc.2⟩) hD hS hA (fun H1 locs1 hP1 hD1 hS1 => ?_)
  have h1 := k H1 locs1 lsa hP1 hD1 hS1 hn hh
  rw [List.map_append] at h1
  cases v with
  | none => exact h1
  | some w => exact h1
theorem zw_callSN {host : String} {As stk : List Value} (X : CX g M) (d : Dc M pc pc1 (.invokestatic idx) 3) (lk : Cond.methodLinkNest (mY M).cls idx (mY M1) host ∈ nst) (ok : mOk M1 n) (hstt : mStat M1) (hrm : rmOk M M1) (hn0 : As.length = n) (hst : stk = As.reverse ++ st) (hcat : (st.map fun v => v.category).sum ≤ 8) (ct : Ct M1 As σ v σ')
    (k : ZW g pc1 ls (v.toList ++ st) σ') : ZW g pc ls stk σ := by
  obtain ⟨⟨p, l, e, R, s, m, args, below, meth, c⟩, D, ad, cA, A, ⟨kc, ks⟩, Q⟩ := g
  obtain ⟨hx, hb, hml, hown, hts, hN, hK, hA, hR, hRc⟩ := X
  obtain ⟨d1, rfl⟩ := d
  intro H locs lsa hP hD hS hn hh
  subst hst
  have cb : va_CN R s args (mY M).cls idx (mY M1) host (mC M1) (mL M1) (mR M1) (mWs M1) (mRm M1) 0 0 n := va_cnB n hts (gd_in ok) rfl rfl rfl (hN _ lk) (hts _ ok.2.1) ok.2.2.1 ⟨Nat.le_trans hrm.1 hR.1, Nat.le_trans hrm.2 hR.2⟩
  refine zw_back (v := v) (va_runSN (host := host) (As := As.map (cv ad)) (rest := st.map (cv ad)) (g := F0 m pc lsa ((As.reverse ++ st).map (cv ad))) ⟨hx, hb, rfl, hown, hts⟩ (ct l D ad cA H.size) ⟨cb, hts _ hstt, trivial⟩ ⟨ctP_blind, ct_pre (as := As) hP hD hK hN⟩ rfl (by rw [List.length_map]; exact hn0) hh.1 (by simp) (by show 2 * 0 + _ ≤ 8; rw [cat_map]; omega) d1 ⟨hRc.1, hRc.2⟩) hD hS hA (fun H1 locs1 hP1 hD1 hS1 => ?_)
  have h1 := k H1 locs1 lsa hP1 hD1 hS1 hn hh
  rw [List.map_append] at h1
  cases v with
  | none => exact h1
  | some w => exact h1
theorem zw_max {x y : Int32} (X : CX g M) (d : Dc M pc pc1 (.invokestatic idx) 3) (lk : Cond.methodLink (mY M).cls idx Lib.Math.max.name ∈ lw_gd) (w1 : Cond.static Lib.Math.max.name ∈ lw_gd) (w2 : Cond.initialized "java/lang/Math" ∈ lw_gd) (w3 : Cond.code Lib.Math.max.name Lib.Math.max.code 2 (some .int) ∈ lw_gd) (hrm : 1 ≤ mF M ∧ 21 ≤ mO M) (hcat : (st.map fun v => v.category).sum ≤ 8) (k : ZW g pc1 ls (.int (if x < y then y else x) :: st) σ) : ZW g pc ls (.int y :: .int x :: st) σ := by
  obtain ⟨⟨p, l, e, R, s, m, args, below, meth, c⟩, D, ad, cA, A, ⟨kc, ks⟩, Q⟩ := g
  obtain ⟨hx, hb, hml, hown, hts, hN, hK, hA, hR, hRc⟩ := X
  obtain ⟨d1, rfl⟩ := d
  intro H locs lsa hP hD hS hn hh
  exact va_mmax hx hb hh.1.symm hown (hts _ lk) (hts _ w1) (hts _ w2) (hts _ w3) (Nat.le_trans hrm.1 hR.1) (by rw [cat_map]; have := hR.2; omega) hRc.1 hRc.2 d1 (k H locs lsa hP hD hS hn hh)
theorem zw_min {x y : Int32} (X : CX g M) (d : Dc M pc pc1 (.invokestatic idx) 3) (lk : Cond.methodLink (mY M).cls idx Lib.Math.min.name ∈ lw_gd) (w1 : Cond.static Lib.Math.min.name ∈ lw_gd) (w2 : Cond.initialized "java/lang/Math" ∈ lw_gd) (w3 : Cond.code Lib.Math.min.name Lib.Math.min.code 2 (some .int) ∈ lw_gd) (hrm : 1 ≤ mF M ∧ 21 ≤ mO M) (hcat : (st.map fun v => v.category).sum ≤ 8) (k : ZW g pc1 ls (.int (if y < x then y else x) :: st) σ) : ZW g pc ls (.int y :: .int x :: st) σ := by
  obtain ⟨⟨p, l, e, R, s, m, args, below, meth, c⟩, D, ad, cA, A, ⟨kc, ks⟩, Q⟩ := g
  obtain ⟨hx, hb, hml, hown, hts, hN, hK, hA, hR, hRc⟩ := X
  obtain ⟨d1, rfl⟩ := d
  intro H locs lsa hP hD hS hn hh
  exact va_mmin hx hb hh.1.symm hown (hts _ lk) (hts _ w1) (hts _ w2) (hts _ w3) (Nat.le_trans hrm.1 hR.1) (by rw [cat_map]; have := hR.2; omega) hRc.1 hRc.2 d1 (k H locs lsa hP hD hS hn hh)
/-- another way to write what is on top -/
theorem zw_top {x y : Int32} (h : x = y) (k : ZW g pc ls (.int y :: st) σ) : ZW g pc ls (.int x :: st) σ := by subst h; exact k
theorem zw_wld (h : σ = σ') (k : ZW g pc ls st σ') : ZW g pc ls st σ := by subst h; exact k
theorem zw_ls {ls' : List (Option Value)} (h : ls = ls') (k : ZW g pc ls' st σ) : ZW g pc ls st σ := by subst h; exact k
theorem zw_bif (b : Bool) {x : Int32} (h : x = bI b) (kt : b = true → ZW g pc ls (.int 1 :: st) σ) (kf : b = false → ZW g pc ls (.int 0 :: st) σ) : ZW g pc ls (.int x :: st) σ := by
  subst h; cases b
  · exact kf rfl
  · exact kt rfl
theorem zw_ifeqB {b : Bool} {off : Int} {tgt : Nat} (X : CX g M) (d : Dc M pc pc1 (.ifCond .eq off) 3) (ht : (pc : Int) + off = (tgt : Int)) (kt : b = false → ZW g tgt ls st σ) (kf : b = true → ZW g pc1 ls st σ) : ZW g pc ls (.int (bI b) :: st) σ :=
  zw_ifeq X d ht (fun h => kt (by cases b; rfl; exact absurd h (by decide))) (fun h => kf (by cases b; exact absurd rfl h; rfl))
theorem zw_ifneB {b : Bool} {off : Int} {tgt : Nat} (X : CX g M) (d : Dc M pc pc1 (.ifCond .ne off) 3) (ht : (pc : Int) + off = (tgt : Int)) (kt : b = true → ZW g tgt ls st σ) (kf : b = false → ZW g pc1 ls st σ) : ZW g pc ls (.int (bI b) :: st) σ :=
  zw_ifne X d ht (fun h => kt (by cases b; exact absurd rfl h; rfl)) (fun h => kf (by cases b; rfl; exact absurd h (by decide)))
end ZD
theorem zw_cN_ii {g : Gt} {M M1 : Mt} {pc pc1 idx : Nat} {host : String} {ls : List (Option Value)} {st : List Value} {σ σ1 : St} {x1 : Int32} {r : Int32} (X : CX g M) (d : Dc M pc pc1 (.invokestatic idx) 3) (lk : Cond.methodLinkNest (mY M).cls idx (mY M1) host ∈ nst) (ok : mOk M1 1) (hstt : mStat M1) (hrm : rmOk M M1) (hcat : (st.map fun v => v.category).sum ≤ 8) (ct : Ct M1 [.int x1] σ (some (.int r)) σ1) (k : ZW g pc1 ls (.int r :: st) σ1) : ZW g pc ls (.int x1 :: st) σ := zw_callSN (As := [.int x1]) X d lk ok hstt hrm rfl rfl hcat ct k
theorem zw_cN_iiii {g : Gt} {M M1 : Mt} {pc pc1 idx : Nat} {host : String} {ls : List (Option Value)} {st : List Value} {σ σ1 : St} {x1 : Int32} {x2 : Int32} {x3 : Int32} {r : Int32} (X : CX g M) (d : Dc M pc pc1 (.invokestatic idx) 3) (lk : Cond.methodLinkNest (mY M).cls idx (mY M1) host ∈ nst) (ok : mOk M1 3) (hstt : mStat M1) (hrm : rmOk M M1) (hcat : (st.map fun v => v.category).sum ≤ 8) (ct : Ct M1 [.int x1, .int x2, .int x3] σ (some (.int r)) σ1) (k : ZW g pc1 ls (.int r :: st) σ1) : ZW g pc ls (.int x3 :: .int x2 :: .int x1 :: st) σ := zw_callSN (As := [.int x1, .int x2, .int x3]) X d lk ok hstt hrm rfl rfl hcat ct k
theorem zw_cS_ii {g : Gt} {M M1 : Mt} {pc pc1 idx : Nat} {ls : List (Option Value)} {st : List Value} {σ σ1 : St} {x1 : Int32} {r : Int32} (X : CX g M) (d : Dc M pc pc1 (.invokestatic idx) 3) (lk : mLk (mY M).cls idx M1) (ok : mOk M1 1) (hstt : mStat M1) (hrm : rmOk M M1) (hcat : (st.map fun v => v.category).sum ≤ 8) (ct : Ct M1 [.int x1] σ (some (.int r)) σ1) (k : ZW g pc1 ls (.int r :: st) σ1) : ZW g pc ls (.int x1 :: st) σ := zw_callS (As := [.int x1]) X d lk ok hstt hrm rfl rfl hcat ct k
theorem zw_cS_iii {g : Gt} {M M1 : Mt} {pc pc1 idx : Nat} {ls : List (Option Value)} {st : List Value} {σ σ1 : St} {x1 : Int32} {x2 : Int32} {r : Int32} (X : CX g M) (d : Dc M pc pc1 (.invokestatic idx) 3) (lk : mLk (mY M).cls idx M1) (ok : mOk M1 2) (hstt : mStat M1) (hrm : rmOk M M1) (hcat : (st.map fun v => v.category).sum ≤ 8) (ct : Ct M1 [.int x1, .int x2] σ (some (.int r)) σ1) (k : ZW g pc1 ls (.int r :: st) σ1) : ZW g pc ls (.int x2 :: .int x1 :: st) σ := zw_callS (As := [.int x1, .int x2]) X d lk ok hstt hrm rfl rfl hcat ct k
theorem zw_cS_iiii {g : Gt} {M M1 : Mt} {pc pc1 idx : Nat} {ls : List (Option Value)} {st : List Value} {σ σ1 : St} {x1 : Int32} {x2 : Int32} {x3 : Int32} {r : Int32} (X : CX g M) (d : Dc M pc pc1 (.invokestatic idx) 3) (lk : mLk (mY M).cls idx M1) (ok : mOk M1 3) (hstt : mStat M1) (hrm : rmOk M M1) (hcat : (st.map fun v => v.category).sum ≤ 8) (ct : Ct M1 [.int x1, .int x2, .int x3] σ (some (.int r)) σ1) (k : ZW g pc1 ls (.int r :: st) σ1) : ZW g pc ls (.int x3 :: .int x2 :: .int x1 :: st) σ := zw_callS (As := [.int x1, .int x2, .int x3]) X d lk ok hstt hrm rfl rfl hcat ct k
theorem zw_cS_ri {g : Gt} {M M1 : Mt} {pc pc1 idx : Nat} {ls : List (Option Value)} {st : List Value} {σ σ1 : St} {x1 : Nat} {r : Int32} (X : CX g M) (d : Dc M pc pc1 (.invokestatic idx) 3) (lk : mLk (mY M).cls idx M1) (ok : mOk M1 1) (hstt : mStat M1) (hrm : rmOk M M1) (hcat : (st.map fun v => v.category).sum ≤ 8) (ct : Ct M1 [.ref x1] σ (some (.int r)) σ1) (k : ZW g pc1 ls (.int r :: st) σ1) : ZW g pc ls (.ref x1 :: st) σ := zw_callS (As := [.ref x1]) X d lk ok hstt hrm rfl rfl hcat ct k
theorem zw_cS_riri {g : Gt} {M M1 : Mt} {pc pc1 idx : Nat} {ls : List (Option Value)} {st : List Value} {σ σ1 : St} {x1 : Nat} {x2 : Int32} {x3 : Nat} {r : Int32} (X : CX g M) (d : Dc M pc pc1 (.invokestatic idx) 3) (lk : mLk (mY M).cls idx M1) (ok : mOk M1 3) (hstt : mStat M1) (hrm : rmOk M M1) (hcat : (st.map fun v => v.category).sum ≤ 8) (ct : Ct M1 [.ref x1, .int x2, .ref x3] σ (some (.int r)) σ1) (k : ZW g pc1 ls (.int r :: st) σ1) : ZW g pc ls (.ref x3 :: .int x2 :: .ref x1 :: st) σ := zw_callS (As := [.ref x1, .int x2, .ref x3]) X d lk ok hstt hrm rfl rfl hcat ct k
theorem zw_cV_ni {g : Gt} {M M1 : Mt} {pc pc1 idx b ci : Nat} {kd : List (Option Nat)} {ls : List (Option Value)} {st : List Value} {σ σ1 : St} {r : Int32} (X : CX g M) (d : Dc M pc pc1 (.invokevirtual idx) 3) (lk : mLk (mY M).cls idx M1) (ok : mOk M1 0) (vi : mVirt M1) (hrm : rmOk M M1) (hs : sh b = .inl (ci, kd)) (hcl : (cls[ci]?).map (fun q => q.1) = some (mY M1).cls) (hcat : (st.map fun v => v.category).sum ≤ 8) (ct : Ct M1 (.ref b :: []) σ (some (.int r)) σ1) (k : ZW g pc1 ls (.int r :: st) σ1) : ZW g pc ls (.ref b :: st) σ := zw_callV (As := []) X d lk ok vi hrm hs hcl rfl rfl hcat ct k
theorem zw_cV_nv {g : Gt} {M M1 : Mt} {pc pc1 idx b ci : Nat} {kd : List (Option Nat)} {ls : List (Option Value)} {st : List Value} {σ σ1 : St} (X : CX g M) (d : Dc M pc pc1 (.invokevirtual idx) 3) (lk : mLk (mY M).cls idx M1) (ok : mOk M1 0) (vi : mVirt M1) (hrm : rmOk M M1) (hs : sh b = .inl (ci, kd)) (hcl : (cls[ci]?).map (fun q => q.1) = some (mY M1).cls) (hcat : (st.map fun v => v.category).sum ≤ 8) (ct : Ct M1 (.ref b :: []) σ none σ1) (k : ZW g pc1 ls (st) σ1) : ZW g pc ls (.ref b :: st) σ := zw_callV (As := []) X d lk ok vi hrm hs hcl rfl rfl hcat ct k
theorem zw_cV_ii {g : Gt} {M M1 : Mt} {pc pc1 idx b ci : Nat} {kd : List (Option Nat)} {ls : List (Option Value)} {st : List Value} {σ σ1 : St} {x1 : Int32} {r : Int32} (X : CX g M) (d : Dc M pc pc1 (.invokevirtual idx) 3) (lk : mLk (mY M).cls idx M1) (ok : mOk M1 1) (vi : mVirt M1) (hrm : rmOk M M1) (hs : sh b = .inl (ci, kd)) (hcl : (cls[ci]?).map (fun q => q.1) = some (mY M1).cls) (hcat : (st.map fun v => v.category).sum ≤ 8) (ct : Ct M1 (.ref b :: [.int x1]) σ (some (.int r)) σ1) (k : ZW g pc1 ls (.int r :: st) σ1) : ZW g pc ls (.int x1 :: .ref b :: st) σ := zw_callV (As := [.int x1]) X d lk ok vi hrm hs hcl rfl rfl hcat ct k
theorem zw_cV_ir {g : Gt} {M M1 : Mt} {pc pc1 idx b ci : Nat} {kd : List (Option Nat)} {ls : List (Option Value)} {st : List Value} {σ σ1 : St} {x1 : Int32} {r : Nat} (X : CX g M) (d : Dc M pc pc1 (.invokevirtual idx) 3) (lk : mLk (mY M).cls idx M1) (ok : mOk M1 1) (vi : mVirt M1) (hrm : rmOk M M1) (hs : sh b = .inl (ci, kd)) (hcl : (cls[ci]?).map (fun q => q.1) = some (mY M1).cls) (hcat : (st.map fun v => v.category).sum ≤ 8) (ct : Ct M1 (.ref b :: [.int x1]) σ (some (.ref r)) σ1) (k : ZW g pc1 ls (.ref r :: st) σ1) : ZW g pc ls (.int x1 :: .ref b :: st) σ := zw_callV (As := [.int x1]) X d lk ok vi hrm hs hcl rfl rfl hcat ct k
theorem zw_cV_iv {g : Gt} {M M1 : Mt} {pc pc1 idx b ci : Nat} {kd : List (Option Nat)} {ls : List (Option Value)} {st : List Value} {σ σ1 : St} {x1 : Int32} (X : CX g M) (d : Dc M pc pc1 (.invokevirtual idx) 3) (lk : mLk (mY M).cls idx M1) (ok : mOk M1 1) (vi : mVirt M1) (hrm : rmOk M M1) (hs : sh b = .inl (ci, kd)) (hcl : (cls[ci]?).map (fun q => q.1) = some (mY M1).cls) (hcat : (st.map fun v => v.category).sum ≤ 8) (ct : Ct M1 (.ref b :: [.int x1]) σ none σ1) (k : ZW g pc1 ls (st) σ1) : ZW g pc ls (.int x1 :: .ref b :: st) σ := zw_callV (As := [.int x1]) X d lk ok vi hrm hs hcl rfl rfl hcat ct k
theorem zw_cV_iii {g : Gt} {M M1 : Mt} {pc pc1 idx b ci : Nat} {kd : List (Option Nat)} {ls : List (Option Value)} {st : List Value} {σ σ1 : St} {x1 : Int32} {x2 : Int32} {r : Int32} (X : CX g M) (d : Dc M pc pc1 (.invokevirtual idx) 3) (lk : mLk (mY M).cls idx M1) (ok : mOk M1 2) (vi : mVirt M1) (hrm : rmOk M M1) (hs : sh b = .inl (ci, kd)) (hcl : (cls[ci]?).map (fun q => q.1) = some (mY M1).cls) (hcat : (st.map fun v => v.category).sum ≤ 8) (ct : Ct M1 (.ref b :: [.int x1, .int x2]) σ (some (.int r)) σ1) (k : ZW g pc1 ls (.int r :: st) σ1) : ZW g pc ls (.int x2 :: .int x1 :: .ref b :: st) σ := zw_callV (As := [.int x1, .int x2]) X d lk ok vi hrm hs hcl rfl rfl hcat ct k
theorem zw_cV_iiv {g : Gt} {M M1 : Mt} {pc pc1 idx b ci : Nat} {kd : List (Option Nat)} {ls : List (Option Value)} {st : List Value} {σ σ1 : St} {x1 : Int32} {x2 : Int32} (X : CX g M) (d : Dc M pc pc1 (.invokevirtual idx) 3) (lk : mLk (mY M).cls idx M1) (ok : mOk M1 2) (vi : mVirt M1) (hrm : rmOk M M1) (hs : sh b = .inl (ci, kd)) (hcl : (cls[ci]?).map (fun q => q.1) = some (mY M1).cls) (hcat : (st.map fun v => v.category).sum ≤ 8) (ct : Ct M1 (.ref b :: [.int x1, .int x2]) σ none σ1) (k : ZW g pc1 ls (st) σ1) : ZW g pc ls (.int x2 :: .int x1 :: .ref b :: st) σ := zw_callV (As := [.int x1, .int x2]) X d lk ok vi hrm hs hcl rfl rfl hcat ct k
theorem zw_cV_iiii {g : Gt} {M M1 : Mt} {pc pc1 idx b ci : Nat} {kd : List (Option Nat)} {ls : List (Option Value)} {st : List Value} {σ σ1 : St} {x1 : Int32} {x2 : Int32} {x3 : Int32} {r : Int32} (X : CX g M) (d : Dc M pc pc1 (.invokevirtual idx) 3) (lk : mLk (mY M).cls idx M1) (ok : mOk M1 3) (vi : mVirt M1) (hrm : rmOk M M1) (hs : sh b = .inl (ci, kd)) (hcl : (cls[ci]?).map (fun q => q.1) = some (mY M1).cls) (hcat : (st.map fun v => v.category).sum ≤ 8) (ct : Ct M1 (.ref b :: [.int x1, .int x2, .int x3]) σ (some (.int r)) σ1) (k : ZW g pc1 ls (.int r :: st) σ1) : ZW g pc ls (.int x3 :: .int x2 :: .int x1 :: .ref b :: st) σ := zw_callV (As := [.int x1, .int x2, .int x3]) X d lk ok vi hrm hs hcl rfl rfl hcat ct k
theorem zw_cV_iiiv {g : Gt} {M M1 : Mt} {pc pc1 idx b ci : Nat} {kd : List (Option Nat)} {ls : List (Option Value)} {st : List Value} {σ σ1 : St} {x1 : Int32} {x2 : Int32} {x3 : Int32} (X : CX g M) (d : Dc M pc pc1 (.invokevirtual idx) 3) (lk : mLk (mY M).cls idx M1) (ok : mOk M1 3) (vi : mVirt M1) (hrm : rmOk M M1) (hs : sh b = .inl (ci, kd)) (hcl : (cls[ci]?).map (fun q => q.1) = some (mY M1).cls) (hcat : (st.map fun v => v.category).sum ≤ 8) (ct : Ct M1 (.ref b :: [.int x1, .int x2, .int x3]) σ none σ1) (k : ZW g pc1 ls (st) σ1) : ZW g pc ls (.int x3 :: .int x2 :: .int x1 :: .ref b :: st) σ := zw_callV (As := [.int x1, .int x2, .int x3]) X d lk ok vi hrm hs hcl rfl rfl hcat ct k
theorem zw_cV_ri {g : Gt} {M M1 : Mt} {pc pc1 idx b ci : Nat} {kd : List (Option Nat)} {ls : List (Option Value)} {st : List Value} {σ σ1 : St} {x1 : Nat} {r : Int32} (X : CX g M) (d : Dc M pc pc1 (.invokevirtual idx) 3) (lk : mLk (mY M).cls idx M1) (ok : mOk M1 1) (vi : mVirt M1) (hrm : rmOk M M1) (hs : sh b = .inl (ci, kd)) (hcl : (cls[ci]?).map (fun q => q.1) = some (mY M1).cls) (hcat : (st.map fun v => v.category).sum ≤ 8) (ct : Ct M1 (.ref b :: [.ref x1]) σ (some (.int r)) σ1) (k : ZW g pc1 ls (.int r :: st) σ1) : ZW g pc ls (.ref x1 :: .ref b :: st) σ := zw_callV (As := [.ref x1]) X d lk ok vi hrm hs hcl rfl rfl hcat ct k
theorem zw_cV_rv {g : Gt} {M M1 : Mt} {pc pc1 idx b ci : Nat} {kd : List (Option Nat)} {ls : List (Option Value)} {st : List Value} {σ σ1 : St} {x1 : Nat} (X : CX g M) (d : Dc M pc pc1 (.invokevirtual idx) 3) (lk : mLk (mY M).cls idx M1) (ok : mOk M1 1) (vi : mVirt M1) (hrm : rmOk M M1) (hs : sh b = .inl (ci, kd)) (hcl : (cls[ci]?).map (fun q => q.1) = some (mY M1).cls) (hcat : (st.map fun v => v.category).sum ≤ 8) (ct : Ct M1 (.ref b :: [.ref x1]) σ none σ1) (k : ZW g pc1 ls (st) σ1) : ZW g pc ls (.ref x1 :: .ref b :: st) σ := zw_callV (As := [.ref x1]) X d lk ok vi hrm hs hcl rfl rfl hcat ct k
theorem zw_cV_riiv {g : Gt} {M M1 : Mt} {pc pc1 idx b ci : Nat} {kd : List (Option Nat)} {ls : List (Option Value)} {st : List Value} {σ σ1 : St} {x1 : Nat} {x2 : Int32} {x3 : Int32} (X : CX g M) (d : Dc M pc pc1 (.invokevirtual idx) 3) (lk : mLk (mY M).cls idx M1) (ok : mOk M1 3) (vi : mVirt M1) (hrm : rmOk M M1) (hs : sh b = .inl (ci, kd)) (hcl : (cls[ci]?).map (fun q => q.1) = some (mY M1).cls) (hcat : (st.map fun v => v.category).sum ≤ 8) (ct : Ct M1 (.ref b :: [.ref x1, .int x2, .int x3]) σ none σ1) (k : ZW g pc1 ls (st) σ1) : ZW g pc ls (.int x3 :: .int x2 :: .ref x1 :: .ref b :: st) σ := zw_callV (As := [.ref x1, .int x2, .int x3]) X d lk ok vi hrm hs hcl rfl rfl hcat ct k
theorem zw_cV_rri {g : Gt} {M M1 : Mt} {pc pc1 idx b ci : Nat} {kd : List (Option Nat)} {ls : List (Option Value)} {st : List Value} {σ σ1 : St} {x1 : Nat} {x2 : Nat} {r : Int32} (X : CX g M) (d : Dc M pc pc1 (.invokevirtual idx) 3) (lk : mLk (mY M).cls idx M1) (ok : mOk M1 2) (vi : mVirt M1) (hrm : rmOk M M1) (hs : sh b = .inl (ci, kd)) (hcl : (cls[ci]?).map (fun q => q.1) = some (mY M1).cls) (hcat : (st.map fun v => v.category).sum ≤ 8) (ct : Ct M1 (.ref b :: [.ref x1, .ref x2]) σ (some (.int r)) σ1) (k : ZW g pc1 ls (.int r :: st) σ1) : ZW g pc ls (.ref x2 :: .ref x1 :: .ref b :: st) σ := zw_callV (As := [.ref x1, .ref x2]) X d lk ok vi hrm hs hcl rfl rfl hcat ct k
theorem zw_cV_rrv {g : Gt} {M M1 : Mt} {pc pc1 idx b ci : Nat} {kd : List (Option Nat)} {ls : List (Option Value)} {st : List Value} {σ σ1 : St} {x1 : Nat} {x2 : Nat} (X : CX g M) (d : Dc M pc pc1 (.invokevirtual idx) 3) (lk : mLk (mY M).cls idx M1) (ok : mOk M1 2) (vi : mVirt M1) (hrm : rmOk M M1) (hs : sh b = .inl (ci, kd)) (hcl : (cls[ci]?).map (fun q => q.1) = some (mY M1).cls) (hcat : (st.map fun v => v.category).sum ≤ 8) (ct : Ct M1 (.ref b :: [.ref x1, .ref x2]) σ none σ1) (k : ZW g pc1 ls (st) σ1) : ZW g pc ls (.ref x2 :: .ref x1 :: .ref b :: st) σ := zw_callV (As := [.ref x1, .ref x2]) X d lk ok vi hrm hs hcl rfl rfl hcat ct k
end
