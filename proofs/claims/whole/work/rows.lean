section
-- ===== PART A: goes FIRST, ahead of the names: the tables' words, and 'selects' of the private methods out of them =====
/-- a private method of a class that the tables say can be made, by its rows of tables_1 -/
def lw_okq (q : MethodName × Nat) : Prop := (q.1.cls ≠ "java/lang/invoke/MethodHandle" ∧ q.1.cls ≠ "java/lang/invoke/VarHandle") ∧ Cond.instantiable q.1.cls q.2 ∈ tables_1 ∧ Cond.privateMethod q.1 ∈ tables_1 ∧ Cond.instanceMethod q.1 ∈ tables_1
theorem lw_p0 : lw_okq (⟨"SlotRadio", "isStation", "(I)Z"⟩, 9) := ⟨⟨by decide +kernel, by decide +kernel⟩, List.mem_of_getElem? (i := 13) (by decide +kernel), List.mem_of_getElem? (i := 292) (by decide +kernel), List.mem_of_getElem? (i := 293) (by decide +kernel)⟩
theorem lw_p1 : lw_okq (⟨"SlotRadio", "drawCount", "(LSlotRadio$Station;)V"⟩, 9) := ⟨⟨by decide +kernel, by decide +kernel⟩, List.mem_of_getElem? (i := 13) (by decide +kernel), List.mem_of_getElem? (i := 332) (by decide +kernel), List.mem_of_getElem? (i := 333) (by decide +kernel)⟩
theorem lw_p2 : lw_okq (⟨"SlotRadio", "beginFrames", "()V"⟩, 9) := ⟨⟨by decide +kernel, by decide +kernel⟩, List.mem_of_getElem? (i := 13) (by decide +kernel), List.mem_of_getElem? (i := 362) (by decide +kernel), List.mem_of_getElem? (i := 363) (by decide +kernel)⟩
theorem lw_p3 : lw_okq (⟨"SlotRadio", "failAttempt", "(LSlotRadio$Station;)V"⟩, 9) := ⟨⟨by decide +kernel, by decide +kernel⟩, List.mem_of_getElem? (i := 13) (by decide +kernel), List.mem_of_getElem? (i := 366) (by decide +kernel), List.mem_of_getElem? (i := 367) (by decide +kernel)⟩
theorem lw_p4 : lw_okq (⟨"SlotRadio", "beginAttempt", "(LSlotRadio$Station;)V"⟩, 9) := ⟨⟨by decide +kernel, by decide +kernel⟩, List.mem_of_getElem? (i := 13) (by decide +kernel), List.mem_of_getElem? (i := 402) (by decide +kernel), List.mem_of_getElem? (i := 403) (by decide +kernel)⟩
theorem lw_p5 : lw_okq (⟨"SlotRadio", "markGoodSlots", "()V"⟩, 9) := ⟨⟨by decide +kernel, by decide +kernel⟩, List.mem_of_getElem? (i := 13) (by decide +kernel), List.mem_of_getElem? (i := 434) (by decide +kernel), List.mem_of_getElem? (i := 435) (by decide +kernel)⟩
theorem lw_p6 : lw_okq (⟨"SlotRadio", "isGood", "(LSlotRadio$Station;LSlotRadio$Station;)Z"⟩, 9) := ⟨⟨by decide +kernel, by decide +kernel⟩, List.mem_of_getElem? (i := 13) (by decide +kernel), List.mem_of_getElem? (i := 438) (by decide +kernel), List.mem_of_getElem? (i := 439) (by decide +kernel)⟩
theorem lw_p7 : lw_okq (⟨"SlotRadio", "endFrames", "()V"⟩, 9) := ⟨⟨by decide +kernel, by decide +kernel⟩, List.mem_of_getElem? (i := 13) (by decide +kernel), List.mem_of_getElem? (i := 450) (by decide +kernel), List.mem_of_getElem? (i := 451) (by decide +kernel)⟩
theorem lw_p8 : lw_okq (⟨"SlotRadio", "receive", "(LSlotRadio$Station;LSlotRadio$Station;LSlotRadio$Frame;)V"⟩, 9) := ⟨⟨by decide +kernel, by decide +kernel⟩, List.mem_of_getElem? (i := 13) (by decide +kernel), List.mem_of_getElem? (i := 470) (by decide +kernel), List.mem_of_getElem? (i := 471) (by decide +kernel)⟩
theorem lw_p9 : lw_okq (⟨"SlotRadio", "receiveAsk", "(LSlotRadio$Station;LSlotRadio$Station;LSlotRadio$Frame;)V"⟩, 9) := ⟨⟨by decide +kernel, by decide +kernel⟩, List.mem_of_getElem? (i := 13) (by decide +kernel), List.mem_of_getElem? (i := 481) (by decide +kernel), List.mem_of_getElem? (i := 482) (by decide +kernel)⟩
theorem lw_p10 : lw_okq (⟨"SlotRadio", "receiveAnswer", "(LSlotRadio$Station;LSlotRadio$Station;)V"⟩, 9) := ⟨⟨by decide +kernel, by decide +kernel⟩, List.mem_of_getElem? (i := 13) (by decide +kernel), List.mem_of_getElem? (i := 486) (by decide +kernel), List.mem_of_getElem? (i := 487) (by decide +kernel)⟩
theorem lw_p11 : lw_okq (⟨"SlotRadio", "receiveData", "(LSlotRadio$Station;LSlotRadio$Station;LSlotRadio$Frame;)V"⟩, 9) := ⟨⟨by decide +kernel, by decide +kernel⟩, List.mem_of_getElem? (i := 13) (by decide +kernel), List.mem_of_getElem? (i := 494) (by decide +kernel), List.mem_of_getElem? (i := 495) (by decide +kernel)⟩
theorem lw_p12 : lw_okq (⟨"SlotRadio", "takePayloads", "(ILSlotRadio$Row;)V"⟩, 9) := ⟨⟨by decide +kernel, by decide +kernel⟩, List.mem_of_getElem? (i := 13) (by decide +kernel), List.mem_of_getElem? (i := 504) (by decide +kernel), List.mem_of_getElem? (i := 505) (by decide +kernel)⟩
theorem lw_p13 : lw_okq (⟨"SlotRadio", "receiveAcknowledge", "(LSlotRadio$Station;LSlotRadio$Station;LSlotRadio$Frame;)V"⟩, 9) := ⟨⟨by decide +kernel, by decide +kernel⟩, List.mem_of_getElem? (i := 13) (by decide +kernel), List.mem_of_getElem? (i := 525) (by decide +kernel), List.mem_of_getElem? (i := 526) (by decide +kernel)⟩
theorem lw_p14 : lw_okq (⟨"SlotRadio", "countIdleSlots", "()V"⟩, 9) := ⟨⟨by decide +kernel, by decide +kernel⟩, List.mem_of_getElem? (i := 13) (by decide +kernel), List.mem_of_getElem? (i := 534) (by decide +kernel), List.mem_of_getElem? (i := 535) (by decide +kernel)⟩
theorem lw_p15 : lw_okq (⟨"SlotRadioModel", "isStation", "(I)Z"⟩, 52) := ⟨⟨by decide +kernel, by decide +kernel⟩, List.mem_of_getElem? (i := 567) (by decide +kernel), List.mem_of_getElem? (i := 735) (by decide +kernel), List.mem_of_getElem? (i := 736) (by decide +kernel)⟩
def lw_privs_1 : List (MethodName × Nat) := [(⟨"SlotRadio", "isStation", "(I)Z"⟩, 9), (⟨"SlotRadio", "drawCount", "(LSlotRadio$Station;)V"⟩, 9), (⟨"SlotRadio", "beginFrames", "()V"⟩, 9), (⟨"SlotRadio", "failAttempt", "(LSlotRadio$Station;)V"⟩, 9), (⟨"SlotRadio", "beginAttempt", "(LSlotRadio$Station;)V"⟩, 9), (⟨"SlotRadio", "markGoodSlots", "()V"⟩, 9), (⟨"SlotRadio", "isGood", "(LSlotRadio$Station;LSlotRadio$Station;)Z"⟩, 9), (⟨"SlotRadio", "endFrames", "()V"⟩, 9), (⟨"SlotRadio", "receive", "(LSlotRadio$Station;LSlotRadio$Station;LSlotRadio$Frame;)V"⟩, 9), (⟨"SlotRadio", "receiveAsk", "(LSlotRadio$Station;LSlotRadio$Station;LSlotRadio$Frame;)V"⟩, 9), (⟨"SlotRadio", "receiveAnswer", "(LSlotRadio$Station;LSlotRadio$Station;)V"⟩, 9), (⟨"SlotRadio", "receiveData", "(LSlotRadio$Station;LSlotRadio$Station;LSlotRadio$Frame;)V"⟩, 9), (⟨"SlotRadio", "takePayloads", "(ILSlotRadio$Row;)V"⟩, 9), (⟨"SlotRadio", "receiveAcknowledge", "(LSlotRadio$Station;LSlotRadio$Station;LSlotRadio$Frame;)V"⟩, 9), (⟨"SlotRadio", "countIdleSlots", "()V"⟩, 9), (⟨"SlotRadioModel", "isStation", "(I)Z"⟩, 52)]
theorem lw_r1 : ∀ q ∈ lw_privs_1, lw_okq q := List.forall_mem_cons.mpr ⟨lw_p0, List.forall_mem_cons.mpr ⟨lw_p1, List.forall_mem_cons.mpr ⟨lw_p2, List.forall_mem_cons.mpr ⟨lw_p3, List.forall_mem_cons.mpr ⟨lw_p4, List.forall_mem_cons.mpr ⟨lw_p5, List.forall_mem_cons.mpr ⟨lw_p6, List.forall_mem_cons.mpr ⟨lw_p7, List.forall_mem_cons.mpr ⟨lw_p8, List.forall_mem_cons.mpr ⟨lw_p9, List.forall_mem_cons.mpr ⟨lw_p10, List.forall_mem_cons.mpr ⟨lw_p11, List.forall_mem_cons.mpr ⟨lw_p12, List.forall_mem_cons.mpr ⟨lw_p13, List.forall_mem_cons.mpr ⟨lw_p14, List.forall_mem_cons.mpr ⟨lw_p15, fun _ h => absurd h List.not_mem_nil⟩⟩⟩⟩⟩⟩⟩⟩⟩⟩⟩⟩⟩⟩⟩⟩
theorem lw_p16 : lw_okq (⟨"SlotRadioModel", "keeps", "(I)I"⟩, 52) := ⟨⟨by decide +kernel, by decide +kernel⟩, List.mem_of_getElem? (i := 567) (by decide +kernel), List.mem_of_getElem? (i := 751) (by decide +kernel), List.mem_of_getElem? (i := 752) (by decide +kernel)⟩
theorem lw_p17 : lw_okq (⟨"SlotRadioModel", "draw", "(I)V"⟩, 52) := ⟨⟨by decide +kernel, by decide +kernel⟩, List.mem_of_getElem? (i := 567) (by decide +kernel), List.mem_of_getElem? (i := 755) (by decide +kernel), List.mem_of_getElem? (i := 756) (by decide +kernel)⟩
theorem lw_p18 : lw_okq (⟨"SlotRadioModel", "stepOne", "(J)V"⟩, 52) := ⟨⟨by decide +kernel, by decide +kernel⟩, List.mem_of_getElem? (i := 567) (by decide +kernel), List.mem_of_getElem? (i := 768) (by decide +kernel), List.mem_of_getElem? (i := 769) (by decide +kernel)⟩
theorem lw_p19 : lw_okq (⟨"SlotRadioModel", "fail", "(IJ)V"⟩, 52) := ⟨⟨by decide +kernel, by decide +kernel⟩, List.mem_of_getElem? (i := 567) (by decide +kernel), List.mem_of_getElem? (i := 772) (by decide +kernel), List.mem_of_getElem? (i := 773) (by decide +kernel)⟩
theorem lw_p20 : lw_okq (⟨"SlotRadioModel", "tell", "(IIJ)V"⟩, 52) := ⟨⟨by decide +kernel, by decide +kernel⟩, List.mem_of_getElem? (i := 567) (by decide +kernel), List.mem_of_getElem? (i := 776) (by decide +kernel), List.mem_of_getElem? (i := 777) (by decide +kernel)⟩
theorem lw_p21 : lw_okq (⟨"SlotRadioModel", "begin", "(IIIIIJ)V"⟩, 52) := ⟨⟨by decide +kernel, by decide +kernel⟩, List.mem_of_getElem? (i := 567) (by decide +kernel), List.mem_of_getElem? (i := 780) (by decide +kernel), List.mem_of_getElem? (i := 781) (by decide +kernel)⟩
theorem lw_p22 : lw_okq (⟨"SlotRadioModel", "sends", "(IJ)Z"⟩, 52) := ⟨⟨by decide +kernel, by decide +kernel⟩, List.mem_of_getElem? (i := 567) (by decide +kernel), List.mem_of_getElem? (i := 784) (by decide +kernel), List.mem_of_getElem? (i := 785) (by decide +kernel)⟩
theorem lw_p23 : lw_okq (⟨"SlotRadioModel", "attempt", "(IJ)V"⟩, 52) := ⟨⟨by decide +kernel, by decide +kernel⟩, List.mem_of_getElem? (i := 567) (by decide +kernel), List.mem_of_getElem? (i := 788) (by decide +kernel), List.mem_of_getElem? (i := 789) (by decide +kernel)⟩
theorem lw_p24 : lw_okq (⟨"SlotRadioModel", "stepTwo", "(J)V"⟩, 52) := ⟨⟨by decide +kernel, by decide +kernel⟩, List.mem_of_getElem? (i := 567) (by decide +kernel), List.mem_of_getElem? (i := 792) (by decide +kernel), List.mem_of_getElem? (i := 793) (by decide +kernel)⟩
theorem lw_p25 : lw_okq (⟨"SlotRadioModel", "hears", "(II)Z"⟩, 52) := ⟨⟨by decide +kernel, by decide +kernel⟩, List.mem_of_getElem? (i := 567) (by decide +kernel), List.mem_of_getElem? (i := 796) (by decide +kernel), List.mem_of_getElem? (i := 797) (by decide +kernel)⟩
theorem lw_p26 : lw_okq (⟨"SlotRadioModel", "hearsAny", "(IIJ)Z"⟩, 52) := ⟨⟨by decide +kernel, by decide +kernel⟩, List.mem_of_getElem? (i := 567) (by decide +kernel), List.mem_of_getElem? (i := 800) (by decide +kernel), List.mem_of_getElem? (i := 801) (by decide +kernel)⟩
theorem lw_p27 : lw_okq (⟨"SlotRadioModel", "hasNoise", "(IJ)Z"⟩, 52) := ⟨⟨by decide +kernel, by decide +kernel⟩, List.mem_of_getElem? (i := 567) (by decide +kernel), List.mem_of_getElem? (i := 804) (by decide +kernel), List.mem_of_getElem? (i := 805) (by decide +kernel)⟩
theorem lw_p28 : lw_okq (⟨"SlotRadioModel", "stepThree", "(J)V"⟩, 52) := ⟨⟨by decide +kernel, by decide +kernel⟩, List.mem_of_getElem? (i := 567) (by decide +kernel), List.mem_of_getElem? (i := 808) (by decide +kernel), List.mem_of_getElem? (i := 809) (by decide +kernel)⟩
theorem lw_p29 : lw_okq (⟨"SlotRadioModel", "receive", "(IIJ)V"⟩, 52) := ⟨⟨by decide +kernel, by decide +kernel⟩, List.mem_of_getElem? (i := 567) (by decide +kernel), List.mem_of_getElem? (i := 812) (by decide +kernel), List.mem_of_getElem? (i := 813) (by decide +kernel)⟩
theorem lw_p30 : lw_okq (⟨"SlotRadioModel", "left", "(I)I"⟩, 52) := ⟨⟨by decide +kernel, by decide +kernel⟩, List.mem_of_getElem? (i := 567) (by decide +kernel), List.mem_of_getElem? (i := 816) (by decide +kernel), List.mem_of_getElem? (i := 817) (by decide +kernel)⟩
theorem lw_p31 : lw_okq (⟨"SlotRadioModel", "due", "(IIIIIJ)V"⟩, 52) := ⟨⟨by decide +kernel, by decide +kernel⟩, List.mem_of_getElem? (i := 567) (by decide +kernel), List.mem_of_getElem? (i := 820) (by decide +kernel), List.mem_of_getElem? (i := 821) (by decide +kernel)⟩
def lw_privs_2 : List (MethodName × Nat) := [(⟨"SlotRadioModel", "keeps", "(I)I"⟩, 52), (⟨"SlotRadioModel", "draw", "(I)V"⟩, 52), (⟨"SlotRadioModel", "stepOne", "(J)V"⟩, 52), (⟨"SlotRadioModel", "fail", "(IJ)V"⟩, 52), (⟨"SlotRadioModel", "tell", "(IIJ)V"⟩, 52), (⟨"SlotRadioModel", "begin", "(IIIIIJ)V"⟩, 52), (⟨"SlotRadioModel", "sends", "(IJ)Z"⟩, 52), (⟨"SlotRadioModel", "attempt", "(IJ)V"⟩, 52), (⟨"SlotRadioModel", "stepTwo", "(J)V"⟩, 52), (⟨"SlotRadioModel", "hears", "(II)Z"⟩, 52), (⟨"SlotRadioModel", "hearsAny", "(IIJ)Z"⟩, 52), (⟨"SlotRadioModel", "hasNoise", "(IJ)Z"⟩, 52), (⟨"SlotRadioModel", "stepThree", "(J)V"⟩, 52), (⟨"SlotRadioModel", "receive", "(IIJ)V"⟩, 52), (⟨"SlotRadioModel", "left", "(I)I"⟩, 52), (⟨"SlotRadioModel", "due", "(IIIIIJ)V"⟩, 52)]
theorem lw_r2 : ∀ q ∈ lw_privs_2, lw_okq q := List.forall_mem_cons.mpr ⟨lw_p16, List.forall_mem_cons.mpr ⟨lw_p17, List.forall_mem_cons.mpr ⟨lw_p18, List.forall_mem_cons.mpr ⟨lw_p19, List.forall_mem_cons.mpr ⟨lw_p20, List.forall_mem_cons.mpr ⟨lw_p21, List.forall_mem_cons.mpr ⟨lw_p22, List.forall_mem_cons.mpr ⟨lw_p23, List.forall_mem_cons.mpr ⟨lw_p24, List.forall_mem_cons.mpr ⟨lw_p25, List.forall_mem_cons.mpr ⟨lw_p26, List.forall_mem_cons.mpr ⟨lw_p27, List.forall_mem_cons.mpr ⟨lw_p28, List.forall_mem_cons.mpr ⟨lw_p29, List.forall_mem_cons.mpr ⟨lw_p30, List.forall_mem_cons.mpr ⟨lw_p31, fun _ h => absurd h List.not_mem_nil⟩⟩⟩⟩⟩⟩⟩⟩⟩⟩⟩⟩⟩⟩⟩⟩
theorem lw_p32 : lw_okq (⟨"SlotRadioModel", "take", "(IIJ)I"⟩, 52) := ⟨⟨by decide +kernel, by decide +kernel⟩, List.mem_of_getElem? (i := 567) (by decide +kernel), List.mem_of_getElem? (i := 825) (by decide +kernel), List.mem_of_getElem? (i := 826) (by decide +kernel)⟩
theorem lw_p33 : lw_okq (⟨"SlotRadioModel", "handOver", "(IJ)V"⟩, 52) := ⟨⟨by decide +kernel, by decide +kernel⟩, List.mem_of_getElem? (i := 567) (by decide +kernel), List.mem_of_getElem? (i := 829) (by decide +kernel), List.mem_of_getElem? (i := 830) (by decide +kernel)⟩
theorem lw_p34 : lw_okq (⟨"SlotRadioModel", "acknowledged", "(IIJ)V"⟩, 52) := ⟨⟨by decide +kernel, by decide +kernel⟩, List.mem_of_getElem? (i := 567) (by decide +kernel), List.mem_of_getElem? (i := 833) (by decide +kernel), List.mem_of_getElem? (i := 834) (by decide +kernel)⟩
theorem lw_p35 : lw_okq (⟨"SlotRadioModel", "stepFour", "(J)V"⟩, 52) := ⟨⟨by decide +kernel, by decide +kernel⟩, List.mem_of_getElem? (i := 567) (by decide +kernel), List.mem_of_getElem? (i := 838) (by decide +kernel), List.mem_of_getElem? (i := 839) (by decide +kernel)⟩
def lw_privs_3 : List (MethodName × Nat) := [(⟨"SlotRadioModel", "take", "(IIJ)I"⟩, 52), (⟨"SlotRadioModel", "handOver", "(IJ)V"⟩, 52), (⟨"SlotRadioModel", "acknowledged", "(IIJ)V"⟩, 52), (⟨"SlotRadioModel", "stepFour", "(J)V"⟩, 52)]
theorem lw_r3 : ∀ q ∈ lw_privs_3, lw_okq q := List.forall_mem_cons.mpr ⟨lw_p32, List.forall_mem_cons.mpr ⟨lw_p33, List.forall_mem_cons.mpr ⟨lw_p34, List.forall_mem_cons.mpr ⟨lw_p35, fun _ h => absurd h List.not_mem_nil⟩⟩⟩⟩
def lw_privs : List (MethodName × Nat) := lw_privs_1 ++ (lw_privs_2 ++ (lw_privs_3))
def lw_tbl : List Cond := k2_sels lw_privs ++ tables_1
theorem lw_privs_ok : ∀ q ∈ lw_privs, lw_okq q := by
  show ∀ q ∈ lw_privs_1 ++ (lw_privs_2 ++ (lw_privs_3)), lw_okq q
  exact List.forall_mem_append.mpr ⟨lw_r1, List.forall_mem_append.mpr ⟨lw_r2, lw_r3⟩⟩
end
section
def RX0 : String := "SlotRadio$Coins"
def TX0 : u_T := fun k => match k with
  | 0 => ("SlotRadio$Coins", "value", "[I", true)
  | 1 => ("SlotRadio$Coins", "told", "I", false)
  | _ => ("SlotRadio$Coins", "drawn", "I", false)
def tyX0 : Nat → FieldType := fun k => match k with
  | 0 => .array .int
  | 1 => .int
  | _ => .int
theorem nmX0 : ∀ a, a < 3 → ∀ b, b < 3 → a ≠ b → (TX0 a).2.1 ≠ (TX0 b).2.1 := by decide +kernel
theorem tyX0_ok : ∀ k, k < 3 → parseFieldDescriptor (TX0 k).2.2.1 = some (tyX0 k) := by decide +kernel
abbrev cX0_init : ByteArray := prog_2_method_1_code
def yX0_init : MethodName := ⟨RX0, "<init>", "()V"⟩
abbrev cX0_add : ByteArray := prog_2_method_2_code
def yX0_add : MethodName := ⟨RX0, "add", "(I)V"⟩
abbrev cX0_undrawn : ByteArray := prog_2_method_3_code
def yX0_undrawn : MethodName := ⟨RX0, "undrawn", "()I"⟩
abbrev cX0_draw : ByteArray := prog_2_method_4_code
def yX0_draw : MethodName := ⟨RX0, "draw", "(I)I"⟩
def RX1 : String := "SlotRadio$Events"
def TX1 : u_T := fun k => match k with
  | 0 => ("SlotRadio$Events", "payload", "[I", true)
  | 1 => ("SlotRadio$Events", "kind", "[I", true)
  | 2 => ("SlotRadio$Events", "slot", "[I", true)
  | _ => ("SlotRadio$Events", "total", "I", false)
def tyX1 : Nat → FieldType := fun k => match k with
  | 0 => .array .int
  | 1 => .array .int
  | 2 => .array .int
  | _ => .int
theorem nmX1 : ∀ a, a < 4 → ∀ b, b < 4 → a ≠ b → (TX1 a).2.1 ≠ (TX1 b).2.1 := by decide +kernel
theorem tyX1_ok : ∀ k, k < 4 → parseFieldDescriptor (TX1 k).2.2.1 = some (tyX1 k) := by decide +kernel
abbrev cX1_init : ByteArray := prog_3_method_1_code
def yX1_init : MethodName := ⟨RX1, "<init>", "()V"⟩
abbrev cX1_told : ByteArray := prog_3_method_2_code
def yX1_told : MethodName := ⟨RX1, "told", "()I"⟩
abbrev cX1_add : ByteArray := prog_3_method_3_code
def yX1_add : MethodName := ⟨RX1, "add", "(IIJ)V"⟩
def RX2 : String := "SlotRadio$Frame"
def TX2 : u_T := fun k => match k with
  | 0 => ("SlotRadio$Frame", "kind", "I", false)
  | 1 => ("SlotRadio$Frame", "to", "I", false)
  | 2 => ("SlotRadio$Frame", "dataSlots", "I", false)
  | 3 => ("SlotRadio$Frame", "passed", "I", false)
  | 4 => ("SlotRadio$Frame", "row", "LSlotRadio$Row;", true)
  | _ => ("SlotRadio$Frame", "good", "[J", true)
def tyX2 : Nat → FieldType := fun k => match k with
  | 0 => .int
  | 1 => .int
  | 2 => .int
  | 3 => .int
  | 4 => .object "SlotRadio$Row"
  | _ => .array .long
theorem nmX2 : ∀ a, a < 6 → ∀ b, b < 6 → a ≠ b → (TX2 a).2.1 ≠ (TX2 b).2.1 := by decide +kernel
theorem tyX2_ok : ∀ k, k < 6 → parseFieldDescriptor (TX2 k).2.2.1 = some (tyX2 k) := by decide +kernel
abbrev cX2_init : ByteArray := prog_4_method_1_code
def yX2_init : MethodName := ⟨RX2, "<init>", "(I)V"⟩
abbrev cX2_make : ByteArray := prog_4_method_2_code
def yX2_make : MethodName := ⟨RX2, "make", "(III)V"⟩
abbrev cX2_length : ByteArray := prog_4_method_3_code
def yX2_length : MethodName := ⟨RX2, "length", "()I"⟩
abbrev cX2_isOver : ByteArray := prog_4_method_4_code
def yX2_isOver : MethodName := ⟨RX2, "isOver", "()Z"⟩
abbrev cX2_left : ByteArray := prog_4_method_5_code
def yX2_left : MethodName := ⟨RX2, "left", "()I"⟩
abbrev cX2_markGood : ByteArray := prog_4_method_6_code
def yX2_markGood : MethodName := ⟨RX2, "markGood", "(I)V"⟩
abbrev cX2_areGood : ByteArray := prog_4_method_7_code
def yX2_areGood : MethodName := ⟨RX2, "areGood", "(III)Z"⟩
abbrev cX2_isReceivedAt : ByteArray := prog_4_method_8_code
def yX2_isReceivedAt : MethodName := ⟨RX2, "isReceivedAt", "(I)Z"⟩
def RX3 : String := "SlotRadio$NoiseRows"
def TX3 : u_T := fun k => match k with
  | 0 => ("SlotRadio$NoiseRows", "station", "[I", true)
  | 1 => ("SlotRadio$NoiseRows", "first", "[J", true)
  | 2 => ("SlotRadio$NoiseRows", "end", "[J", true)
  | _ => ("SlotRadio$NoiseRows", "size", "I", false)
def tyX3 : Nat → FieldType := fun k => match k with
  | 0 => .array .int
  | 1 => .array .long
  | 2 => .array .long
  | _ => .int
theorem nmX3 : ∀ a, a < 4 → ∀ b, b < 4 → a ≠ b → (TX3 a).2.1 ≠ (TX3 b).2.1 := by decide +kernel
theorem tyX3_ok : ∀ k, k < 4 → parseFieldDescriptor (TX3 k).2.2.1 = some (tyX3 k) := by decide +kernel
abbrev cX3_init : ByteArray := prog_5_method_1_code
def yX3_init : MethodName := ⟨RX3, "<init>", "()V"⟩
abbrev cX3_isFull : ByteArray := prog_5_method_2_code
def yX3_isFull : MethodName := ⟨RX3, "isFull", "()Z"⟩
abbrev cX3_add : ByteArray := prog_5_method_3_code
def yX3_add : MethodName := ⟨RX3, "add", "(IJI)V"⟩
abbrev cX3_cover : ByteArray := prog_5_method_4_code
def yX3_cover : MethodName := ⟨RX3, "cover", "(IJ)Z"⟩
def RX4 : String := "SlotRadio$Payloads"
def TX4 : u_T := fun k => match k with
  | 0 => ("SlotRadio$Payloads", "pair", "[I", true)
  | 1 => ("SlotRadio$Payloads", "slots", "[I", true)
  | 2 => ("SlotRadio$Payloads", "number", "[I", true)
  | 3 => ("SlotRadio$Payloads", "held", "[Z", true)
  | 4 => ("SlotRadio$Payloads", "size", "I", false)
  | 5 => ("SlotRadio$Payloads", "nextNumber", "[I", true)
  | _ => ("SlotRadio$Payloads", "wanted", "[I", true)
def tyX4 : Nat → FieldType := fun k => match k with
  | 0 => .array .int
  | 1 => .array .int
  | 2 => .array .int
  | 3 => .array .boolean
  | 4 => .int
  | 5 => .array .int
  | _ => .array .int
theorem nmX4 : ∀ a, a < 7 → ∀ b, b < 7 → a ≠ b → (TX4 a).2.1 ≠ (TX4 b).2.1 := by decide +kernel
theorem tyX4_ok : ∀ k, k < 7 → parseFieldDescriptor (TX4 k).2.2.1 = some (tyX4 k) := by decide +kernel
abbrev cX4_init : ByteArray := prog_6_method_1_code
def yX4_init : MethodName := ⟨RX4, "<init>", "()V"⟩
abbrev cX4_pairOf : ByteArray := prog_6_method_2_code
def yX4_pairOf : MethodName := ⟨RX4, "pairOf", "(II)I"⟩
abbrev cX4_isFull : ByteArray := prog_6_method_3_code
def yX4_isFull : MethodName := ⟨RX4, "isFull", "()Z"⟩
abbrev cX4_add : ByteArray := prog_6_method_4_code
def yX4_add : MethodName := ⟨RX4, "add", "(III)I"⟩
abbrev cX4_numberOf : ByteArray := prog_6_method_5_code
def yX4_numberOf : MethodName := ⟨RX4, "numberOf", "(I)I"⟩
abbrev cX4_receiverOf : ByteArray := prog_6_method_6_code
def yX4_receiverOf : MethodName := ⟨RX4, "receiverOf", "(LSlotRadio$Row;)I"⟩
abbrev cX4_dataSlotsOf : ByteArray := prog_6_method_7_code
def yX4_dataSlotsOf : MethodName := ⟨RX4, "dataSlotsOf", "(LSlotRadio$Row;)I"⟩
abbrev cX4_copyFirstOfOneReceiver : ByteArray := prog_6_method_8_code
def yX4_copyFirstOfOneReceiver : MethodName := ⟨RX4, "copyFirstOfOneReceiver", "(LSlotRadio$Row;LSlotRadio$Row;)V"⟩
abbrev cX4_copyGood : ByteArray := prog_6_method_9_code
def yX4_copyGood : MethodName := ⟨RX4, "copyGood", "(LSlotRadio$Frame;ILSlotRadio$Row;)V"⟩
abbrev cX4_wantAtLeast : ByteArray := prog_6_method_10_code
def yX4_wantAtLeast : MethodName := ⟨RX4, "wantAtLeast", "(II)V"⟩
abbrev cX4_hold : ByteArray := prog_6_method_11_code
def yX4_hold : MethodName := ⟨RX4, "hold", "(II)V"⟩
abbrev cX4_releases : ByteArray := prog_6_method_12_code
def yX4_releases : MethodName := ⟨RX4, "releases", "(II)Z"⟩
def RX5 : String := "SlotRadio$Row"
def TX5 : u_T := fun k => match k with
  | 0 => ("SlotRadio$Row", "payload", "[I", true)
  | _ => ("SlotRadio$Row", "size", "I", false)
def tyX5 : Nat → FieldType := fun k => match k with
  | 0 => .array .int
  | _ => .int
theorem nmX5 : ∀ a, a < 2 → ∀ b, b < 2 → a ≠ b → (TX5 a).2.1 ≠ (TX5 b).2.1 := by decide +kernel
theorem tyX5_ok : ∀ k, k < 2 → parseFieldDescriptor (TX5 k).2.2.1 = some (tyX5 k) := by decide +kernel
abbrev cX5_init : ByteArray := prog_7_method_1_code
def yX5_init : MethodName := ⟨RX5, "<init>", "(I)V"⟩
abbrev cX5_isFull : ByteArray := prog_7_method_2_code
def yX5_isFull : MethodName := ⟨RX5, "isFull", "()Z"⟩
abbrev cX5_get : ByteArray := prog_7_method_3_code
def yX5_get : MethodName := ⟨RX5, "get", "(I)I"⟩
abbrev cX5_add : ByteArray := prog_7_method_4_code
def yX5_add : MethodName := ⟨RX5, "add", "(I)V"⟩
abbrev cX5_copy : ByteArray := prog_7_method_5_code
def yX5_copy : MethodName := ⟨RX5, "copy", "(LSlotRadio$Row;)V"⟩
abbrev cX5_drop : ByteArray := prog_7_method_6_code
def yX5_drop : MethodName := ⟨RX5, "drop", "(I)V"⟩
def RX6 : String := "SlotRadio$Station"
def TX6 : u_T := fun k => match k with
  | 0 => ("SlotRadio$Station", "number", "I", true)
  | 1 => ("SlotRadio$Station", "bit", "I", true)
  | 2 => ("SlotRadio$Station", "heard", "I", false)
  | 3 => ("SlotRadio$Station", "width", "I", false)
  | 4 => ("SlotRadio$Station", "tries", "I", false)
  | 5 => ("SlotRadio$Station", "count", "I", false)
  | 6 => ("SlotRadio$Station", "idle", "I", false)
  | 7 => ("SlotRadio$Station", "needs", "I", false)
  | 8 => ("SlotRadio$Station", "silentUntil", "J", false)
  | 9 => ("SlotRadio$Station", "waitKind", "I", false)
  | 10 => ("SlotRadio$Station", "waitFrom", "I", false)
  | 11 => ("SlotRadio$Station", "waitUntil", "J", false)
  | 12 => ("SlotRadio$Station", "dueAt", "J", false)
  | 13 => ("SlotRadio$Station", "due", "LSlotRadio$Frame;", false)
  | 14 => ("SlotRadio$Station", "sending", "LSlotRadio$Frame;", false)
  | 15 => ("SlotRadio$Station", "kept", "LSlotRadio$Row;", true)
  | 16 => ("SlotRadio$Station", "attempt", "LSlotRadio$Row;", true)
  | 17 => ("SlotRadio$Station", "begun", "[I", true)
  | 18 => ("SlotRadio$Station", "heardSome", "Z", false)
  | _ => ("SlotRadio$Station", "receivedAt", "J", false)
def tyX6 : Nat → FieldType := fun k => match k with
  | 0 => .int
  | 1 => .int
  | 2 => .int
  | 3 => .int
  | 4 => .int
  | 5 => .int
  | 6 => .int
  | 7 => .int
  | 8 => .long
  | 9 => .int
  | 10 => .int
  | 11 => .long
  | 12 => .long
  | 13 => .object "SlotRadio$Frame"
  | 14 => .object "SlotRadio$Frame"
  | 15 => .object "SlotRadio$Row"
  | 16 => .object "SlotRadio$Row"
  | 17 => .array .int
  | 18 => .boolean
  | _ => .long
theorem nmX6 : ∀ a, a < 20 → ∀ b, b < 20 → a ≠ b → (TX6 a).2.1 ≠ (TX6 b).2.1 := by decide +kernel
theorem tyX6_ok : ∀ k, k < 20 → parseFieldDescriptor (TX6 k).2.2.1 = some (tyX6 k) := by decide +kernel
abbrev cX6_init : ByteArray := prog_8_method_1_code
def yX6_init : MethodName := ⟨RX6, "<init>", "(II)V"⟩
abbrev cX6_isFree : ByteArray := prog_8_method_2_code
def yX6_isFree : MethodName := ⟨RX6, "isFree", "()Z"⟩
abbrev cX6_mayAttempt : ByteArray := prog_8_method_3_code
def yX6_mayAttempt : MethodName := ⟨RX6, "mayAttempt", "(J)Z"⟩
abbrev cX6_waitsFor : ByteArray := prog_8_method_4_code
def yX6_waitsFor : MethodName := ⟨RX6, "waitsFor", "(II)Z"⟩
abbrev cX6_startAnew : ByteArray := prog_8_method_5_code
def yX6_startAnew : MethodName := ⟨RX6, "startAnew", "()V"⟩
abbrev cX6_beginDue : ByteArray := prog_8_method_6_code
def yX6_beginDue : MethodName := ⟨RX6, "beginDue", "()V"⟩
abbrev cX6_countBegun : ByteArray := prog_8_method_7_code
def yX6_countBegun : MethodName := ⟨RX6, "countBegun", "()V"⟩
abbrev cX6_endFrame : ByteArray := prog_8_method_8_code
def yX6_endFrame : MethodName := ⟨RX6, "endFrame", "(J)V"⟩
abbrev cX6_countIdle : ByteArray := prog_8_method_9_code
def yX6_countIdle : MethodName := ⟨RX6, "countIdle", "(Z)V"⟩
def RX7 : String := "SlotRadio"
def TX7 : u_T := fun k => match k with
  | 0 => ("SlotRadio", "stations", "[LSlotRadio$Station;", true)
  | 1 => ("SlotRadio", "coins", "LSlotRadio$Coins;", true)
  | 2 => ("SlotRadio", "payloads", "LSlotRadio$Payloads;", true)
  | 3 => ("SlotRadio", "noiseRows", "LSlotRadio$NoiseRows;", true)
  | 4 => ("SlotRadio", "events", "LSlotRadio$Events;", true)
  | 5 => ("SlotRadio", "taken", "LSlotRadio$Row;", true)
  | 6 => ("SlotRadio", "askFrom", "I", false)
  | 7 => ("SlotRadio", "time", "J", false)
  | _ => ("SlotRadio", "senders", "I", false)
def tyX7 : Nat → FieldType := fun k => match k with
  | 0 => .array (.object "SlotRadio$Station")
  | 1 => .object "SlotRadio$Coins"
  | 2 => .object "SlotRadio$Payloads"
  | 3 => .object "SlotRadio$NoiseRows"
  | 4 => .object "SlotRadio$Events"
  | 5 => .object "SlotRadio$Row"
  | 6 => .int
  | 7 => .long
  | _ => .int
theorem nmX7 : ∀ a, a < 9 → ∀ b, b < 9 → a ≠ b → (TX7 a).2.1 ≠ (TX7 b).2.1 := by decide +kernel
theorem tyX7_ok : ∀ k, k < 9 → parseFieldDescriptor (TX7 k).2.2.1 = some (tyX7 k) := by decide +kernel
abbrev cX7_init : ByteArray := prog_1_method_1_code
def yX7_init : MethodName := ⟨RX7, "<init>", "(I)V"⟩
abbrev cX7_hear : ByteArray := prog_1_method_2_code
def yX7_hear : MethodName := ⟨RX7, "hear", "(IIZ)I"⟩
abbrev cX7_coin : ByteArray := prog_1_method_3_code
def yX7_coin : MethodName := ⟨RX7, "coin", "(I)I"⟩
abbrev cX7_threshold : ByteArray := prog_1_method_4_code
def yX7_threshold : MethodName := ⟨RX7, "threshold", "(I)I"⟩
abbrev cX7_offer : ByteArray := prog_1_method_5_code
def yX7_offer : MethodName := ⟨RX7, "offer", "(III)I"⟩
abbrev cX7_noise : ByteArray := prog_1_method_6_code
def yX7_noise : MethodName := ⟨RX7, "noise", "(IJI)I"⟩
abbrev cX7_run : ByteArray := prog_1_method_7_code
def yX7_run : MethodName := ⟨RX7, "run", "(I)I"⟩
abbrev cX7_event : ByteArray := prog_1_method_8_code
def yX7_event : MethodName := ⟨RX7, "event", "(II)I"⟩
abbrev cX7_state : ByteArray := prog_1_method_9_code
def yX7_state : MethodName := ⟨RX7, "state", "(II)I"⟩
abbrev cX7_sent : ByteArray := prog_1_method_10_code
def yX7_sent : MethodName := ⟨RX7, "sent", "(II)I"⟩
abbrev cX7_now : ByteArray := prog_1_method_11_code
def yX7_now : MethodName := ⟨RX7, "now", "()J"⟩
abbrev cX7_isStation : ByteArray := prog_1_method_12_code
def yX7_isStation : MethodName := ⟨RX7, "isStation", "(I)Z"⟩
abbrev cX7_drawCount : ByteArray := prog_1_method_13_code
def yX7_drawCount : MethodName := ⟨RX7, "drawCount", "(LSlotRadio$Station;)V"⟩
abbrev cX7_beginFrames : ByteArray := prog_1_method_14_code
def yX7_beginFrames : MethodName := ⟨RX7, "beginFrames", "()V"⟩
abbrev cX7_beginAttempt : ByteArray := prog_1_method_15_code
def yX7_beginAttempt : MethodName := ⟨RX7, "beginAttempt", "(LSlotRadio$Station;)V"⟩
abbrev cX7_failAttempt : ByteArray := prog_1_method_16_code
def yX7_failAttempt : MethodName := ⟨RX7, "failAttempt", "(LSlotRadio$Station;)V"⟩
abbrev cX7_markGoodSlots : ByteArray := prog_1_method_17_code
def yX7_markGoodSlots : MethodName := ⟨RX7, "markGoodSlots", "()V"⟩
abbrev cX7_isGood : ByteArray := prog_1_method_18_code
def yX7_isGood : MethodName := ⟨RX7, "isGood", "(LSlotRadio$Station;LSlotRadio$Station;)Z"⟩
abbrev cX7_endFrames : ByteArray := prog_1_method_19_code
def yX7_endFrames : MethodName := ⟨RX7, "endFrames", "()V"⟩
abbrev cX7_receive : ByteArray := prog_1_method_20_code
def yX7_receive : MethodName := ⟨RX7, "receive", "(LSlotRadio$Station;LSlotRadio$Station;LSlotRadio$Frame;)V"⟩
abbrev cX7_receiveAsk : ByteArray := prog_1_method_21_code
def yX7_receiveAsk : MethodName := ⟨RX7, "receiveAsk", "(LSlotRadio$Station;LSlotRadio$Station;LSlotRadio$Frame;)V"⟩
abbrev cX7_receiveAnswer : ByteArray := prog_1_method_22_code
def yX7_receiveAnswer : MethodName := ⟨RX7, "receiveAnswer", "(LSlotRadio$Station;LSlotRadio$Station;)V"⟩
abbrev cX7_receiveData : ByteArray := prog_1_method_23_code
def yX7_receiveData : MethodName := ⟨RX7, "receiveData", "(LSlotRadio$Station;LSlotRadio$Station;LSlotRadio$Frame;)V"⟩
abbrev cX7_receiveAcknowledge : ByteArray := prog_1_method_24_code
def yX7_receiveAcknowledge : MethodName := ⟨RX7, "receiveAcknowledge", "(LSlotRadio$Station;LSlotRadio$Station;LSlotRadio$Frame;)V"⟩
abbrev cX7_takePayloads : ByteArray := prog_1_method_25_code
def yX7_takePayloads : MethodName := ⟨RX7, "takePayloads", "(ILSlotRadio$Row;)V"⟩
abbrev cX7_countIdleSlots : ByteArray := prog_1_method_26_code
def yX7_countIdleSlots : MethodName := ⟨RX7, "countIdleSlots", "()V"⟩
def RX8 : String := "SlotRadioModel"
def TX8 : u_T := fun k => match k with
  | 0 => ("SlotRadioModel", "thrown", "I", false)
  | 1 => ("SlotRadioModel", "n", "I", true)
  | 2 => ("SlotRadioModel", "now", "J", false)
  | 3 => ("SlotRadioModel", "least", "I", false)
  | 4 => ("SlotRadioModel", "deaf", "[Z", true)
  | 5 => ("SlotRadioModel", "payloads", "I", false)
  | 6 => ("SlotRadioModel", "from", "[I", true)
  | 7 => ("SlotRadioModel", "to", "[I", true)
  | 8 => ("SlotRadioModel", "slots", "[I", true)
  | 9 => ("SlotRadioModel", "number", "[I", true)
  | 10 => ("SlotRadioModel", "kept", "[Z", true)
  | 11 => ("SlotRadioModel", "held", "[Z", true)
  | 12 => ("SlotRadioModel", "made", "[I", true)
  | 13 => ("SlotRadioModel", "wanted", "[I", true)
  | 14 => ("SlotRadioModel", "told", "I", false)
  | 15 => ("SlotRadioModel", "drawn", "I", false)
  | 16 => ("SlotRadioModel", "coins", "[I", true)
  | 17 => ("SlotRadioModel", "noises", "I", false)
  | 18 => ("SlotRadioModel", "noiseAt", "[I", true)
  | 19 => ("SlotRadioModel", "noiseFrom", "[J", true)
  | 20 => ("SlotRadioModel", "noiseFor", "[I", true)
  | 21 => ("SlotRadioModel", "events", "I", false)
  | 22 => ("SlotRadioModel", "eventOf", "[I", true)
  | 23 => ("SlotRadioModel", "eventKind", "[I", true)
  | 24 => ("SlotRadioModel", "eventSlot", "[J", true)
  | 25 => ("SlotRadioModel", "width", "[I", true)
  | 26 => ("SlotRadioModel", "tries", "[I", true)
  | 27 => ("SlotRadioModel", "counts", "[I", true)
  | 28 => ("SlotRadioModel", "idle", "[I", true)
  | 29 => ("SlotRadioModel", "needs", "[I", true)
  | 30 => ("SlotRadioModel", "silent", "[J", true)
  | 31 => ("SlotRadioModel", "waits", "[J", true)
  | 32 => ("SlotRadioModel", "waitsFor", "[I", true)
  | 33 => ("SlotRadioModel", "waitsKind", "[I", true)
  | 34 => ("SlotRadioModel", "dueAt", "[J", true)
  | 35 => ("SlotRadioModel", "dueKind", "[I", true)
  | 36 => ("SlotRadioModel", "dueTo", "[I", true)
  | 37 => ("SlotRadioModel", "dueSize", "[I", true)
  | 38 => ("SlotRadioModel", "dueTells", "[I", true)
  | 39 => ("SlotRadioModel", "heard", "[Z", true)
  | 40 => ("SlotRadioModel", "gotAt", "[J", true)
  | 41 => ("SlotRadioModel", "began", "[I", true)
  | 42 => ("SlotRadioModel", "tried", "[I", true)
  | 43 => ("SlotRadioModel", "triedCount", "[I", true)
  | 44 => ("SlotRadioModel", "triedSize", "[I", true)
  | 45 => ("SlotRadioModel", "kind", "[I", true)
  | 46 => ("SlotRadioModel", "whom", "[I", true)
  | 47 => ("SlotRadioModel", "first", "[J", true)
  | 48 => ("SlotRadioModel", "last", "[J", true)
  | 49 => ("SlotRadioModel", "about", "[I", true)
  | 50 => ("SlotRadioModel", "tells", "[I", true)
  | _ => ("SlotRadioModel", "bad", "[J", true)
def tyX8 : Nat → FieldType := fun k => match k with
  | 0 => .int
  | 1 => .int
  | 2 => .long
  | 3 => .int
  | 4 => .array .boolean
  | 5 => .int
  | 6 => .array .int
  | 7 => .array .int
  | 8 => .array .int
  | 9 => .array .int
  | 10 => .array .boolean
  | 11 => .array .boolean
  | 12 => .array .int
  | 13 => .array .int
  | 14 => .int
  | 15 => .int
  | 16 => .array .int
  | 17 => .int
  | 18 => .array .int
  | 19 => .array .long
  | 20 => .array .int
  | 21 => .int
  | 22 => .array .int
  | 23 => .array .int
  | 24 => .array .long
  | 25 => .array .int
  | 26 => .array .int
  | 27 => .array .int
  | 28 => .array .int
  | 29 => .array .int
  | 30 => .array .long
  | 31 => .array .long
  | 32 => .array .int
  | 33 => .array .int
  | 34 => .array .long
  | 35 => .array .int
  | 36 => .array .int
  | 37 => .array .int
  | 38 => .array .int
  | 39 => .array .boolean
  | 40 => .array .long
  | 41 => .array .int
  | 42 => .array .int
  | 43 => .array .int
  | 44 => .array .int
  | 45 => .array .int
  | 46 => .array .int
  | 47 => .array .long
  | 48 => .array .long
  | 49 => .array .int
  | 50 => .array .int
  | _ => .array .long
theorem nmX8 : ∀ a, a < 52 → ∀ b, b < 52 → a ≠ b → (TX8 a).2.1 ≠ (TX8 b).2.1 := by decide +kernel
theorem tyX8_ok : ∀ k, k < 52 → parseFieldDescriptor (TX8 k).2.2.1 = some (tyX8 k) := by decide +kernel
abbrev cX8_init : ByteArray := prog_10_method_1_code
def yX8_init : MethodName := ⟨RX8, "<init>", "(I)V"⟩
abbrev cX8_isStation : ByteArray := prog_10_method_3_code
def yX8_isStation : MethodName := ⟨RX8, "isStation", "(I)Z"⟩
abbrev cX8_hears : ByteArray := prog_10_method_4_code
def yX8_hears : MethodName := ⟨RX8, "hears", "(II)Z"⟩
abbrev cX8_hear : ByteArray := prog_10_method_5_code
def yX8_hear : MethodName := ⟨RX8, "hear", "(IIZ)I"⟩
abbrev cX8_coin : ByteArray := prog_10_method_6_code
def yX8_coin : MethodName := ⟨RX8, "coin", "(I)I"⟩
abbrev cX8_draw : ByteArray := prog_10_method_7_code
def yX8_draw : MethodName := ⟨RX8, "draw", "(I)V"⟩
abbrev cX8_threshold : ByteArray := prog_10_method_8_code
def yX8_threshold : MethodName := ⟨RX8, "threshold", "(I)I"⟩
abbrev cX8_keeps : ByteArray := prog_10_method_9_code
def yX8_keeps : MethodName := ⟨RX8, "keeps", "(I)I"⟩
abbrev cX8_offer : ByteArray := prog_10_method_10_code
def yX8_offer : MethodName := ⟨RX8, "offer", "(III)I"⟩
abbrev cX8_noise : ByteArray := prog_10_method_11_code
def yX8_noise : MethodName := ⟨RX8, "noise", "(IJI)I"⟩
abbrev cX8_hasNoise : ByteArray := prog_10_method_12_code
def yX8_hasNoise : MethodName := ⟨RX8, "hasNoise", "(IJ)Z"⟩
abbrev cX8_tell : ByteArray := prog_10_method_13_code
def yX8_tell : MethodName := ⟨RX8, "tell", "(IIJ)V"⟩
abbrev cX8_sends : ByteArray := prog_10_method_14_code
def yX8_sends : MethodName := ⟨RX8, "sends", "(IJ)Z"⟩
abbrev cX8_fail : ByteArray := prog_10_method_15_code
def yX8_fail : MethodName := ⟨RX8, "fail", "(IJ)V"⟩
abbrev cX8_begin : ByteArray := prog_10_method_16_code
def yX8_begin : MethodName := ⟨RX8, "begin", "(IIIIIJ)V"⟩
abbrev cX8_attempt : ByteArray := prog_10_method_17_code
def yX8_attempt : MethodName := ⟨RX8, "attempt", "(IJ)V"⟩
abbrev cX8_stepOne : ByteArray := prog_10_method_18_code
def yX8_stepOne : MethodName := ⟨RX8, "stepOne", "(J)V"⟩
abbrev cX8_hearsAny : ByteArray := prog_10_method_19_code
def yX8_hearsAny : MethodName := ⟨RX8, "hearsAny", "(IIJ)Z"⟩
abbrev cX8_stepTwo : ByteArray := prog_10_method_20_code
def yX8_stepTwo : MethodName := ⟨RX8, "stepTwo", "(J)V"⟩
abbrev cX8_left : ByteArray := prog_10_method_21_code
def yX8_left : MethodName := ⟨RX8, "left", "(I)I"⟩
abbrev cX8_due : ByteArray := prog_10_method_22_code
def yX8_due : MethodName := ⟨RX8, "due", "(IIIIIJ)V"⟩
abbrev cX8_handOver : ByteArray := prog_10_method_23_code
def yX8_handOver : MethodName := ⟨RX8, "handOver", "(IJ)V"⟩
abbrev cX8_take : ByteArray := prog_10_method_24_code
def yX8_take : MethodName := ⟨RX8, "take", "(IIJ)I"⟩
abbrev cX8_acknowledged : ByteArray := prog_10_method_25_code
def yX8_acknowledged : MethodName := ⟨RX8, "acknowledged", "(IIJ)V"⟩
abbrev cX8_receive : ByteArray := prog_10_method_26_code
def yX8_receive : MethodName := ⟨RX8, "receive", "(IIJ)V"⟩
abbrev cX8_stepThree : ByteArray := prog_10_method_27_code
def yX8_stepThree : MethodName := ⟨RX8, "stepThree", "(J)V"⟩
abbrev cX8_stepFour : ByteArray := prog_10_method_28_code
def yX8_stepFour : MethodName := ⟨RX8, "stepFour", "(J)V"⟩
abbrev cX8_run : ByteArray := prog_10_method_29_code
def yX8_run : MethodName := ⟨RX8, "run", "(I)I"⟩
abbrev cX8_event : ByteArray := prog_10_method_30_code
def yX8_event : MethodName := ⟨RX8, "event", "(II)I"⟩
abbrev cX8_state : ByteArray := prog_10_method_31_code
def yX8_state : MethodName := ⟨RX8, "state", "(II)I"⟩
abbrev cX8_sent : ByteArray := prog_10_method_32_code
def yX8_sent : MethodName := ⟨RX8, "sent", "(II)I"⟩
abbrev cX8_now : ByteArray := prog_10_method_33_code
def yX8_now : MethodName := ⟨RX8, "now", "()J"⟩
def RJ9 : String := "java/lang/Math"
def TJ9 : u_T := fun k => match k with
  | _ => ("", "", "", false)
def tyJ9 : Nat → FieldType := fun k => match k with
  | _ => .int
abbrev cJ9_max_7cf53 : ByteArray := prog_11_method_65_code
def yJ9_max_7cf53 : MethodName := ⟨RJ9, "max", "(II)I"⟩
abbrev cJ9_max_f86c9 : ByteArray := prog_11_method_66_code
def yJ9_max_f86c9 : MethodName := ⟨RJ9, "max", "(JJ)J"⟩
abbrev cJ9_min_7cf53 : ByteArray := prog_11_method_69_code
def yJ9_min_7cf53 : MethodName := ⟨RJ9, "min", "(II)I"⟩
def RJ7 : String := "java/util/Arrays"
def TJ7 : u_T := fun k => match k with
  | _ => ("", "", "", false)
def tyJ7 : Nat → FieldType := fun k => match k with
  | _ => .int
abbrev cJ7_fill_d0a16 : ByteArray := prog_12_method_101_code
def yJ7_fill_d0a16 : MethodName := ⟨RJ7, "fill", "([JJ)V"⟩
def RL : String := "SlotRadioLaw"
abbrev cL_cell : ByteArray := method_2_code
def yL_cell : MethodName := ⟨RL, "cell", "([II)I"⟩
abbrev cL_law : ByteArray := code
def yL_law : MethodName := ⟨RL, "law", "([I)Z"⟩
end
section
theorem k_mem {w : Cond} (i : Nat) (h : lw_tbl[i]? = some w) (hg : goodWord w = true) : w ∈ lw_tbl.filter goodWord := List.mem_filter.mpr ⟨List.mem_of_getElem? h, hg⟩
def kBig : List Cond := lw_tbl.filter goodWord
theorem kBig_good : ∀ q ∈ kBig, q ∈ kBig ∧ ((q.onTables && q.keeps) = true ∨ ∃ ty, q = .arrayClass ty) := fun q h => ⟨h, good_of_word (List.mem_filter.mp h).2⟩
theorem kBig_in : ∀ q ∈ kBig, q ∈ lw_tbl := fun q h => (List.mem_filter.mp h).1
theorem k_all {ws : List Cond} (h1 : ∀ w ∈ ws, w ∈ lw_tbl) (h2 : ws.all goodWord = true) : ∀ w ∈ ws, w ∈ kBig := fun w h => List.mem_filter.mpr ⟨h1 w h, List.all_eq_true.mp h2 w h⟩
def kCl : List vw_C := [(RX0, TX0, 3), (RX1, TX1, 4), (RX2, TX2, 6), (RX3, TX3, 4), (RX4, TX4, 7), (RX5, TX5, 2), (RX6, TX6, 20), (RX7, TX7, 9), (RX8, TX8, 52)]
def kNf : Nat → Nat := fun c => match c with
  | 0 => 3
  | 1 => 4
  | 2 => 6
  | 3 => 4
  | 4 => 7
  | 5 => 2
  | 6 => 20
  | 7 => 9
  | 8 => 52
  | _ => 0
def kTf : Nat → Nat → FieldType := fun c => match c with
  | 0 => tyX0
  | 1 => tyX1
  | 2 => tyX2
  | 3 => tyX3
  | 4 => tyX4
  | 5 => tyX5
  | 6 => tyX6
  | 7 => tyX7
  | 8 => tyX8
  | _ => fun _ => .int
def kTa : Nat → FieldType := fun i => match i with
  | 0 => .int
  | 1 => .long
  | 2 => .boolean
  | _ => .object "SlotRadio$Station"
def kTys (d : Nat → ClassId) : List (ClassId × FieldType) := [(d 0, .int), (d 1, .long), (d 2, .boolean), (d 3, .object "SlotRadio$Station")]
theorem kin_X0 : ∀ q ∈ u_ws RX0 TX0 3, q ∈ kBig := k_all (by decide +kernel) (by decide +kernel)
theorem kin_X1 : ∀ q ∈ u_ws RX1 TX1 4, q ∈ kBig := k_all (by decide +kernel) (by decide +kernel)
theorem kin_X2 : ∀ q ∈ u_ws RX2 TX2 6, q ∈ kBig := k_all (by decide +kernel) (by decide +kernel)
theorem kin_X3 : ∀ q ∈ u_ws RX3 TX3 4, q ∈ kBig := k_all (by decide +kernel) (by decide +kernel)
theorem kin_X4 : ∀ q ∈ u_ws RX4 TX4 7, q ∈ kBig := k_all (by decide +kernel) (by decide +kernel)
theorem kin_X5 : ∀ q ∈ u_ws RX5 TX5 2, q ∈ kBig := k_all (by decide +kernel) (by decide +kernel)
theorem kin_X6 : ∀ q ∈ u_ws RX6 TX6 20, q ∈ kBig := k_all (by decide +kernel) (by decide +kernel)
theorem kin_X7 : ∀ q ∈ u_ws RX7 TX7 9, q ∈ kBig := k_all (by decide +kernel) (by decide +kernel)
theorem kin_X8 : ∀ q ∈ u_ws RX8 TX8 52, q ∈ kBig := k_all (by decide +kernel) (by decide +kernel)
theorem kf_X0_9 : Cond.fieldLink RX0 9 "SlotRadio$Coins" "value" "[I" ∈ kBig := k_mem 62 (by decide +kernel) (by decide +kernel)
theorem kf_X0_15 : Cond.fieldLink RX0 15 "SlotRadio$Coins" "told" "I" ∈ kBig := k_mem 63 (by decide +kernel) (by decide +kernel)
theorem kf_X0_19 : Cond.fieldLink RX0 19 "SlotRadio$Coins" "drawn" "I" ∈ kBig := k_mem 64 (by decide +kernel) (by decide +kernel)
theorem kf_X4_9 : Cond.fieldLink RX4 9 "SlotRadio$Payloads" "pair" "[I" ∈ kBig := k_mem 79 (by decide +kernel) (by decide +kernel)
theorem kf_X4_15 : Cond.fieldLink RX4 15 "SlotRadio$Payloads" "slots" "[I" ∈ kBig := k_mem 80 (by decide +kernel) (by decide +kernel)
theorem kf_X4_18 : Cond.fieldLink RX4 18 "SlotRadio$Payloads" "number" "[I" ∈ kBig := k_mem 81 (by decide +kernel) (by decide +kernel)
theorem kf_X4_21 : Cond.fieldLink RX4 21 "SlotRadio$Payloads" "held" "[Z" ∈ kBig := k_mem 82 (by decide +kernel) (by decide +kernel)
theorem kf_X4_25 : Cond.fieldLink RX4 25 "SlotRadio$Payloads" "size" "I" ∈ kBig := k_mem 83 (by decide +kernel) (by decide +kernel)
theorem kf_X7_329 : Cond.fieldLink RX7 329 "SlotRadio$Payloads" "size" "I" ∈ kBig := k_mem 84 (by decide +kernel) (by decide +kernel)
theorem kf_X4_29 : Cond.fieldLink RX4 29 "SlotRadio$Payloads" "nextNumber" "[I" ∈ kBig := k_mem 85 (by decide +kernel) (by decide +kernel)
theorem kf_X4_32 : Cond.fieldLink RX4 32 "SlotRadio$Payloads" "wanted" "[I" ∈ kBig := k_mem 86 (by decide +kernel) (by decide +kernel)
theorem kf_X3_9 : Cond.fieldLink RX3 9 "SlotRadio$NoiseRows" "station" "[I" ∈ kBig := k_mem 109 (by decide +kernel) (by decide +kernel)
theorem kf_X3_15 : Cond.fieldLink RX3 15 "SlotRadio$NoiseRows" "first" "[J" ∈ kBig := k_mem 110 (by decide +kernel) (by decide +kernel)
theorem kf_X3_19 : Cond.fieldLink RX3 19 "SlotRadio$NoiseRows" "end" "[J" ∈ kBig := k_mem 111 (by decide +kernel) (by decide +kernel)
theorem kf_X3_22 : Cond.fieldLink RX3 22 "SlotRadio$NoiseRows" "size" "I" ∈ kBig := k_mem 112 (by decide +kernel) (by decide +kernel)
theorem kf_X7_117 : Cond.fieldLink RX7 117 "SlotRadio$NoiseRows" "size" "I" ∈ kBig := k_mem 113 (by decide +kernel) (by decide +kernel)
theorem kf_X1_9 : Cond.fieldLink RX1 9 "SlotRadio$Events" "payload" "[I" ∈ kBig := k_mem 130 (by decide +kernel) (by decide +kernel)
theorem kf_X7_136 : Cond.fieldLink RX7 136 "SlotRadio$Events" "payload" "[I" ∈ kBig := k_mem 131 (by decide +kernel) (by decide +kernel)
theorem kf_X1_15 : Cond.fieldLink RX1 15 "SlotRadio$Events" "kind" "[I" ∈ kBig := k_mem 132 (by decide +kernel) (by decide +kernel)
theorem kf_X7_140 : Cond.fieldLink RX7 140 "SlotRadio$Events" "kind" "[I" ∈ kBig := k_mem 133 (by decide +kernel) (by decide +kernel)
theorem kf_X1_18 : Cond.fieldLink RX1 18 "SlotRadio$Events" "slot" "[I" ∈ kBig := k_mem 134 (by decide +kernel) (by decide +kernel)
theorem kf_X7_143 : Cond.fieldLink RX7 143 "SlotRadio$Events" "slot" "[I" ∈ kBig := k_mem 135 (by decide +kernel) (by decide +kernel)
theorem kf_X1_21 : Cond.fieldLink RX1 21 "SlotRadio$Events" "total" "I" ∈ kBig := k_mem 136 (by decide +kernel) (by decide +kernel)
theorem kf_X7_118 : Cond.fieldLink RX7 118 "SlotRadio$Events" "total" "I" ∈ kBig := k_mem 137 (by decide +kernel) (by decide +kernel)
theorem kf_X5_13 : Cond.fieldLink RX5 13 "SlotRadio$Row" "payload" "[I" ∈ kBig := k_mem 153 (by decide +kernel) (by decide +kernel)
theorem kf_X5_7 : Cond.fieldLink RX5 7 "SlotRadio$Row" "size" "I" ∈ kBig := k_mem 154 (by decide +kernel) (by decide +kernel)
theorem kf_X2_37 : Cond.fieldLink RX2 37 "SlotRadio$Row" "size" "I" ∈ kBig := k_mem 155 (by decide +kernel) (by decide +kernel)
theorem kf_X6_94 : Cond.fieldLink RX6 94 "SlotRadio$Row" "size" "I" ∈ kBig := k_mem 156 (by decide +kernel) (by decide +kernel)
theorem kf_X7_103 : Cond.fieldLink RX7 103 "SlotRadio$Row" "size" "I" ∈ kBig := k_mem 157 (by decide +kernel) (by decide +kernel)
theorem kf_X4_45 : Cond.fieldLink RX4 45 "SlotRadio$Row" "size" "I" ∈ kBig := k_mem 158 (by decide +kernel) (by decide +kernel)
theorem kf_X2_9 : Cond.fieldLink RX2 9 "SlotRadio$Frame" "kind" "I" ∈ kBig := k_mem 188 (by decide +kernel) (by decide +kernel)
theorem kf_X6_87 : Cond.fieldLink RX6 87 "SlotRadio$Frame" "kind" "I" ∈ kBig := k_mem 189 (by decide +kernel) (by decide +kernel)
theorem kf_X7_165 : Cond.fieldLink RX7 165 "SlotRadio$Frame" "kind" "I" ∈ kBig := k_mem 190 (by decide +kernel) (by decide +kernel)
theorem kf_X2_15 : Cond.fieldLink RX2 15 "SlotRadio$Frame" "to" "I" ∈ kBig := k_mem 191 (by decide +kernel) (by decide +kernel)
theorem kf_X6_100 : Cond.fieldLink RX6 100 "SlotRadio$Frame" "to" "I" ∈ kBig := k_mem 192 (by decide +kernel) (by decide +kernel)
theorem kf_X7_281 : Cond.fieldLink RX7 281 "SlotRadio$Frame" "to" "I" ∈ kBig := k_mem 193 (by decide +kernel) (by decide +kernel)
theorem kf_X2_18 : Cond.fieldLink RX2 18 "SlotRadio$Frame" "dataSlots" "I" ∈ kBig := k_mem 194 (by decide +kernel) (by decide +kernel)
theorem kf_X7_300 : Cond.fieldLink RX7 300 "SlotRadio$Frame" "dataSlots" "I" ∈ kBig := k_mem 195 (by decide +kernel) (by decide +kernel)
theorem kf_X2_21 : Cond.fieldLink RX2 21 "SlotRadio$Frame" "passed" "I" ∈ kBig := k_mem 196 (by decide +kernel) (by decide +kernel)
theorem kf_X7_257 : Cond.fieldLink RX7 257 "SlotRadio$Frame" "passed" "I" ∈ kBig := k_mem 197 (by decide +kernel) (by decide +kernel)
theorem kf_X2_29 : Cond.fieldLink RX2 29 "SlotRadio$Frame" "row" "LSlotRadio$Row;" ∈ kBig := k_mem 198 (by decide +kernel) (by decide +kernel)
theorem kf_X4_54 : Cond.fieldLink RX4 54 "SlotRadio$Frame" "row" "LSlotRadio$Row;" ∈ kBig := k_mem 199 (by decide +kernel) (by decide +kernel)
theorem kf_X7_225 : Cond.fieldLink RX7 225 "SlotRadio$Frame" "row" "LSlotRadio$Row;" ∈ kBig := k_mem 200 (by decide +kernel) (by decide +kernel)
theorem kf_X2_33 : Cond.fieldLink RX2 33 "SlotRadio$Frame" "good" "[J" ∈ kBig := k_mem 201 (by decide +kernel) (by decide +kernel)
theorem kf_X6_68 : Cond.fieldLink RX6 68 "SlotRadio$Station" "number" "I" ∈ kBig := k_mem 215 (by decide +kernel) (by decide +kernel)
theorem kf_X7_251 : Cond.fieldLink RX7 251 "SlotRadio$Station" "number" "I" ∈ kBig := k_mem 216 (by decide +kernel) (by decide +kernel)
theorem kf_X6_71 : Cond.fieldLink RX6 71 "SlotRadio$Station" "bit" "I" ∈ kBig := k_mem 217 (by decide +kernel) (by decide +kernel)
theorem kf_X7_79 : Cond.fieldLink RX7 79 "SlotRadio$Station" "bit" "I" ∈ kBig := k_mem 218 (by decide +kernel) (by decide +kernel)
theorem kf_X6_74 : Cond.fieldLink RX6 74 "SlotRadio$Station" "heard" "I" ∈ kBig := k_mem 219 (by decide +kernel) (by decide +kernel)
theorem kf_X7_82 : Cond.fieldLink RX7 82 "SlotRadio$Station" "heard" "I" ∈ kBig := k_mem 220 (by decide +kernel) (by decide +kernel)
theorem kf_X6_9 : Cond.fieldLink RX6 9 "SlotRadio$Station" "width" "I" ∈ kBig := k_mem 221 (by decide +kernel) (by decide +kernel)
theorem kf_X7_146 : Cond.fieldLink RX7 146 "SlotRadio$Station" "width" "I" ∈ kBig := k_mem 222 (by decide +kernel) (by decide +kernel)
theorem kf_X6_15 : Cond.fieldLink RX6 15 "SlotRadio$Station" "tries" "I" ∈ kBig := k_mem 223 (by decide +kernel) (by decide +kernel)
theorem kf_X7_152 : Cond.fieldLink RX7 152 "SlotRadio$Station" "tries" "I" ∈ kBig := k_mem 224 (by decide +kernel) (by decide +kernel)
theorem kf_X6_18 : Cond.fieldLink RX6 18 "SlotRadio$Station" "count" "I" ∈ kBig := k_mem 225 (by decide +kernel) (by decide +kernel)
theorem kf_X7_149 : Cond.fieldLink RX7 149 "SlotRadio$Station" "count" "I" ∈ kBig := k_mem 226 (by decide +kernel) (by decide +kernel)
theorem kf_X6_21 : Cond.fieldLink RX6 21 "SlotRadio$Station" "idle" "I" ∈ kBig := k_mem 227 (by decide +kernel) (by decide +kernel)
theorem kf_X7_169 : Cond.fieldLink RX7 169 "SlotRadio$Station" "idle" "I" ∈ kBig := k_mem 228 (by decide +kernel) (by decide +kernel)
theorem kf_X6_24 : Cond.fieldLink RX6 24 "SlotRadio$Station" "needs" "I" ∈ kBig := k_mem 229 (by decide +kernel) (by decide +kernel)
theorem kf_X7_172 : Cond.fieldLink RX7 172 "SlotRadio$Station" "needs" "I" ∈ kBig := k_mem 230 (by decide +kernel) (by decide +kernel)
theorem kf_X6_27 : Cond.fieldLink RX6 27 "SlotRadio$Station" "silentUntil" "J" ∈ kBig := k_mem 231 (by decide +kernel) (by decide +kernel)
theorem kf_X7_155 : Cond.fieldLink RX7 155 "SlotRadio$Station" "silentUntil" "J" ∈ kBig := k_mem 232 (by decide +kernel) (by decide +kernel)
theorem kf_X6_31 : Cond.fieldLink RX6 31 "SlotRadio$Station" "waitKind" "I" ∈ kBig := k_mem 233 (by decide +kernel) (by decide +kernel)
theorem kf_X7_182 : Cond.fieldLink RX7 182 "SlotRadio$Station" "waitKind" "I" ∈ kBig := k_mem 234 (by decide +kernel) (by decide +kernel)
theorem kf_X6_34 : Cond.fieldLink RX6 34 "SlotRadio$Station" "waitFrom" "I" ∈ kBig := k_mem 235 (by decide +kernel) (by decide +kernel)
theorem kf_X6_37 : Cond.fieldLink RX6 37 "SlotRadio$Station" "waitUntil" "J" ∈ kBig := k_mem 236 (by decide +kernel) (by decide +kernel)
theorem kf_X7_185 : Cond.fieldLink RX7 185 "SlotRadio$Station" "waitUntil" "J" ∈ kBig := k_mem 237 (by decide +kernel) (by decide +kernel)
theorem kf_X6_40 : Cond.fieldLink RX6 40 "SlotRadio$Station" "dueAt" "J" ∈ kBig := k_mem 238 (by decide +kernel) (by decide +kernel)
theorem kf_X7_194 : Cond.fieldLink RX7 194 "SlotRadio$Station" "dueAt" "J" ∈ kBig := k_mem 239 (by decide +kernel) (by decide +kernel)
theorem kf_X6_80 : Cond.fieldLink RX6 80 "SlotRadio$Station" "due" "LSlotRadio$Frame;" ∈ kBig := k_mem 240 (by decide +kernel) (by decide +kernel)
theorem kf_X7_191 : Cond.fieldLink RX7 191 "SlotRadio$Station" "due" "LSlotRadio$Frame;" ∈ kBig := k_mem 241 (by decide +kernel) (by decide +kernel)
theorem kf_X6_84 : Cond.fieldLink RX6 84 "SlotRadio$Station" "sending" "LSlotRadio$Frame;" ∈ kBig := k_mem 242 (by decide +kernel) (by decide +kernel)
theorem kf_X7_161 : Cond.fieldLink RX7 161 "SlotRadio$Station" "sending" "LSlotRadio$Frame;" ∈ kBig := k_mem 243 (by decide +kernel) (by decide +kernel)
theorem kf_X6_48 : Cond.fieldLink RX6 48 "SlotRadio$Station" "kept" "LSlotRadio$Row;" ∈ kBig := k_mem 244 (by decide +kernel) (by decide +kernel)
theorem kf_X7_96 : Cond.fieldLink RX7 96 "SlotRadio$Station" "kept" "LSlotRadio$Row;" ∈ kBig := k_mem 245 (by decide +kernel) (by decide +kernel)
theorem kf_X6_52 : Cond.fieldLink RX6 52 "SlotRadio$Station" "attempt" "LSlotRadio$Row;" ∈ kBig := k_mem 246 (by decide +kernel) (by decide +kernel)
theorem kf_X7_207 : Cond.fieldLink RX7 207 "SlotRadio$Station" "attempt" "LSlotRadio$Row;" ∈ kBig := k_mem 247 (by decide +kernel) (by decide +kernel)
theorem kf_X6_55 : Cond.fieldLink RX6 55 "SlotRadio$Station" "begun" "[I" ∈ kBig := k_mem 248 (by decide +kernel) (by decide +kernel)
theorem kf_X7_175 : Cond.fieldLink RX7 175 "SlotRadio$Station" "begun" "[I" ∈ kBig := k_mem 249 (by decide +kernel) (by decide +kernel)
theorem kf_X6_59 : Cond.fieldLink RX6 59 "SlotRadio$Station" "heardSome" "Z" ∈ kBig := k_mem 250 (by decide +kernel) (by decide +kernel)
theorem kf_X7_333 : Cond.fieldLink RX7 333 "SlotRadio$Station" "heardSome" "Z" ∈ kBig := k_mem 251 (by decide +kernel) (by decide +kernel)
theorem kf_X6_65 : Cond.fieldLink RX6 65 "SlotRadio$Station" "receivedAt" "J" ∈ kBig := k_mem 252 (by decide +kernel) (by decide +kernel)
theorem kf_X7_278 : Cond.fieldLink RX7 278 "SlotRadio$Station" "receivedAt" "J" ∈ kBig := k_mem 253 (by decide +kernel) (by decide +kernel)
theorem kf_X7_68 : Cond.fieldLink RX7 68 "SlotRadio" "stations" "[LSlotRadio$Station;" ∈ kBig := k_mem 295 (by decide +kernel) (by decide +kernel)
theorem kf_X7_10 : Cond.fieldLink RX7 10 "SlotRadio" "coins" "LSlotRadio$Coins;" ∈ kBig := k_mem 296 (by decide +kernel) (by decide +kernel)
theorem kf_X7_19 : Cond.fieldLink RX7 19 "SlotRadio" "payloads" "LSlotRadio$Payloads;" ∈ kBig := k_mem 297 (by decide +kernel) (by decide +kernel)
theorem kf_X7_26 : Cond.fieldLink RX7 26 "SlotRadio" "noiseRows" "LSlotRadio$NoiseRows;" ∈ kBig := k_mem 298 (by decide +kernel) (by decide +kernel)
theorem kf_X7_33 : Cond.fieldLink RX7 33 "SlotRadio" "events" "LSlotRadio$Events;" ∈ kBig := k_mem 299 (by decide +kernel) (by decide +kernel)
theorem kf_X7_42 : Cond.fieldLink RX7 42 "SlotRadio" "taken" "LSlotRadio$Row;" ∈ kBig := k_mem 300 (by decide +kernel) (by decide +kernel)
theorem kf_X7_46 : Cond.fieldLink RX7 46 "SlotRadio" "askFrom" "I" ∈ kBig := k_mem 301 (by decide +kernel) (by decide +kernel)
theorem kf_X7_50 : Cond.fieldLink RX7 50 "SlotRadio" "time" "J" ∈ kBig := k_mem 302 (by decide +kernel) (by decide +kernel)
theorem kf_X7_54 : Cond.fieldLink RX7 54 "SlotRadio" "senders" "I" ∈ kBig := k_mem 303 (by decide +kernel) (by decide +kernel)
theorem kf_X8_150 : Cond.fieldLink RX8 150 "SlotRadioModel" "thrown" "I" ∈ kBig := k_mem 609 (by decide +kernel) (by decide +kernel)
theorem kf_X8_145 : Cond.fieldLink RX8 145 "SlotRadioModel" "n" "I" ∈ kBig := k_mem 610 (by decide +kernel) (by decide +kernel)
theorem kf_X8_174 : Cond.fieldLink RX8 174 "SlotRadioModel" "now" "J" ∈ kBig := k_mem 611 (by decide +kernel) (by decide +kernel)
theorem kf_X8_7 : Cond.fieldLink RX8 7 "SlotRadioModel" "least" "I" ∈ kBig := k_mem 612 (by decide +kernel) (by decide +kernel)
theorem kf_X8_13 : Cond.fieldLink RX8 13 "SlotRadioModel" "deaf" "[Z" ∈ kBig := k_mem 613 (by decide +kernel) (by decide +kernel)
theorem kf_X8_163 : Cond.fieldLink RX8 163 "SlotRadioModel" "payloads" "I" ∈ kBig := k_mem 614 (by decide +kernel) (by decide +kernel)
theorem kf_X8_17 : Cond.fieldLink RX8 17 "SlotRadioModel" "from" "[I" ∈ kBig := k_mem 615 (by decide +kernel) (by decide +kernel)
theorem kf_X8_21 : Cond.fieldLink RX8 21 "SlotRadioModel" "to" "[I" ∈ kBig := k_mem 616 (by decide +kernel) (by decide +kernel)
theorem kf_X8_24 : Cond.fieldLink RX8 24 "SlotRadioModel" "slots" "[I" ∈ kBig := k_mem 617 (by decide +kernel) (by decide +kernel)
theorem kf_X8_27 : Cond.fieldLink RX8 27 "SlotRadioModel" "number" "[I" ∈ kBig := k_mem 618 (by decide +kernel) (by decide +kernel)
theorem kf_X8_30 : Cond.fieldLink RX8 30 "SlotRadioModel" "kept" "[Z" ∈ kBig := k_mem 619 (by decide +kernel) (by decide +kernel)
theorem kf_X8_33 : Cond.fieldLink RX8 33 "SlotRadioModel" "held" "[Z" ∈ kBig := k_mem 620 (by decide +kernel) (by decide +kernel)
theorem kf_X8_36 : Cond.fieldLink RX8 36 "SlotRadioModel" "made" "[I" ∈ kBig := k_mem 621 (by decide +kernel) (by decide +kernel)
theorem kf_X8_39 : Cond.fieldLink RX8 39 "SlotRadioModel" "wanted" "[I" ∈ kBig := k_mem 622 (by decide +kernel) (by decide +kernel)
theorem kf_X8_157 : Cond.fieldLink RX8 157 "SlotRadioModel" "told" "I" ∈ kBig := k_mem 623 (by decide +kernel) (by decide +kernel)
theorem kf_X8_160 : Cond.fieldLink RX8 160 "SlotRadioModel" "drawn" "I" ∈ kBig := k_mem 624 (by decide +kernel) (by decide +kernel)
theorem kf_X8_42 : Cond.fieldLink RX8 42 "SlotRadioModel" "coins" "[I" ∈ kBig := k_mem 625 (by decide +kernel) (by decide +kernel)
theorem kf_X8_180 : Cond.fieldLink RX8 180 "SlotRadioModel" "noises" "I" ∈ kBig := k_mem 626 (by decide +kernel) (by decide +kernel)
theorem kf_X8_45 : Cond.fieldLink RX8 45 "SlotRadioModel" "noiseAt" "[I" ∈ kBig := k_mem 627 (by decide +kernel) (by decide +kernel)
theorem kf_X8_48 : Cond.fieldLink RX8 48 "SlotRadioModel" "noiseFrom" "[J" ∈ kBig := k_mem 628 (by decide +kernel) (by decide +kernel)
theorem kf_X8_52 : Cond.fieldLink RX8 52 "SlotRadioModel" "noiseFor" "[I" ∈ kBig := k_mem 629 (by decide +kernel) (by decide +kernel)
theorem kf_X8_183 : Cond.fieldLink RX8 183 "SlotRadioModel" "events" "I" ∈ kBig := k_mem 630 (by decide +kernel) (by decide +kernel)
theorem kf_X8_55 : Cond.fieldLink RX8 55 "SlotRadioModel" "eventOf" "[I" ∈ kBig := k_mem 631 (by decide +kernel) (by decide +kernel)
theorem kf_X8_58 : Cond.fieldLink RX8 58 "SlotRadioModel" "eventKind" "[I" ∈ kBig := k_mem 632 (by decide +kernel) (by decide +kernel)
theorem kf_X8_61 : Cond.fieldLink RX8 61 "SlotRadioModel" "eventSlot" "[J" ∈ kBig := k_mem 633 (by decide +kernel) (by decide +kernel)
theorem kf_X8_64 : Cond.fieldLink RX8 64 "SlotRadioModel" "width" "[I" ∈ kBig := k_mem 634 (by decide +kernel) (by decide +kernel)
theorem kf_X8_67 : Cond.fieldLink RX8 67 "SlotRadioModel" "tries" "[I" ∈ kBig := k_mem 635 (by decide +kernel) (by decide +kernel)
theorem kf_X8_70 : Cond.fieldLink RX8 70 "SlotRadioModel" "counts" "[I" ∈ kBig := k_mem 636 (by decide +kernel) (by decide +kernel)
theorem kf_X8_73 : Cond.fieldLink RX8 73 "SlotRadioModel" "idle" "[I" ∈ kBig := k_mem 637 (by decide +kernel) (by decide +kernel)
theorem kf_X8_76 : Cond.fieldLink RX8 76 "SlotRadioModel" "needs" "[I" ∈ kBig := k_mem 638 (by decide +kernel) (by decide +kernel)
theorem kf_X8_79 : Cond.fieldLink RX8 79 "SlotRadioModel" "silent" "[J" ∈ kBig := k_mem 639 (by decide +kernel) (by decide +kernel)
theorem kf_X8_82 : Cond.fieldLink RX8 82 "SlotRadioModel" "waits" "[J" ∈ kBig := k_mem 640 (by decide +kernel) (by decide +kernel)
theorem kf_X8_85 : Cond.fieldLink RX8 85 "SlotRadioModel" "waitsFor" "[I" ∈ kBig := k_mem 641 (by decide +kernel) (by decide +kernel)
theorem kf_X8_88 : Cond.fieldLink RX8 88 "SlotRadioModel" "waitsKind" "[I" ∈ kBig := k_mem 642 (by decide +kernel) (by decide +kernel)
theorem kf_X8_91 : Cond.fieldLink RX8 91 "SlotRadioModel" "dueAt" "[J" ∈ kBig := k_mem 643 (by decide +kernel) (by decide +kernel)
theorem kf_X8_94 : Cond.fieldLink RX8 94 "SlotRadioModel" "dueKind" "[I" ∈ kBig := k_mem 644 (by decide +kernel) (by decide +kernel)
theorem kf_X8_97 : Cond.fieldLink RX8 97 "SlotRadioModel" "dueTo" "[I" ∈ kBig := k_mem 645 (by decide +kernel) (by decide +kernel)
theorem kf_X8_100 : Cond.fieldLink RX8 100 "SlotRadioModel" "dueSize" "[I" ∈ kBig := k_mem 646 (by decide +kernel) (by decide +kernel)
theorem kf_X8_103 : Cond.fieldLink RX8 103 "SlotRadioModel" "dueTells" "[I" ∈ kBig := k_mem 647 (by decide +kernel) (by decide +kernel)
theorem kf_X8_106 : Cond.fieldLink RX8 106 "SlotRadioModel" "heard" "[Z" ∈ kBig := k_mem 648 (by decide +kernel) (by decide +kernel)
theorem kf_X8_109 : Cond.fieldLink RX8 109 "SlotRadioModel" "gotAt" "[J" ∈ kBig := k_mem 649 (by decide +kernel) (by decide +kernel)
theorem kf_X8_112 : Cond.fieldLink RX8 112 "SlotRadioModel" "began" "[I" ∈ kBig := k_mem 650 (by decide +kernel) (by decide +kernel)
theorem kf_X8_115 : Cond.fieldLink RX8 115 "SlotRadioModel" "tried" "[I" ∈ kBig := k_mem 651 (by decide +kernel) (by decide +kernel)
theorem kf_X8_118 : Cond.fieldLink RX8 118 "SlotRadioModel" "triedCount" "[I" ∈ kBig := k_mem 652 (by decide +kernel) (by decide +kernel)
theorem kf_X8_121 : Cond.fieldLink RX8 121 "SlotRadioModel" "triedSize" "[I" ∈ kBig := k_mem 653 (by decide +kernel) (by decide +kernel)
theorem kf_X8_124 : Cond.fieldLink RX8 124 "SlotRadioModel" "kind" "[I" ∈ kBig := k_mem 654 (by decide +kernel) (by decide +kernel)
theorem kf_X8_127 : Cond.fieldLink RX8 127 "SlotRadioModel" "whom" "[I" ∈ kBig := k_mem 655 (by decide +kernel) (by decide +kernel)
theorem kf_X8_130 : Cond.fieldLink RX8 130 "SlotRadioModel" "first" "[J" ∈ kBig := k_mem 656 (by decide +kernel) (by decide +kernel)
theorem kf_X8_133 : Cond.fieldLink RX8 133 "SlotRadioModel" "last" "[J" ∈ kBig := k_mem 657 (by decide +kernel) (by decide +kernel)
theorem kf_X8_136 : Cond.fieldLink RX8 136 "SlotRadioModel" "about" "[I" ∈ kBig := k_mem 658 (by decide +kernel) (by decide +kernel)
theorem kf_X8_139 : Cond.fieldLink RX8 139 "SlotRadioModel" "tells" "[I" ∈ kBig := k_mem 659 (by decide +kernel) (by decide +kernel)
theorem kf_X8_142 : Cond.fieldLink RX8 142 "SlotRadioModel" "bad" "[J" ∈ kBig := k_mem 660 (by decide +kernel) (by decide +kernel)
theorem kl_L_15 : Cond.methodLink RL 15 yX7_init ∈ kBig := k_mem 50 (by decide +kernel) (by decide +kernel)
theorem kl_X7_1 : Cond.methodLink RX7 1 objectInit ∈ kBig := k_mem 53 (by decide +kernel) (by decide +kernel)
theorem kl_X0_3 : Cond.methodLink RX0 3 objectInit ∈ kBig := k_mem 61 (by decide +kernel) (by decide +kernel)
theorem kl_X4_3 : Cond.methodLink RX4 3 objectInit ∈ kBig := k_mem 78 (by decide +kernel) (by decide +kernel)
theorem kl_X3_3 : Cond.methodLink RX3 3 objectInit ∈ kBig := k_mem 108 (by decide +kernel) (by decide +kernel)
theorem kl_X1_3 : Cond.methodLink RX1 3 objectInit ∈ kBig := k_mem 129 (by decide +kernel) (by decide +kernel)
theorem kl_X7_39 : Cond.methodLink RX7 39 yX5_init ∈ kBig := k_mem 149 (by decide +kernel) (by decide +kernel)
theorem kl_X5_1 : Cond.methodLink RX5 1 objectInit ∈ kBig := k_mem 152 (by decide +kernel) (by decide +kernel)
theorem kl_X7_57 : Cond.methodLink RX7 57 yJ9_min_7cf53 ∈ kBig := k_mem 164 (by decide +kernel) (by decide +kernel)
theorem kl_X7_63 : Cond.methodLink RX7 63 yJ9_max_7cf53 ∈ kBig := k_mem 167 (by decide +kernel) (by decide +kernel)
theorem kl_X7_72 : Cond.methodLink RX7 72 yX6_init ∈ kBig := k_mem 173 (by decide +kernel) (by decide +kernel)
theorem kl_X6_3 : Cond.methodLink RX6 3 objectInit ∈ kBig := k_mem 176 (by decide +kernel) (by decide +kernel)
theorem kl_X6_45 : Cond.methodLink RX6 45 yX5_init ∈ kBig := k_mem 178 (by decide +kernel) (by decide +kernel)
theorem kl_X6_79 : Cond.methodLink RX6 79 yX2_init ∈ kBig := k_mem 182 (by decide +kernel) (by decide +kernel)
theorem kl_X2_3 : Cond.methodLink RX2 3 objectInit ∈ kBig := k_mem 185 (by decide +kernel) (by decide +kernel)
theorem kl_X2_26 : Cond.methodLink RX2 26 yX5_init ∈ kBig := k_mem 187 (by decide +kernel) (by decide +kernel)
theorem kl_L_21 : Cond.methodLink RL 21 yX7_hear ∈ kBig := k_mem 323 (by decide +kernel) (by decide +kernel)
theorem kl_X7_75 : Cond.methodLink RX7 75 yX7_isStation ∈ kBig := k_mem 327 (by decide +kernel) (by decide +kernel)
theorem kl_L_26 : Cond.methodLink RL 26 yX7_coin ∈ kBig := k_mem 331 (by decide +kernel) (by decide +kernel)
theorem kl_X7_85 : Cond.methodLink RX7 85 yX0_add ∈ kBig := k_mem 335 (by decide +kernel) (by decide +kernel)
theorem kl_X7_88 : Cond.methodLink RX7 88 yX0_undrawn ∈ kBig := k_mem 339 (by decide +kernel) (by decide +kernel)
theorem kl_L_31 : Cond.methodLink RL 31 yX7_threshold ∈ kBig := k_mem 343 (by decide +kernel) (by decide +kernel)
theorem kl_L_35 : Cond.methodLink RL 35 yX7_offer ∈ kBig := k_mem 347 (by decide +kernel) (by decide +kernel)
theorem kl_X7_92 : Cond.methodLink RX7 92 yX4_isFull ∈ kBig := k_mem 351 (by decide +kernel) (by decide +kernel)
theorem kl_X7_99 : Cond.methodLink RX7 99 yX5_isFull ∈ kBig := k_mem 355 (by decide +kernel) (by decide +kernel)
theorem kl_X7_100 : Cond.methodLink RX7 100 yX4_add ∈ kBig := k_mem 359 (by decide +kernel) (by decide +kernel)
theorem kl_X4_35 : Cond.methodLink RX4 35 yX4_pairOf ∈ kBig := k_mem 363 (by decide +kernel) (by decide +kernel)
theorem kl_X7_106 : Cond.methodLink RX7 106 yX7_drawCount ∈ kBig := k_mem 367 (by decide +kernel) (by decide +kernel)
theorem kl_X7_178 : Cond.methodLink RX7 178 yX0_draw ∈ kBig := k_mem 371 (by decide +kernel) (by decide +kernel)
theorem kl_X7_110 : Cond.methodLink RX7 110 yX5_add ∈ kBig := k_mem 375 (by decide +kernel) (by decide +kernel)
theorem kl_X5_17 : Cond.methodLink RX5 17 yX5_isFull ∈ kBig := k_mem 379 (by decide +kernel) (by decide +kernel)
theorem kl_L_42 : Cond.methodLink RL 42 yX7_noise ∈ kBig := k_mem 380 (by decide +kernel) (by decide +kernel)
theorem kl_X7_113 : Cond.methodLink RX7 113 yX3_isFull ∈ kBig := k_mem 385 (by decide +kernel) (by decide +kernel)
theorem kl_X7_114 : Cond.methodLink RX7 114 yX3_add ∈ kBig := k_mem 389 (by decide +kernel) (by decide +kernel)
theorem kl_L_47 : Cond.methodLink RL 47 yX7_run ∈ kBig := k_mem 393 (by decide +kernel) (by decide +kernel)
theorem kl_X7_121 : Cond.methodLink RX7 121 yX7_beginFrames ∈ kBig := k_mem 397 (by decide +kernel) (by decide +kernel)
theorem kl_X7_188 : Cond.methodLink RX7 188 yX7_failAttempt ∈ kBig := k_mem 401 (by decide +kernel) (by decide +kernel)
theorem kl_X7_235 : Cond.methodLink RX7 235 yX5_get ∈ kBig := k_mem 405 (by decide +kernel) (by decide +kernel)
theorem kl_X7_238 : Cond.methodLink RX7 238 yX5_drop ∈ kBig := k_mem 409 (by decide +kernel) (by decide +kernel)
theorem kl_X7_241 : Cond.methodLink RX7 241 yX1_add ∈ kBig := k_mem 413 (by decide +kernel) (by decide +kernel)
theorem kl_X7_244 : Cond.methodLink RX7 244 yX6_startAnew ∈ kBig := k_mem 417 (by decide +kernel) (by decide +kernel)
theorem kl_X7_197 : Cond.methodLink RX7 197 yX6_beginDue ∈ kBig := k_mem 421 (by decide +kernel) (by decide +kernel)
theorem kl_X6_97 : Cond.methodLink RX6 97 yX6_countBegun ∈ kBig := k_mem 425 (by decide +kernel) (by decide +kernel)
theorem kl_X7_200 : Cond.methodLink RX7 200 yX6_mayAttempt ∈ kBig := k_mem 429 (by decide +kernel) (by decide +kernel)
theorem kl_X6_90 : Cond.methodLink RX6 90 yX6_isFree ∈ kBig := k_mem 433 (by decide +kernel) (by decide +kernel)
theorem kl_X7_204 : Cond.methodLink RX7 204 yX7_beginAttempt ∈ kBig := k_mem 437 (by decide +kernel) (by decide +kernel)
theorem kl_X7_210 : Cond.methodLink RX7 210 yX4_copyFirstOfOneReceiver ∈ kBig := k_mem 441 (by decide +kernel) (by decide +kernel)
theorem kl_X4_46 : Cond.methodLink RX4 46 yX5_isFull ∈ kBig := k_mem 445 (by decide +kernel) (by decide +kernel)
theorem kl_X4_39 : Cond.methodLink RX4 39 yX5_get ∈ kBig := k_mem 446 (by decide +kernel) (by decide +kernel)
theorem kl_X4_50 : Cond.methodLink RX4 50 yX5_add ∈ kBig := k_mem 447 (by decide +kernel) (by decide +kernel)
theorem kl_X7_214 : Cond.methodLink RX7 214 yX4_receiverOf ∈ kBig := k_mem 448 (by decide +kernel) (by decide +kernel)
theorem kl_X7_218 : Cond.methodLink RX7 218 yX4_dataSlotsOf ∈ kBig := k_mem 452 (by decide +kernel) (by decide +kernel)
theorem kl_X7_221 : Cond.methodLink RX7 221 yX2_make ∈ kBig := k_mem 456 (by decide +kernel) (by decide +kernel)
theorem kl_X2_40 : Cond.methodLink RX2 40 yJ7_fill_d0a16 ∈ kBig := k_mem 460 (by decide +kernel) (by decide +kernel)
theorem kl_X7_228 : Cond.methodLink RX7 228 yX5_copy ∈ kBig := k_mem 463 (by decide +kernel) (by decide +kernel)
theorem kl_X5_21 : Cond.methodLink RX5 21 yX5_add ∈ kBig := k_mem 467 (by decide +kernel) (by decide +kernel)
theorem kl_X7_232 : Cond.methodLink RX7 232 yX6_countBegun ∈ kBig := k_mem 468 (by decide +kernel) (by decide +kernel)
theorem kl_X7_124 : Cond.methodLink RX7 124 yX7_markGoodSlots ∈ kBig := k_mem 469 (by decide +kernel) (by decide +kernel)
theorem kl_X7_247 : Cond.methodLink RX7 247 yX7_isGood ∈ kBig := k_mem 473 (by decide +kernel) (by decide +kernel)
theorem kl_X7_260 : Cond.methodLink RX7 260 yX3_cover ∈ kBig := k_mem 477 (by decide +kernel) (by decide +kernel)
theorem kl_X7_254 : Cond.methodLink RX7 254 yX2_markGood ∈ kBig := k_mem 481 (by decide +kernel) (by decide +kernel)
theorem kl_X7_127 : Cond.methodLink RX7 127 yX7_endFrames ∈ kBig := k_mem 485 (by decide +kernel) (by decide +kernel)
theorem kl_X7_264 : Cond.methodLink RX7 264 yX2_isOver ∈ kBig := k_mem 489 (by decide +kernel) (by decide +kernel)
theorem kl_X2_46 : Cond.methodLink RX2 46 yX2_length ∈ kBig := k_mem 493 (by decide +kernel) (by decide +kernel)
theorem kl_X7_267 : Cond.methodLink RX7 267 yX2_isReceivedAt ∈ kBig := k_mem 497 (by decide +kernel) (by decide +kernel)
theorem kl_X2_50 : Cond.methodLink RX2 50 yX2_areGood ∈ kBig := k_mem 501 (by decide +kernel) (by decide +kernel)
theorem kl_X7_270 : Cond.methodLink RX7 270 yX7_receive ∈ kBig := k_mem 505 (by decide +kernel) (by decide +kernel)
theorem kl_X7_284 : Cond.methodLink RX7 284 yX2_left ∈ kBig := k_mem 509 (by decide +kernel) (by decide +kernel)
theorem kl_X7_158 : Cond.methodLink RX7 158 yJ9_max_f86c9 ∈ kBig := k_mem 513 (by decide +kernel) (by decide +kernel)
theorem kl_X7_287 : Cond.methodLink RX7 287 yX7_receiveAsk ∈ kBig := k_mem 516 (by decide +kernel) (by decide +kernel)
theorem kl_X7_290 : Cond.methodLink RX7 290 yX7_receiveAnswer ∈ kBig := k_mem 521 (by decide +kernel) (by decide +kernel)
theorem kl_X7_305 : Cond.methodLink RX7 305 yX6_waitsFor ∈ kBig := k_mem 525 (by decide +kernel) (by decide +kernel)
theorem kl_X7_294 : Cond.methodLink RX7 294 yX7_receiveData ∈ kBig := k_mem 529 (by decide +kernel) (by decide +kernel)
theorem kl_X7_309 : Cond.methodLink RX7 309 yX4_copyGood ∈ kBig := k_mem 533 (by decide +kernel) (by decide +kernel)
theorem kl_X4_60 : Cond.methodLink RX4 60 yX2_areGood ∈ kBig := k_mem 537 (by decide +kernel) (by decide +kernel)
theorem kl_X7_313 : Cond.methodLink RX7 313 yX4_pairOf ∈ kBig := k_mem 538 (by decide +kernel) (by decide +kernel)
theorem kl_X7_316 : Cond.methodLink RX7 316 yX7_takePayloads ∈ kBig := k_mem 539 (by decide +kernel) (by decide +kernel)
theorem kl_X7_320 : Cond.methodLink RX7 320 yX4_numberOf ∈ kBig := k_mem 543 (by decide +kernel) (by decide +kernel)
theorem kl_X7_323 : Cond.methodLink RX7 323 yX4_wantAtLeast ∈ kBig := k_mem 547 (by decide +kernel) (by decide +kernel)
theorem kl_X4_64 : Cond.methodLink RX4 64 yJ9_max_7cf53 ∈ kBig := k_mem 551 (by decide +kernel) (by decide +kernel)
theorem kl_X7_326 : Cond.methodLink RX7 326 yX4_hold ∈ kBig := k_mem 552 (by decide +kernel) (by decide +kernel)
theorem kl_X7_330 : Cond.methodLink RX7 330 yX4_releases ∈ kBig := k_mem 556 (by decide +kernel) (by decide +kernel)
theorem kl_X7_297 : Cond.methodLink RX7 297 yX7_receiveAcknowledge ∈ kBig := k_mem 560 (by decide +kernel) (by decide +kernel)
theorem kl_X7_274 : Cond.methodLink RX7 274 yX6_endFrame ∈ kBig := k_mem 564 (by decide +kernel) (by decide +kernel)
theorem kl_X7_130 : Cond.methodLink RX7 130 yX7_countIdleSlots ∈ kBig := k_mem 569 (by decide +kernel) (by decide +kernel)
theorem kl_X7_337 : Cond.methodLink RX7 337 yX6_isFree ∈ kBig := k_mem 573 (by decide +kernel) (by decide +kernel)
theorem kl_X7_340 : Cond.methodLink RX7 340 yX6_countIdle ∈ kBig := k_mem 574 (by decide +kernel) (by decide +kernel)
theorem kl_L_51 : Cond.methodLink RL 51 yX7_event ∈ kBig := k_mem 578 (by decide +kernel) (by decide +kernel)
theorem kl_X7_133 : Cond.methodLink RX7 133 yX1_told ∈ kBig := k_mem 582 (by decide +kernel) (by decide +kernel)
theorem kl_X1_25 : Cond.methodLink RX1 25 yJ9_min_7cf53 ∈ kBig := k_mem 586 (by decide +kernel) (by decide +kernel)
theorem kl_L_56 : Cond.methodLink RL 56 yX7_state ∈ kBig := k_mem 587 (by decide +kernel) (by decide +kernel)
theorem kl_L_60 : Cond.methodLink RL 60 yX7_sent ∈ kBig := k_mem 591 (by decide +kernel) (by decide +kernel)
theorem kl_L_64 : Cond.methodLink RL 64 yX7_now ∈ kBig := k_mem 595 (by decide +kernel) (by decide +kernel)
theorem kl_L_9 : Cond.methodLink RL 9 yL_cell ∈ kBig := k_mem 599 (by decide +kernel) (by decide +kernel)
theorem kl_L_20 : Cond.methodLink RL 20 yX8_init ∈ kBig := k_mem 604 (by decide +kernel) (by decide +kernel)
theorem kl_X8_1 : Cond.methodLink RX8 1 objectInit ∈ kBig := k_mem 607 (by decide +kernel) (by decide +kernel)
theorem kl_L_25 : Cond.methodLink RL 25 yX8_hear ∈ kBig := k_mem 766 (by decide +kernel) (by decide +kernel)
theorem kl_X8_153 : Cond.methodLink RX8 153 yX8_isStation ∈ kBig := k_mem 770 (by decide +kernel) (by decide +kernel)
theorem kl_L_30 : Cond.methodLink RL 30 yX8_coin ∈ kBig := k_mem 774 (by decide +kernel) (by decide +kernel)
theorem kl_L_34 : Cond.methodLink RL 34 yX8_threshold ∈ kBig := k_mem 778 (by decide +kernel) (by decide +kernel)
theorem kl_L_39 : Cond.methodLink RL 39 yX8_offer ∈ kBig := k_mem 782 (by decide +kernel) (by decide +kernel)
theorem kl_X8_166 : Cond.methodLink RX8 166 yX8_keeps ∈ kBig := k_mem 786 (by decide +kernel) (by decide +kernel)
theorem kl_X8_170 : Cond.methodLink RX8 170 yX8_draw ∈ kBig := k_mem 790 (by decide +kernel) (by decide +kernel)
theorem kl_L_46 : Cond.methodLink RL 46 yX8_noise ∈ kBig := k_mem 794 (by decide +kernel) (by decide +kernel)
theorem kl_L_50 : Cond.methodLink RL 50 yX8_run ∈ kBig := k_mem 799 (by decide +kernel) (by decide +kernel)
theorem kl_X8_239 : Cond.methodLink RX8 239 yX8_stepOne ∈ kBig := k_mem 803 (by decide +kernel) (by decide +kernel)
theorem kl_X8_194 : Cond.methodLink RX8 194 yX8_fail ∈ kBig := k_mem 807 (by decide +kernel) (by decide +kernel)
theorem kl_X8_186 : Cond.methodLink RX8 186 yX8_tell ∈ kBig := k_mem 811 (by decide +kernel) (by decide +kernel)
theorem kl_X8_190 : Cond.methodLink RX8 190 yX8_begin ∈ kBig := k_mem 815 (by decide +kernel) (by decide +kernel)
theorem kl_X8_198 : Cond.methodLink RX8 198 yX8_sends ∈ kBig := k_mem 819 (by decide +kernel) (by decide +kernel)
theorem kl_X8_202 : Cond.methodLink RX8 202 yX8_attempt ∈ kBig := k_mem 823 (by decide +kernel) (by decide +kernel)
theorem kl_X8_243 : Cond.methodLink RX8 243 yX8_stepTwo ∈ kBig := k_mem 827 (by decide +kernel) (by decide +kernel)
theorem kl_X8_205 : Cond.methodLink RX8 205 yX8_hears ∈ kBig := k_mem 831 (by decide +kernel) (by decide +kernel)
theorem kl_X8_209 : Cond.methodLink RX8 209 yX8_hearsAny ∈ kBig := k_mem 835 (by decide +kernel) (by decide +kernel)
theorem kl_X8_213 : Cond.methodLink RX8 213 yX8_hasNoise ∈ kBig := k_mem 839 (by decide +kernel) (by decide +kernel)
theorem kl_X8_246 : Cond.methodLink RX8 246 yX8_stepThree ∈ kBig := k_mem 843 (by decide +kernel) (by decide +kernel)
theorem kl_X8_234 : Cond.methodLink RX8 234 yX8_receive ∈ kBig := k_mem 847 (by decide +kernel) (by decide +kernel)
theorem kl_X8_221 : Cond.methodLink RX8 221 yX8_left ∈ kBig := k_mem 851 (by decide +kernel) (by decide +kernel)
theorem kl_X8_224 : Cond.methodLink RX8 224 yX8_due ∈ kBig := k_mem 855 (by decide +kernel) (by decide +kernel)
theorem kl_X8_227 : Cond.methodLink RX8 227 yX8_take ∈ kBig := k_mem 860 (by decide +kernel) (by decide +kernel)
theorem kl_X8_218 : Cond.methodLink RX8 218 yX8_handOver ∈ kBig := k_mem 864 (by decide +kernel) (by decide +kernel)
theorem kl_X8_231 : Cond.methodLink RX8 231 yX8_acknowledged ∈ kBig := k_mem 868 (by decide +kernel) (by decide +kernel)
theorem kl_X8_249 : Cond.methodLink RX8 249 yX8_stepFour ∈ kBig := k_mem 873 (by decide +kernel) (by decide +kernel)
theorem kl_L_55 : Cond.methodLink RL 55 yX8_event ∈ kBig := k_mem 877 (by decide +kernel) (by decide +kernel)
theorem kl_L_59 : Cond.methodLink RL 59 yX8_state ∈ kBig := k_mem 881 (by decide +kernel) (by decide +kernel)
theorem kl_L_63 : Cond.methodLink RL 63 yX8_sent ∈ kBig := k_mem 885 (by decide +kernel) (by decide +kernel)
theorem kl_L_68 : Cond.methodLink RL 68 yX8_now ∈ kBig := k_mem 889 (by decide +kernel) (by decide +kernel)
theorem kc_L_7 : Cond.classLink RL 7 RX7 ∈ kBig := k_mem 48 (by decide +kernel) (by decide +kernel)
theorem kc_X7_7 : Cond.classLink RX7 7 RX0 ∈ kBig := k_mem 56 (by decide +kernel) (by decide +kernel)
theorem kc_X7_16 : Cond.classLink RX7 16 RX4 ∈ kBig := k_mem 73 (by decide +kernel) (by decide +kernel)
theorem kc_X7_23 : Cond.classLink RX7 23 RX3 ∈ kBig := k_mem 103 (by decide +kernel) (by decide +kernel)
theorem kc_X7_30 : Cond.classLink RX7 30 RX1 ∈ kBig := k_mem 124 (by decide +kernel) (by decide +kernel)
theorem kc_X7_37 : Cond.classLink RX7 37 RX5 ∈ kBig := k_mem 147 (by decide +kernel) (by decide +kernel)
theorem kc_X7_66 : Cond.classLink RX7 66 RX6 ∈ kBig := k_mem 170 (by decide +kernel) (by decide +kernel)
theorem kc_X6_43 : Cond.classLink RX6 43 RX5 ∈ kBig := k_mem 177 (by decide +kernel) (by decide +kernel)
theorem kc_X6_77 : Cond.classLink RX6 77 RX2 ∈ kBig := k_mem 180 (by decide +kernel) (by decide +kernel)
theorem kc_X2_24 : Cond.classLink RX2 24 RX5 ∈ kBig := k_mem 186 (by decide +kernel) (by decide +kernel)
theorem kc_L_18 : Cond.classLink RL 18 RX8 ∈ kBig := k_mem 602 (by decide +kernel) (by decide +kernel)
theorem kj_X6_63 : Cond.constantLong RX6 63 (-1) ∈ kBig := k_mem 179 (by decide +kernel) (by decide +kernel)
theorem kj_X7_111 : Cond.constantLong RX7 111 (1000000) ∈ kBig := k_mem 384 (by decide +kernel) (by decide +kernel)
theorem kj_X7_303 : Cond.constantLong RX7 303 (2) ∈ kBig := k_mem 520 (by decide +kernel) (by decide +kernel)
theorem kj_X6_103 : Cond.constantLong RX6 103 (4) ∈ kBig := k_mem 568 (by decide +kernel) (by decide +kernel)
theorem kj_X8_148 : Cond.constantLong RX8 148 (-1) ∈ kBig := k_mem 608 (by decide +kernel) (by decide +kernel)
theorem kj_X8_178 : Cond.constantLong RX8 178 (1000000) ∈ kBig := k_mem 798 (by decide +kernel) (by decide +kernel)
theorem kj_X8_216 : Cond.constantLong RX8 216 (2) ∈ kBig := k_mem 859 (by decide +kernel) (by decide +kernel)
theorem kj_X8_237 : Cond.constantLong RX8 237 (4) ∈ kBig := k_mem 872 (by decide +kernel) (by decide +kernel)
theorem kj_L_40 : Cond.constantLong RL 40 (4294967295) ∈ kBig := k_mem 893 (by decide +kernel) (by decide +kernel)
theorem ki_X0_init : Cond.instanceMethod yX0_init ∈ kBig := k_mem 59 (by decide +kernel) (by decide +kernel)
theorem kk_X0_init : Cond.code yX0_init cX0_init 1 none ∈ kBig := k_mem 60 (by decide +kernel) (by decide +kernel)
theorem ki_X0_add : Cond.instanceMethod yX0_add ∈ kBig := k_mem 336 (by decide +kernel) (by decide +kernel)
theorem kx_X0_add : Cond.selects RX0 yX0_add yX0_add ∈ kBig := k_mem 337 (by decide +kernel) (by decide +kernel)
theorem kk_X0_add : Cond.code yX0_add cX0_add 2 none ∈ kBig := k_mem 338 (by decide +kernel) (by decide +kernel)
theorem ki_X0_undrawn : Cond.instanceMethod yX0_undrawn ∈ kBig := k_mem 340 (by decide +kernel) (by decide +kernel)
theorem kx_X0_undrawn : Cond.selects RX0 yX0_undrawn yX0_undrawn ∈ kBig := k_mem 341 (by decide +kernel) (by decide +kernel)
theorem kk_X0_undrawn : Cond.code yX0_undrawn cX0_undrawn 1 (some .int) ∈ kBig := k_mem 342 (by decide +kernel) (by decide +kernel)
theorem ki_X0_draw : Cond.instanceMethod yX0_draw ∈ kBig := k_mem 372 (by decide +kernel) (by decide +kernel)
theorem kx_X0_draw : Cond.selects RX0 yX0_draw yX0_draw ∈ kBig := k_mem 373 (by decide +kernel) (by decide +kernel)
theorem kk_X0_draw : Cond.code yX0_draw cX0_draw 3 (some .int) ∈ kBig := k_mem 374 (by decide +kernel) (by decide +kernel)
theorem ki_X1_init : Cond.instanceMethod yX1_init ∈ kBig := k_mem 127 (by decide +kernel) (by decide +kernel)
theorem kk_X1_init : Cond.code yX1_init cX1_init 1 none ∈ kBig := k_mem 128 (by decide +kernel) (by decide +kernel)
theorem ki_X1_told : Cond.instanceMethod yX1_told ∈ kBig := k_mem 583 (by decide +kernel) (by decide +kernel)
theorem kx_X1_told : Cond.selects RX1 yX1_told yX1_told ∈ kBig := k_mem 584 (by decide +kernel) (by decide +kernel)
theorem kk_X1_told : Cond.code yX1_told cX1_told 1 (some .int) ∈ kBig := k_mem 585 (by decide +kernel) (by decide +kernel)
theorem ki_X1_add : Cond.instanceMethod yX1_add ∈ kBig := k_mem 414 (by decide +kernel) (by decide +kernel)
theorem kx_X1_add : Cond.selects RX1 yX1_add yX1_add ∈ kBig := k_mem 415 (by decide +kernel) (by decide +kernel)
theorem kk_X1_add : Cond.code yX1_add cX1_add 5 none ∈ kBig := k_mem 416 (by decide +kernel) (by decide +kernel)
theorem ki_X2_init : Cond.instanceMethod yX2_init ∈ kBig := k_mem 183 (by decide +kernel) (by decide +kernel)
theorem kk_X2_init : Cond.code yX2_init cX2_init 2 none ∈ kBig := k_mem 184 (by decide +kernel) (by decide +kernel)
theorem ki_X2_make : Cond.instanceMethod yX2_make ∈ kBig := k_mem 457 (by decide +kernel) (by decide +kernel)
theorem kx_X2_make : Cond.selects RX2 yX2_make yX2_make ∈ kBig := k_mem 458 (by decide +kernel) (by decide +kernel)
theorem kk_X2_make : Cond.code yX2_make cX2_make 4 none ∈ kBig := k_mem 459 (by decide +kernel) (by decide +kernel)
theorem ki_X2_length : Cond.instanceMethod yX2_length ∈ kBig := k_mem 494 (by decide +kernel) (by decide +kernel)
theorem kx_X2_length : Cond.selects RX2 yX2_length yX2_length ∈ kBig := k_mem 495 (by decide +kernel) (by decide +kernel)
theorem kk_X2_length : Cond.code yX2_length cX2_length 1 (some .int) ∈ kBig := k_mem 496 (by decide +kernel) (by decide +kernel)
theorem ki_X2_isOver : Cond.instanceMethod yX2_isOver ∈ kBig := k_mem 490 (by decide +kernel) (by decide +kernel)
theorem kx_X2_isOver : Cond.selects RX2 yX2_isOver yX2_isOver ∈ kBig := k_mem 491 (by decide +kernel) (by decide +kernel)
theorem kk_X2_isOver : Cond.code yX2_isOver cX2_isOver 1 (some .boolean) ∈ kBig := k_mem 492 (by decide +kernel) (by decide +kernel)
theorem ki_X2_left : Cond.instanceMethod yX2_left ∈ kBig := k_mem 510 (by decide +kernel) (by decide +kernel)
theorem kx_X2_left : Cond.selects RX2 yX2_left yX2_left ∈ kBig := k_mem 511 (by decide +kernel) (by decide +kernel)
theorem kk_X2_left : Cond.code yX2_left cX2_left 1 (some .int) ∈ kBig := k_mem 512 (by decide +kernel) (by decide +kernel)
theorem ki_X2_markGood : Cond.instanceMethod yX2_markGood ∈ kBig := k_mem 482 (by decide +kernel) (by decide +kernel)
theorem kx_X2_markGood : Cond.selects RX2 yX2_markGood yX2_markGood ∈ kBig := k_mem 483 (by decide +kernel) (by decide +kernel)
theorem kk_X2_markGood : Cond.code yX2_markGood cX2_markGood 2 none ∈ kBig := k_mem 484 (by decide +kernel) (by decide +kernel)
theorem ki_X2_areGood : Cond.instanceMethod yX2_areGood ∈ kBig := k_mem 502 (by decide +kernel) (by decide +kernel)
theorem kx_X2_areGood : Cond.selects RX2 yX2_areGood yX2_areGood ∈ kBig := k_mem 503 (by decide +kernel) (by decide +kernel)
theorem kk_X2_areGood : Cond.code yX2_areGood cX2_areGood 6 (some .boolean) ∈ kBig := k_mem 504 (by decide +kernel) (by decide +kernel)
theorem ki_X2_isReceivedAt : Cond.instanceMethod yX2_isReceivedAt ∈ kBig := k_mem 498 (by decide +kernel) (by decide +kernel)
theorem kx_X2_isReceivedAt : Cond.selects RX2 yX2_isReceivedAt yX2_isReceivedAt ∈ kBig := k_mem 499 (by decide +kernel) (by decide +kernel)
theorem kk_X2_isReceivedAt : Cond.code yX2_isReceivedAt cX2_isReceivedAt 2 (some .boolean) ∈ kBig := k_mem 500 (by decide +kernel) (by decide +kernel)
theorem ki_X3_init : Cond.instanceMethod yX3_init ∈ kBig := k_mem 106 (by decide +kernel) (by decide +kernel)
theorem kk_X3_init : Cond.code yX3_init cX3_init 1 none ∈ kBig := k_mem 107 (by decide +kernel) (by decide +kernel)
theorem ki_X3_isFull : Cond.instanceMethod yX3_isFull ∈ kBig := k_mem 386 (by decide +kernel) (by decide +kernel)
theorem kx_X3_isFull : Cond.selects RX3 yX3_isFull yX3_isFull ∈ kBig := k_mem 387 (by decide +kernel) (by decide +kernel)
theorem kk_X3_isFull : Cond.code yX3_isFull cX3_isFull 1 (some .boolean) ∈ kBig := k_mem 388 (by decide +kernel) (by decide +kernel)
theorem ki_X3_add : Cond.instanceMethod yX3_add ∈ kBig := k_mem 390 (by decide +kernel) (by decide +kernel)
theorem kx_X3_add : Cond.selects RX3 yX3_add yX3_add ∈ kBig := k_mem 391 (by decide +kernel) (by decide +kernel)
theorem kk_X3_add : Cond.code yX3_add cX3_add 5 none ∈ kBig := k_mem 392 (by decide +kernel) (by decide +kernel)
theorem ki_X3_cover : Cond.instanceMethod yX3_cover ∈ kBig := k_mem 478 (by decide +kernel) (by decide +kernel)
theorem kx_X3_cover : Cond.selects RX3 yX3_cover yX3_cover ∈ kBig := k_mem 479 (by decide +kernel) (by decide +kernel)
theorem kk_X3_cover : Cond.code yX3_cover cX3_cover 5 (some .boolean) ∈ kBig := k_mem 480 (by decide +kernel) (by decide +kernel)
theorem ki_X4_init : Cond.instanceMethod yX4_init ∈ kBig := k_mem 76 (by decide +kernel) (by decide +kernel)
theorem kk_X4_init : Cond.code yX4_init cX4_init 1 none ∈ kBig := k_mem 77 (by decide +kernel) (by decide +kernel)
theorem ki_X4_pairOf : Cond.instanceMethod yX4_pairOf ∈ kBig := k_mem 364 (by decide +kernel) (by decide +kernel)
theorem kx_X4_pairOf : Cond.selects RX4 yX4_pairOf yX4_pairOf ∈ kBig := k_mem 365 (by decide +kernel) (by decide +kernel)
theorem kk_X4_pairOf : Cond.code yX4_pairOf cX4_pairOf 3 (some .int) ∈ kBig := k_mem 366 (by decide +kernel) (by decide +kernel)
theorem ki_X4_isFull : Cond.instanceMethod yX4_isFull ∈ kBig := k_mem 352 (by decide +kernel) (by decide +kernel)
theorem kx_X4_isFull : Cond.selects RX4 yX4_isFull yX4_isFull ∈ kBig := k_mem 353 (by decide +kernel) (by decide +kernel)
theorem kk_X4_isFull : Cond.code yX4_isFull cX4_isFull 1 (some .boolean) ∈ kBig := k_mem 354 (by decide +kernel) (by decide +kernel)
theorem ki_X4_add : Cond.instanceMethod yX4_add ∈ kBig := k_mem 360 (by decide +kernel) (by decide +kernel)
theorem kx_X4_add : Cond.selects RX4 yX4_add yX4_add ∈ kBig := k_mem 361 (by decide +kernel) (by decide +kernel)
theorem kk_X4_add : Cond.code yX4_add cX4_add 4 (some .int) ∈ kBig := k_mem 362 (by decide +kernel) (by decide +kernel)
theorem ki_X4_numberOf : Cond.instanceMethod yX4_numberOf ∈ kBig := k_mem 544 (by decide +kernel) (by decide +kernel)
theorem kx_X4_numberOf : Cond.selects RX4 yX4_numberOf yX4_numberOf ∈ kBig := k_mem 545 (by decide +kernel) (by decide +kernel)
theorem kk_X4_numberOf : Cond.code yX4_numberOf cX4_numberOf 2 (some .int) ∈ kBig := k_mem 546 (by decide +kernel) (by decide +kernel)
theorem ki_X4_receiverOf : Cond.instanceMethod yX4_receiverOf ∈ kBig := k_mem 449 (by decide +kernel) (by decide +kernel)
theorem kx_X4_receiverOf : Cond.selects RX4 yX4_receiverOf yX4_receiverOf ∈ kBig := k_mem 450 (by decide +kernel) (by decide +kernel)
theorem kk_X4_receiverOf : Cond.code yX4_receiverOf cX4_receiverOf 2 (some .int) ∈ kBig := k_mem 451 (by decide +kernel) (by decide +kernel)
theorem ki_X4_dataSlotsOf : Cond.instanceMethod yX4_dataSlotsOf ∈ kBig := k_mem 453 (by decide +kernel) (by decide +kernel)
theorem kx_X4_dataSlotsOf : Cond.selects RX4 yX4_dataSlotsOf yX4_dataSlotsOf ∈ kBig := k_mem 454 (by decide +kernel) (by decide +kernel)
theorem kk_X4_dataSlotsOf : Cond.code yX4_dataSlotsOf cX4_dataSlotsOf 4 (some .int) ∈ kBig := k_mem 455 (by decide +kernel) (by decide +kernel)
theorem ki_X4_copyFirstOfOneReceiver : Cond.instanceMethod yX4_copyFirstOfOneReceiver ∈ kBig := k_mem 442 (by decide +kernel) (by decide +kernel)
theorem kx_X4_copyFirstOfOneReceiver : Cond.selects RX4 yX4_copyFirstOfOneReceiver yX4_copyFirstOfOneReceiver ∈ kBig := k_mem 443 (by decide +kernel) (by decide +kernel)
theorem kk_X4_copyFirstOfOneReceiver : Cond.code yX4_copyFirstOfOneReceiver cX4_copyFirstOfOneReceiver 4 none ∈ kBig := k_mem 444 (by decide +kernel) (by decide +kernel)
theorem ki_X4_copyGood : Cond.instanceMethod yX4_copyGood ∈ kBig := k_mem 534 (by decide +kernel) (by decide +kernel)
theorem kx_X4_copyGood : Cond.selects RX4 yX4_copyGood yX4_copyGood ∈ kBig := k_mem 535 (by decide +kernel) (by decide +kernel)
theorem kk_X4_copyGood : Cond.code yX4_copyGood cX4_copyGood 7 none ∈ kBig := k_mem 536 (by decide +kernel) (by decide +kernel)
theorem ki_X4_wantAtLeast : Cond.instanceMethod yX4_wantAtLeast ∈ kBig := k_mem 548 (by decide +kernel) (by decide +kernel)
theorem kx_X4_wantAtLeast : Cond.selects RX4 yX4_wantAtLeast yX4_wantAtLeast ∈ kBig := k_mem 549 (by decide +kernel) (by decide +kernel)
theorem kk_X4_wantAtLeast : Cond.code yX4_wantAtLeast cX4_wantAtLeast 3 none ∈ kBig := k_mem 550 (by decide +kernel) (by decide +kernel)
theorem ki_X4_hold : Cond.instanceMethod yX4_hold ∈ kBig := k_mem 553 (by decide +kernel) (by decide +kernel)
theorem kx_X4_hold : Cond.selects RX4 yX4_hold yX4_hold ∈ kBig := k_mem 554 (by decide +kernel) (by decide +kernel)
theorem kk_X4_hold : Cond.code yX4_hold cX4_hold 3 none ∈ kBig := k_mem 555 (by decide +kernel) (by decide +kernel)
theorem ki_X4_releases : Cond.instanceMethod yX4_releases ∈ kBig := k_mem 557 (by decide +kernel) (by decide +kernel)
theorem kx_X4_releases : Cond.selects RX4 yX4_releases yX4_releases ∈ kBig := k_mem 558 (by decide +kernel) (by decide +kernel)
theorem kk_X4_releases : Cond.code yX4_releases cX4_releases 3 (some .boolean) ∈ kBig := k_mem 559 (by decide +kernel) (by decide +kernel)
theorem ki_X5_init : Cond.instanceMethod yX5_init ∈ kBig := k_mem 150 (by decide +kernel) (by decide +kernel)
theorem kk_X5_init : Cond.code yX5_init cX5_init 2 none ∈ kBig := k_mem 151 (by decide +kernel) (by decide +kernel)
theorem ki_X5_isFull : Cond.instanceMethod yX5_isFull ∈ kBig := k_mem 356 (by decide +kernel) (by decide +kernel)
theorem kx_X5_isFull : Cond.selects RX5 yX5_isFull yX5_isFull ∈ kBig := k_mem 357 (by decide +kernel) (by decide +kernel)
theorem kk_X5_isFull : Cond.code yX5_isFull cX5_isFull 1 (some .boolean) ∈ kBig := k_mem 358 (by decide +kernel) (by decide +kernel)
theorem ki_X5_get : Cond.instanceMethod yX5_get ∈ kBig := k_mem 406 (by decide +kernel) (by decide +kernel)
theorem kx_X5_get : Cond.selects RX5 yX5_get yX5_get ∈ kBig := k_mem 407 (by decide +kernel) (by decide +kernel)
theorem kk_X5_get : Cond.code yX5_get cX5_get 2 (some .int) ∈ kBig := k_mem 408 (by decide +kernel) (by decide +kernel)
theorem ki_X5_add : Cond.instanceMethod yX5_add ∈ kBig := k_mem 376 (by decide +kernel) (by decide +kernel)
theorem kx_X5_add : Cond.selects RX5 yX5_add yX5_add ∈ kBig := k_mem 377 (by decide +kernel) (by decide +kernel)
theorem kk_X5_add : Cond.code yX5_add cX5_add 2 none ∈ kBig := k_mem 378 (by decide +kernel) (by decide +kernel)
theorem ki_X5_copy : Cond.instanceMethod yX5_copy ∈ kBig := k_mem 464 (by decide +kernel) (by decide +kernel)
theorem kx_X5_copy : Cond.selects RX5 yX5_copy yX5_copy ∈ kBig := k_mem 465 (by decide +kernel) (by decide +kernel)
theorem kk_X5_copy : Cond.code yX5_copy cX5_copy 3 none ∈ kBig := k_mem 466 (by decide +kernel) (by decide +kernel)
theorem ki_X5_drop : Cond.instanceMethod yX5_drop ∈ kBig := k_mem 410 (by decide +kernel) (by decide +kernel)
theorem kx_X5_drop : Cond.selects RX5 yX5_drop yX5_drop ∈ kBig := k_mem 411 (by decide +kernel) (by decide +kernel)
theorem kk_X5_drop : Cond.code yX5_drop cX5_drop 4 none ∈ kBig := k_mem 412 (by decide +kernel) (by decide +kernel)
theorem ki_X6_init : Cond.instanceMethod yX6_init ∈ kBig := k_mem 174 (by decide +kernel) (by decide +kernel)
theorem kk_X6_init : Cond.code yX6_init cX6_init 3 none ∈ kBig := k_mem 175 (by decide +kernel) (by decide +kernel)
theorem ki_X6_isFree : Cond.instanceMethod yX6_isFree ∈ kBig := k_mem 434 (by decide +kernel) (by decide +kernel)
theorem kx_X6_isFree : Cond.selects RX6 yX6_isFree yX6_isFree ∈ kBig := k_mem 435 (by decide +kernel) (by decide +kernel)
theorem kk_X6_isFree : Cond.code yX6_isFree cX6_isFree 1 (some .boolean) ∈ kBig := k_mem 436 (by decide +kernel) (by decide +kernel)
theorem ki_X6_mayAttempt : Cond.instanceMethod yX6_mayAttempt ∈ kBig := k_mem 430 (by decide +kernel) (by decide +kernel)
theorem kx_X6_mayAttempt : Cond.selects RX6 yX6_mayAttempt yX6_mayAttempt ∈ kBig := k_mem 431 (by decide +kernel) (by decide +kernel)
theorem kk_X6_mayAttempt : Cond.code yX6_mayAttempt cX6_mayAttempt 3 (some .boolean) ∈ kBig := k_mem 432 (by decide +kernel) (by decide +kernel)
theorem ki_X6_waitsFor : Cond.instanceMethod yX6_waitsFor ∈ kBig := k_mem 526 (by decide +kernel) (by decide +kernel)
theorem kx_X6_waitsFor : Cond.selects RX6 yX6_waitsFor yX6_waitsFor ∈ kBig := k_mem 527 (by decide +kernel) (by decide +kernel)
theorem kk_X6_waitsFor : Cond.code yX6_waitsFor cX6_waitsFor 3 (some .boolean) ∈ kBig := k_mem 528 (by decide +kernel) (by decide +kernel)
theorem ki_X6_startAnew : Cond.instanceMethod yX6_startAnew ∈ kBig := k_mem 418 (by decide +kernel) (by decide +kernel)
theorem kx_X6_startAnew : Cond.selects RX6 yX6_startAnew yX6_startAnew ∈ kBig := k_mem 419 (by decide +kernel) (by decide +kernel)
theorem kk_X6_startAnew : Cond.code yX6_startAnew cX6_startAnew 1 none ∈ kBig := k_mem 420 (by decide +kernel) (by decide +kernel)
theorem ki_X6_beginDue : Cond.instanceMethod yX6_beginDue ∈ kBig := k_mem 422 (by decide +kernel) (by decide +kernel)
theorem kx_X6_beginDue : Cond.selects RX6 yX6_beginDue yX6_beginDue ∈ kBig := k_mem 423 (by decide +kernel) (by decide +kernel)
theorem kk_X6_beginDue : Cond.code yX6_beginDue cX6_beginDue 2 none ∈ kBig := k_mem 424 (by decide +kernel) (by decide +kernel)
theorem ki_X6_countBegun : Cond.instanceMethod yX6_countBegun ∈ kBig := k_mem 426 (by decide +kernel) (by decide +kernel)
theorem kx_X6_countBegun : Cond.selects RX6 yX6_countBegun yX6_countBegun ∈ kBig := k_mem 427 (by decide +kernel) (by decide +kernel)
theorem kk_X6_countBegun : Cond.code yX6_countBegun cX6_countBegun 1 none ∈ kBig := k_mem 428 (by decide +kernel) (by decide +kernel)
theorem ki_X6_endFrame : Cond.instanceMethod yX6_endFrame ∈ kBig := k_mem 565 (by decide +kernel) (by decide +kernel)
theorem kx_X6_endFrame : Cond.selects RX6 yX6_endFrame yX6_endFrame ∈ kBig := k_mem 566 (by decide +kernel) (by decide +kernel)
theorem kk_X6_endFrame : Cond.code yX6_endFrame cX6_endFrame 4 none ∈ kBig := k_mem 567 (by decide +kernel) (by decide +kernel)
theorem ki_X6_countIdle : Cond.instanceMethod yX6_countIdle ∈ kBig := k_mem 575 (by decide +kernel) (by decide +kernel)
theorem kx_X6_countIdle : Cond.selects RX6 yX6_countIdle yX6_countIdle ∈ kBig := k_mem 576 (by decide +kernel) (by decide +kernel)
theorem kk_X6_countIdle : Cond.code yX6_countIdle cX6_countIdle 2 none ∈ kBig := k_mem 577 (by decide +kernel) (by decide +kernel)
theorem ki_X7_init : Cond.instanceMethod yX7_init ∈ kBig := k_mem 51 (by decide +kernel) (by decide +kernel)
theorem kk_X7_init : Cond.code yX7_init cX7_init 4 none ∈ kBig := k_mem 52 (by decide +kernel) (by decide +kernel)
theorem ki_X7_hear : Cond.instanceMethod yX7_hear ∈ kBig := k_mem 324 (by decide +kernel) (by decide +kernel)
theorem kx_X7_hear : Cond.selects RX7 yX7_hear yX7_hear ∈ kBig := k_mem 325 (by decide +kernel) (by decide +kernel)
theorem kk_X7_hear : Cond.code yX7_hear cX7_hear 6 (some .int) ∈ kBig := k_mem 326 (by decide +kernel) (by decide +kernel)
theorem ki_X7_coin : Cond.instanceMethod yX7_coin ∈ kBig := k_mem 332 (by decide +kernel) (by decide +kernel)
theorem kx_X7_coin : Cond.selects RX7 yX7_coin yX7_coin ∈ kBig := k_mem 333 (by decide +kernel) (by decide +kernel)
theorem kk_X7_coin : Cond.code yX7_coin cX7_coin 2 (some .int) ∈ kBig := k_mem 334 (by decide +kernel) (by decide +kernel)
theorem ki_X7_threshold : Cond.instanceMethod yX7_threshold ∈ kBig := k_mem 344 (by decide +kernel) (by decide +kernel)
theorem kx_X7_threshold : Cond.selects RX7 yX7_threshold yX7_threshold ∈ kBig := k_mem 345 (by decide +kernel) (by decide +kernel)
theorem kk_X7_threshold : Cond.code yX7_threshold cX7_threshold 3 (some .int) ∈ kBig := k_mem 346 (by decide +kernel) (by decide +kernel)
theorem ki_X7_offer : Cond.instanceMethod yX7_offer ∈ kBig := k_mem 348 (by decide +kernel) (by decide +kernel)
theorem kx_X7_offer : Cond.selects RX7 yX7_offer yX7_offer ∈ kBig := k_mem 349 (by decide +kernel) (by decide +kernel)
theorem kk_X7_offer : Cond.code yX7_offer cX7_offer 6 (some .int) ∈ kBig := k_mem 350 (by decide +kernel) (by decide +kernel)
theorem ki_X7_noise : Cond.instanceMethod yX7_noise ∈ kBig := k_mem 381 (by decide +kernel) (by decide +kernel)
theorem kx_X7_noise : Cond.selects RX7 yX7_noise yX7_noise ∈ kBig := k_mem 382 (by decide +kernel) (by decide +kernel)
theorem kk_X7_noise : Cond.code yX7_noise cX7_noise 5 (some .int) ∈ kBig := k_mem 383 (by decide +kernel) (by decide +kernel)
theorem ki_X7_run : Cond.instanceMethod yX7_run ∈ kBig := k_mem 394 (by decide +kernel) (by decide +kernel)
theorem kx_X7_run : Cond.selects RX7 yX7_run yX7_run ∈ kBig := k_mem 395 (by decide +kernel) (by decide +kernel)
theorem kk_X7_run : Cond.code yX7_run cX7_run 4 (some .int) ∈ kBig := k_mem 396 (by decide +kernel) (by decide +kernel)
theorem ki_X7_event : Cond.instanceMethod yX7_event ∈ kBig := k_mem 579 (by decide +kernel) (by decide +kernel)
theorem kx_X7_event : Cond.selects RX7 yX7_event yX7_event ∈ kBig := k_mem 580 (by decide +kernel) (by decide +kernel)
theorem kk_X7_event : Cond.code yX7_event cX7_event 3 (some .int) ∈ kBig := k_mem 581 (by decide +kernel) (by decide +kernel)
theorem ki_X7_state : Cond.instanceMethod yX7_state ∈ kBig := k_mem 588 (by decide +kernel) (by decide +kernel)
theorem kx_X7_state : Cond.selects RX7 yX7_state yX7_state ∈ kBig := k_mem 589 (by decide +kernel) (by decide +kernel)
theorem kk_X7_state : Cond.code yX7_state cX7_state 4 (some .int) ∈ kBig := k_mem 590 (by decide +kernel) (by decide +kernel)
theorem ki_X7_sent : Cond.instanceMethod yX7_sent ∈ kBig := k_mem 592 (by decide +kernel) (by decide +kernel)
theorem kx_X7_sent : Cond.selects RX7 yX7_sent yX7_sent ∈ kBig := k_mem 593 (by decide +kernel) (by decide +kernel)
theorem kk_X7_sent : Cond.code yX7_sent cX7_sent 3 (some .int) ∈ kBig := k_mem 594 (by decide +kernel) (by decide +kernel)
theorem ki_X7_now : Cond.instanceMethod yX7_now ∈ kBig := k_mem 596 (by decide +kernel) (by decide +kernel)
theorem kx_X7_now : Cond.selects RX7 yX7_now yX7_now ∈ kBig := k_mem 597 (by decide +kernel) (by decide +kernel)
theorem kk_X7_now : Cond.code yX7_now cX7_now 1 (some .long) ∈ kBig := k_mem 598 (by decide +kernel) (by decide +kernel)
theorem ki_X7_isStation : Cond.instanceMethod yX7_isStation ∈ kBig := k_mem 329 (by decide +kernel) (by decide +kernel)
theorem kx_X7_isStation : Cond.selects RX7 yX7_isStation yX7_isStation ∈ kBig := k_mem 0 (by decide +kernel) (by decide +kernel)
theorem kk_X7_isStation : Cond.code yX7_isStation cX7_isStation 2 (some .boolean) ∈ kBig := k_mem 330 (by decide +kernel) (by decide +kernel)
theorem ki_X7_drawCount : Cond.instanceMethod yX7_drawCount ∈ kBig := k_mem 369 (by decide +kernel) (by decide +kernel)
theorem kx_X7_drawCount : Cond.selects RX7 yX7_drawCount yX7_drawCount ∈ kBig := k_mem 1 (by decide +kernel) (by decide +kernel)
theorem kk_X7_drawCount : Cond.code yX7_drawCount cX7_drawCount 2 none ∈ kBig := k_mem 370 (by decide +kernel) (by decide +kernel)
theorem ki_X7_beginFrames : Cond.instanceMethod yX7_beginFrames ∈ kBig := k_mem 399 (by decide +kernel) (by decide +kernel)
theorem kx_X7_beginFrames : Cond.selects RX7 yX7_beginFrames yX7_beginFrames ∈ kBig := k_mem 2 (by decide +kernel) (by decide +kernel)
theorem kk_X7_beginFrames : Cond.code yX7_beginFrames cX7_beginFrames 5 none ∈ kBig := k_mem 400 (by decide +kernel) (by decide +kernel)
theorem ki_X7_beginAttempt : Cond.instanceMethod yX7_beginAttempt ∈ kBig := k_mem 439 (by decide +kernel) (by decide +kernel)
theorem kx_X7_beginAttempt : Cond.selects RX7 yX7_beginAttempt yX7_beginAttempt ∈ kBig := k_mem 4 (by decide +kernel) (by decide +kernel)
theorem kk_X7_beginAttempt : Cond.code yX7_beginAttempt cX7_beginAttempt 5 none ∈ kBig := k_mem 440 (by decide +kernel) (by decide +kernel)
theorem ki_X7_failAttempt : Cond.instanceMethod yX7_failAttempt ∈ kBig := k_mem 403 (by decide +kernel) (by decide +kernel)
theorem kx_X7_failAttempt : Cond.selects RX7 yX7_failAttempt yX7_failAttempt ∈ kBig := k_mem 3 (by decide +kernel) (by decide +kernel)
theorem kk_X7_failAttempt : Cond.code yX7_failAttempt cX7_failAttempt 3 none ∈ kBig := k_mem 404 (by decide +kernel) (by decide +kernel)
theorem ki_X7_markGoodSlots : Cond.instanceMethod yX7_markGoodSlots ∈ kBig := k_mem 471 (by decide +kernel) (by decide +kernel)
theorem kx_X7_markGoodSlots : Cond.selects RX7 yX7_markGoodSlots yX7_markGoodSlots ∈ kBig := k_mem 5 (by decide +kernel) (by decide +kernel)
theorem kk_X7_markGoodSlots : Cond.code yX7_markGoodSlots cX7_markGoodSlots 9 none ∈ kBig := k_mem 472 (by decide +kernel) (by decide +kernel)
theorem ki_X7_isGood : Cond.instanceMethod yX7_isGood ∈ kBig := k_mem 475 (by decide +kernel) (by decide +kernel)
theorem kx_X7_isGood : Cond.selects RX7 yX7_isGood yX7_isGood ∈ kBig := k_mem 6 (by decide +kernel) (by decide +kernel)
theorem kk_X7_isGood : Cond.code yX7_isGood cX7_isGood 3 (some .boolean) ∈ kBig := k_mem 476 (by decide +kernel) (by decide +kernel)
theorem ki_X7_endFrames : Cond.instanceMethod yX7_endFrames ∈ kBig := k_mem 487 (by decide +kernel) (by decide +kernel)
theorem kx_X7_endFrames : Cond.selects RX7 yX7_endFrames yX7_endFrames ∈ kBig := k_mem 7 (by decide +kernel) (by decide +kernel)
theorem kk_X7_endFrames : Cond.code yX7_endFrames cX7_endFrames 10 none ∈ kBig := k_mem 488 (by decide +kernel) (by decide +kernel)
theorem ki_X7_receive : Cond.instanceMethod yX7_receive ∈ kBig := k_mem 507 (by decide +kernel) (by decide +kernel)
theorem kx_X7_receive : Cond.selects RX7 yX7_receive yX7_receive ∈ kBig := k_mem 8 (by decide +kernel) (by decide +kernel)
theorem kk_X7_receive : Cond.code yX7_receive cX7_receive 4 none ∈ kBig := k_mem 508 (by decide +kernel) (by decide +kernel)
theorem ki_X7_receiveAsk : Cond.instanceMethod yX7_receiveAsk ∈ kBig := k_mem 518 (by decide +kernel) (by decide +kernel)
theorem kx_X7_receiveAsk : Cond.selects RX7 yX7_receiveAsk yX7_receiveAsk ∈ kBig := k_mem 9 (by decide +kernel) (by decide +kernel)
theorem kk_X7_receiveAsk : Cond.code yX7_receiveAsk cX7_receiveAsk 4 none ∈ kBig := k_mem 519 (by decide +kernel) (by decide +kernel)
theorem ki_X7_receiveAnswer : Cond.instanceMethod yX7_receiveAnswer ∈ kBig := k_mem 523 (by decide +kernel) (by decide +kernel)
theorem kx_X7_receiveAnswer : Cond.selects RX7 yX7_receiveAnswer yX7_receiveAnswer ∈ kBig := k_mem 10 (by decide +kernel) (by decide +kernel)
theorem kk_X7_receiveAnswer : Cond.code yX7_receiveAnswer cX7_receiveAnswer 3 none ∈ kBig := k_mem 524 (by decide +kernel) (by decide +kernel)
theorem ki_X7_receiveData : Cond.instanceMethod yX7_receiveData ∈ kBig := k_mem 531 (by decide +kernel) (by decide +kernel)
theorem kx_X7_receiveData : Cond.selects RX7 yX7_receiveData yX7_receiveData ∈ kBig := k_mem 11 (by decide +kernel) (by decide +kernel)
theorem kk_X7_receiveData : Cond.code yX7_receiveData cX7_receiveData 4 none ∈ kBig := k_mem 532 (by decide +kernel) (by decide +kernel)
theorem ki_X7_receiveAcknowledge : Cond.instanceMethod yX7_receiveAcknowledge ∈ kBig := k_mem 562 (by decide +kernel) (by decide +kernel)
theorem kx_X7_receiveAcknowledge : Cond.selects RX7 yX7_receiveAcknowledge yX7_receiveAcknowledge ∈ kBig := k_mem 13 (by decide +kernel) (by decide +kernel)
theorem kk_X7_receiveAcknowledge : Cond.code yX7_receiveAcknowledge cX7_receiveAcknowledge 6 none ∈ kBig := k_mem 563 (by decide +kernel) (by decide +kernel)
theorem ki_X7_takePayloads : Cond.instanceMethod yX7_takePayloads ∈ kBig := k_mem 541 (by decide +kernel) (by decide +kernel)
theorem kx_X7_takePayloads : Cond.selects RX7 yX7_takePayloads yX7_takePayloads ∈ kBig := k_mem 12 (by decide +kernel) (by decide +kernel)
theorem kk_X7_takePayloads : Cond.code yX7_takePayloads cX7_takePayloads 4 none ∈ kBig := k_mem 542 (by decide +kernel) (by decide +kernel)
theorem ki_X7_countIdleSlots : Cond.instanceMethod yX7_countIdleSlots ∈ kBig := k_mem 571 (by decide +kernel) (by decide +kernel)
theorem kx_X7_countIdleSlots : Cond.selects RX7 yX7_countIdleSlots yX7_countIdleSlots ∈ kBig := k_mem 14 (by decide +kernel) (by decide +kernel)
theorem kk_X7_countIdleSlots : Cond.code yX7_countIdleSlots cX7_countIdleSlots 7 none ∈ kBig := k_mem 572 (by decide +kernel) (by decide +kernel)
theorem ki_X8_init : Cond.instanceMethod yX8_init ∈ kBig := k_mem 605 (by decide +kernel) (by decide +kernel)
theorem kk_X8_init : Cond.code yX8_init cX8_init 3 none ∈ kBig := k_mem 606 (by decide +kernel) (by decide +kernel)
theorem ki_X8_isStation : Cond.instanceMethod yX8_isStation ∈ kBig := k_mem 772 (by decide +kernel) (by decide +kernel)
theorem kx_X8_isStation : Cond.selects RX8 yX8_isStation yX8_isStation ∈ kBig := k_mem 15 (by decide +kernel) (by decide +kernel)
theorem kk_X8_isStation : Cond.code yX8_isStation cX8_isStation 2 (some .boolean) ∈ kBig := k_mem 773 (by decide +kernel) (by decide +kernel)
theorem ki_X8_hears : Cond.instanceMethod yX8_hears ∈ kBig := k_mem 833 (by decide +kernel) (by decide +kernel)
theorem kx_X8_hears : Cond.selects RX8 yX8_hears yX8_hears ∈ kBig := k_mem 25 (by decide +kernel) (by decide +kernel)
theorem kk_X8_hears : Cond.code yX8_hears cX8_hears 3 (some .boolean) ∈ kBig := k_mem 834 (by decide +kernel) (by decide +kernel)
theorem ki_X8_hear : Cond.instanceMethod yX8_hear ∈ kBig := k_mem 767 (by decide +kernel) (by decide +kernel)
theorem kx_X8_hear : Cond.selects RX8 yX8_hear yX8_hear ∈ kBig := k_mem 768 (by decide +kernel) (by decide +kernel)
theorem kk_X8_hear : Cond.code yX8_hear cX8_hear 5 (some .int) ∈ kBig := k_mem 769 (by decide +kernel) (by decide +kernel)
theorem ki_X8_coin : Cond.instanceMethod yX8_coin ∈ kBig := k_mem 775 (by decide +kernel) (by decide +kernel)
theorem kx_X8_coin : Cond.selects RX8 yX8_coin yX8_coin ∈ kBig := k_mem 776 (by decide +kernel) (by decide +kernel)
theorem kk_X8_coin : Cond.code yX8_coin cX8_coin 2 (some .int) ∈ kBig := k_mem 777 (by decide +kernel) (by decide +kernel)
theorem ki_X8_draw : Cond.instanceMethod yX8_draw ∈ kBig := k_mem 792 (by decide +kernel) (by decide +kernel)
theorem kx_X8_draw : Cond.selects RX8 yX8_draw yX8_draw ∈ kBig := k_mem 17 (by decide +kernel) (by decide +kernel)
theorem kk_X8_draw : Cond.code yX8_draw cX8_draw 3 none ∈ kBig := k_mem 793 (by decide +kernel) (by decide +kernel)
theorem ki_X8_threshold : Cond.instanceMethod yX8_threshold ∈ kBig := k_mem 779 (by decide +kernel) (by decide +kernel)
theorem kx_X8_threshold : Cond.selects RX8 yX8_threshold yX8_threshold ∈ kBig := k_mem 780 (by decide +kernel) (by decide +kernel)
theorem kk_X8_threshold : Cond.code yX8_threshold cX8_threshold 3 (some .int) ∈ kBig := k_mem 781 (by decide +kernel) (by decide +kernel)
theorem ki_X8_keeps : Cond.instanceMethod yX8_keeps ∈ kBig := k_mem 788 (by decide +kernel) (by decide +kernel)
theorem kx_X8_keeps : Cond.selects RX8 yX8_keeps yX8_keeps ∈ kBig := k_mem 16 (by decide +kernel) (by decide +kernel)
theorem kk_X8_keeps : Cond.code yX8_keeps cX8_keeps 4 (some .int) ∈ kBig := k_mem 789 (by decide +kernel) (by decide +kernel)
theorem ki_X8_offer : Cond.instanceMethod yX8_offer ∈ kBig := k_mem 783 (by decide +kernel) (by decide +kernel)
theorem kx_X8_offer : Cond.selects RX8 yX8_offer yX8_offer ∈ kBig := k_mem 784 (by decide +kernel) (by decide +kernel)
theorem kk_X8_offer : Cond.code yX8_offer cX8_offer 5 (some .int) ∈ kBig := k_mem 785 (by decide +kernel) (by decide +kernel)
theorem ki_X8_noise : Cond.instanceMethod yX8_noise ∈ kBig := k_mem 795 (by decide +kernel) (by decide +kernel)
theorem kx_X8_noise : Cond.selects RX8 yX8_noise yX8_noise ∈ kBig := k_mem 796 (by decide +kernel) (by decide +kernel)
theorem kk_X8_noise : Cond.code yX8_noise cX8_noise 5 (some .int) ∈ kBig := k_mem 797 (by decide +kernel) (by decide +kernel)
theorem ki_X8_hasNoise : Cond.instanceMethod yX8_hasNoise ∈ kBig := k_mem 841 (by decide +kernel) (by decide +kernel)
theorem kx_X8_hasNoise : Cond.selects RX8 yX8_hasNoise yX8_hasNoise ∈ kBig := k_mem 27 (by decide +kernel) (by decide +kernel)
theorem kk_X8_hasNoise : Cond.code yX8_hasNoise cX8_hasNoise 6 (some .boolean) ∈ kBig := k_mem 842 (by decide +kernel) (by decide +kernel)
theorem ki_X8_tell : Cond.instanceMethod yX8_tell ∈ kBig := k_mem 813 (by decide +kernel) (by decide +kernel)
theorem kx_X8_tell : Cond.selects RX8 yX8_tell yX8_tell ∈ kBig := k_mem 20 (by decide +kernel) (by decide +kernel)
theorem kk_X8_tell : Cond.code yX8_tell cX8_tell 5 none ∈ kBig := k_mem 814 (by decide +kernel) (by decide +kernel)
theorem ki_X8_sends : Cond.instanceMethod yX8_sends ∈ kBig := k_mem 821 (by decide +kernel) (by decide +kernel)
theorem kx_X8_sends : Cond.selects RX8 yX8_sends yX8_sends ∈ kBig := k_mem 22 (by decide +kernel) (by decide +kernel)
theorem kk_X8_sends : Cond.code yX8_sends cX8_sends 4 (some .boolean) ∈ kBig := k_mem 822 (by decide +kernel) (by decide +kernel)
theorem ki_X8_fail : Cond.instanceMethod yX8_fail ∈ kBig := k_mem 809 (by decide +kernel) (by decide +kernel)
theorem kx_X8_fail : Cond.selects RX8 yX8_fail yX8_fail ∈ kBig := k_mem 19 (by decide +kernel) (by decide +kernel)
theorem kk_X8_fail : Cond.code yX8_fail cX8_fail 5 none ∈ kBig := k_mem 810 (by decide +kernel) (by decide +kernel)
theorem ki_X8_begin : Cond.instanceMethod yX8_begin ∈ kBig := k_mem 817 (by decide +kernel) (by decide +kernel)
theorem kx_X8_begin : Cond.selects RX8 yX8_begin yX8_begin ∈ kBig := k_mem 21 (by decide +kernel) (by decide +kernel)
theorem kk_X8_begin : Cond.code yX8_begin cX8_begin 9 none ∈ kBig := k_mem 818 (by decide +kernel) (by decide +kernel)
theorem ki_X8_attempt : Cond.instanceMethod yX8_attempt ∈ kBig := k_mem 825 (by decide +kernel) (by decide +kernel)
theorem kx_X8_attempt : Cond.selects RX8 yX8_attempt yX8_attempt ∈ kBig := k_mem 23 (by decide +kernel) (by decide +kernel)
theorem kk_X8_attempt : Cond.code yX8_attempt cX8_attempt 8 none ∈ kBig := k_mem 826 (by decide +kernel) (by decide +kernel)
theorem ki_X8_stepOne : Cond.instanceMethod yX8_stepOne ∈ kBig := k_mem 805 (by decide +kernel) (by decide +kernel)
theorem kx_X8_stepOne : Cond.selects RX8 yX8_stepOne yX8_stepOne ∈ kBig := k_mem 18 (by decide +kernel) (by decide +kernel)
theorem kk_X8_stepOne : Cond.code yX8_stepOne cX8_stepOne 4 none ∈ kBig := k_mem 806 (by decide +kernel) (by decide +kernel)
theorem ki_X8_hearsAny : Cond.instanceMethod yX8_hearsAny ∈ kBig := k_mem 837 (by decide +kernel) (by decide +kernel)
theorem kx_X8_hearsAny : Cond.selects RX8 yX8_hearsAny yX8_hearsAny ∈ kBig := k_mem 26 (by decide +kernel) (by decide +kernel)
theorem kk_X8_hearsAny : Cond.code yX8_hearsAny cX8_hearsAny 7 (some .boolean) ∈ kBig := k_mem 838 (by decide +kernel) (by decide +kernel)
theorem ki_X8_stepTwo : Cond.instanceMethod yX8_stepTwo ∈ kBig := k_mem 829 (by decide +kernel) (by decide +kernel)
theorem kx_X8_stepTwo : Cond.selects RX8 yX8_stepTwo yX8_stepTwo ∈ kBig := k_mem 24 (by decide +kernel) (by decide +kernel)
theorem kk_X8_stepTwo : Cond.code yX8_stepTwo cX8_stepTwo 6 none ∈ kBig := k_mem 830 (by decide +kernel) (by decide +kernel)
theorem ki_X8_left : Cond.instanceMethod yX8_left ∈ kBig := k_mem 853 (by decide +kernel) (by decide +kernel)
theorem kx_X8_left : Cond.selects RX8 yX8_left yX8_left ∈ kBig := k_mem 30 (by decide +kernel) (by decide +kernel)
theorem kk_X8_left : Cond.code yX8_left cX8_left 2 (some .int) ∈ kBig := k_mem 854 (by decide +kernel) (by decide +kernel)
theorem ki_X8_due : Cond.instanceMethod yX8_due ∈ kBig := k_mem 857 (by decide +kernel) (by decide +kernel)
theorem kx_X8_due : Cond.selects RX8 yX8_due yX8_due ∈ kBig := k_mem 31 (by decide +kernel) (by decide +kernel)
theorem kk_X8_due : Cond.code yX8_due cX8_due 8 none ∈ kBig := k_mem 858 (by decide +kernel) (by decide +kernel)
theorem ki_X8_handOver : Cond.instanceMethod yX8_handOver ∈ kBig := k_mem 866 (by decide +kernel) (by decide +kernel)
theorem kx_X8_handOver : Cond.selects RX8 yX8_handOver yX8_handOver ∈ kBig := k_mem 33 (by decide +kernel) (by decide +kernel)
theorem kk_X8_handOver : Cond.code yX8_handOver cX8_handOver 4 none ∈ kBig := k_mem 867 (by decide +kernel) (by decide +kernel)
theorem ki_X8_take : Cond.instanceMethod yX8_take ∈ kBig := k_mem 862 (by decide +kernel) (by decide +kernel)
theorem kx_X8_take : Cond.selects RX8 yX8_take yX8_take ∈ kBig := k_mem 32 (by decide +kernel) (by decide +kernel)
theorem kk_X8_take : Cond.code yX8_take cX8_take 13 (some .int) ∈ kBig := k_mem 863 (by decide +kernel) (by decide +kernel)
theorem ki_X8_acknowledged : Cond.instanceMethod yX8_acknowledged ∈ kBig := k_mem 870 (by decide +kernel) (by decide +kernel)
theorem kx_X8_acknowledged : Cond.selects RX8 yX8_acknowledged yX8_acknowledged ∈ kBig := k_mem 34 (by decide +kernel) (by decide +kernel)
theorem kk_X8_acknowledged : Cond.code yX8_acknowledged cX8_acknowledged 6 none ∈ kBig := k_mem 871 (by decide +kernel) (by decide +kernel)
theorem ki_X8_receive : Cond.instanceMethod yX8_receive ∈ kBig := k_mem 849 (by decide +kernel) (by decide +kernel)
theorem kx_X8_receive : Cond.selects RX8 yX8_receive yX8_receive ∈ kBig := k_mem 29 (by decide +kernel) (by decide +kernel)
theorem kk_X8_receive : Cond.code yX8_receive cX8_receive 7 none ∈ kBig := k_mem 850 (by decide +kernel) (by decide +kernel)
theorem ki_X8_stepThree : Cond.instanceMethod yX8_stepThree ∈ kBig := k_mem 845 (by decide +kernel) (by decide +kernel)
theorem kx_X8_stepThree : Cond.selects RX8 yX8_stepThree yX8_stepThree ∈ kBig := k_mem 28 (by decide +kernel) (by decide +kernel)
theorem kk_X8_stepThree : Cond.code yX8_stepThree cX8_stepThree 6 none ∈ kBig := k_mem 846 (by decide +kernel) (by decide +kernel)
theorem ki_X8_stepFour : Cond.instanceMethod yX8_stepFour ∈ kBig := k_mem 875 (by decide +kernel) (by decide +kernel)
theorem kx_X8_stepFour : Cond.selects RX8 yX8_stepFour yX8_stepFour ∈ kBig := k_mem 35 (by decide +kernel) (by decide +kernel)
theorem kk_X8_stepFour : Cond.code yX8_stepFour cX8_stepFour 5 none ∈ kBig := k_mem 876 (by decide +kernel) (by decide +kernel)
theorem ki_X8_run : Cond.instanceMethod yX8_run ∈ kBig := k_mem 800 (by decide +kernel) (by decide +kernel)
theorem kx_X8_run : Cond.selects RX8 yX8_run yX8_run ∈ kBig := k_mem 801 (by decide +kernel) (by decide +kernel)
theorem kk_X8_run : Cond.code yX8_run cX8_run 4 (some .int) ∈ kBig := k_mem 802 (by decide +kernel) (by decide +kernel)
theorem ki_X8_event : Cond.instanceMethod yX8_event ∈ kBig := k_mem 878 (by decide +kernel) (by decide +kernel)
theorem kx_X8_event : Cond.selects RX8 yX8_event yX8_event ∈ kBig := k_mem 879 (by decide +kernel) (by decide +kernel)
theorem kk_X8_event : Cond.code yX8_event cX8_event 3 (some .int) ∈ kBig := k_mem 880 (by decide +kernel) (by decide +kernel)
theorem ki_X8_state : Cond.instanceMethod yX8_state ∈ kBig := k_mem 882 (by decide +kernel) (by decide +kernel)
theorem kx_X8_state : Cond.selects RX8 yX8_state yX8_state ∈ kBig := k_mem 883 (by decide +kernel) (by decide +kernel)
theorem kk_X8_state : Cond.code yX8_state cX8_state 3 (some .int) ∈ kBig := k_mem 884 (by decide +kernel) (by decide +kernel)
theorem ki_X8_sent : Cond.instanceMethod yX8_sent ∈ kBig := k_mem 886 (by decide +kernel) (by decide +kernel)
theorem kx_X8_sent : Cond.selects RX8 yX8_sent yX8_sent ∈ kBig := k_mem 887 (by decide +kernel) (by decide +kernel)
theorem kk_X8_sent : Cond.code yX8_sent cX8_sent 3 (some .int) ∈ kBig := k_mem 888 (by decide +kernel) (by decide +kernel)
theorem ki_X8_now : Cond.instanceMethod yX8_now ∈ kBig := k_mem 890 (by decide +kernel) (by decide +kernel)
theorem kx_X8_now : Cond.selects RX8 yX8_now yX8_now ∈ kBig := k_mem 891 (by decide +kernel) (by decide +kernel)
theorem kk_X8_now : Cond.code yX8_now cX8_now 1 (some .long) ∈ kBig := k_mem 892 (by decide +kernel) (by decide +kernel)
theorem ks_J9_max_7cf53 : Cond.static yJ9_max_7cf53 ∈ kBig := k_mem 168 (by decide +kernel) (by decide +kernel)
theorem kk_J9_max_7cf53 : Cond.code yJ9_max_7cf53 cJ9_max_7cf53 2 (some .int) ∈ kBig := k_mem 169 (by decide +kernel) (by decide +kernel)
theorem ks_J9_max_f86c9 : Cond.static yJ9_max_f86c9 ∈ kBig := k_mem 514 (by decide +kernel) (by decide +kernel)
theorem kk_J9_max_f86c9 : Cond.code yJ9_max_f86c9 cJ9_max_f86c9 4 (some .long) ∈ kBig := k_mem 515 (by decide +kernel) (by decide +kernel)
theorem ks_J9_min_7cf53 : Cond.static yJ9_min_7cf53 ∈ kBig := k_mem 165 (by decide +kernel) (by decide +kernel)
theorem kk_J9_min_7cf53 : Cond.code yJ9_min_7cf53 cJ9_min_7cf53 2 (some .int) ∈ kBig := k_mem 166 (by decide +kernel) (by decide +kernel)
theorem ks_J7_fill_d0a16 : Cond.static yJ7_fill_d0a16 ∈ kBig := k_mem 461 (by decide +kernel) (by decide +kernel)
theorem kk_J7_fill_d0a16 : Cond.code yJ7_fill_d0a16 cJ7_fill_d0a16 5 none ∈ kBig := k_mem 462 (by decide +kernel) (by decide +kernel)
theorem ks_L_cell : Cond.static yL_cell ∈ kBig := k_mem 600 (by decide +kernel) (by decide +kernel)
theorem kk_L_cell : Cond.code yL_cell cL_cell 2 (some .int) ∈ kBig := k_mem 601 (by decide +kernel) (by decide +kernel)
theorem kn_L : Cond.initialized RL ∈ kBig := k_mem 36 (by decide +kernel) (by decide +kernel)
theorem kn_X7 : Cond.initialized RX7 ∈ kBig := k_mem 37 (by decide +kernel) (by decide +kernel)
theorem kn_X0 : Cond.initialized RX0 ∈ kBig := k_mem 38 (by decide +kernel) (by decide +kernel)
theorem kn_X4 : Cond.initialized RX4 ∈ kBig := k_mem 39 (by decide +kernel) (by decide +kernel)
theorem kn_X3 : Cond.initialized RX3 ∈ kBig := k_mem 40 (by decide +kernel) (by decide +kernel)
theorem kn_X1 : Cond.initialized RX1 ∈ kBig := k_mem 41 (by decide +kernel) (by decide +kernel)
theorem kn_X5 : Cond.initialized RX5 ∈ kBig := k_mem 42 (by decide +kernel) (by decide +kernel)
theorem kn_J9 : Cond.initialized RJ9 ∈ kBig := k_mem 43 (by decide +kernel) (by decide +kernel)
theorem kn_X6 : Cond.initialized RX6 ∈ kBig := k_mem 44 (by decide +kernel) (by decide +kernel)
theorem kn_X2 : Cond.initialized RX2 ∈ kBig := k_mem 45 (by decide +kernel) (by decide +kernel)
theorem kn_X8 : Cond.initialized RX8 ∈ kBig := k_mem 46 (by decide +kernel) (by decide +kernel)
theorem kn_J7 : Cond.initialized RJ7 ∈ kBig := k_mem 47 (by decide +kernel) (by decide +kernel)
theorem kt_X7 : Cond.instantiable RX7 9 ∈ kBig := k_mem 49 (by decide +kernel) (by decide +kernel)
theorem kt_X0 : Cond.instantiable RX0 3 ∈ kBig := k_mem 57 (by decide +kernel) (by decide +kernel)
theorem ka_int : Cond.arrayClass .int ∈ kBig := k_mem 72 (by decide +kernel) (by decide +kernel)
theorem kt_X4 : Cond.instantiable RX4 7 ∈ kBig := k_mem 74 (by decide +kernel) (by decide +kernel)
theorem ka_boolean : Cond.arrayClass .boolean ∈ kBig := k_mem 102 (by decide +kernel) (by decide +kernel)
theorem kt_X3 : Cond.instantiable RX3 4 ∈ kBig := k_mem 104 (by decide +kernel) (by decide +kernel)
theorem ka_long : Cond.arrayClass .long ∈ kBig := k_mem 123 (by decide +kernel) (by decide +kernel)
theorem kt_X1 : Cond.instantiable RX1 4 ∈ kBig := k_mem 125 (by decide +kernel) (by decide +kernel)
theorem kt_X5 : Cond.instantiable RX5 2 ∈ kBig := k_mem 148 (by decide +kernel) (by decide +kernel)
theorem kt_X6 : Cond.instantiable RX6 20 ∈ kBig := k_mem 172 (by decide +kernel) (by decide +kernel)
theorem kt_X2 : Cond.instantiable RX2 6 ∈ kBig := k_mem 181 (by decide +kernel) (by decide +kernel)
theorem kt_X8 : Cond.instantiable RX8 52 ∈ kBig := k_mem 603 (by decide +kernel) (by decide +kernel)
theorem ki_obj : Cond.instanceMethod objectInit ∈ kBig := k_mem 54 (by decide +kernel) (by decide +kernel)
theorem kk_obj : Cond.code objectInit ⟨#[0xb1]⟩ 1 none ∈ kBig := k_mem 55 (by decide +kernel) (by decide +kernel)
abbrev tX0_init : MethodName × ByteArray × Nat × Option FieldType × Room := (yX0_init, cX0_init, 1, none, { frames := 1, cells := 1, slots := 400, locals := 20 })
abbrev tX0_add : MethodName × ByteArray × Nat × Option FieldType × Room := (yX0_add, cX0_add, 2, none, { frames := 0, cells := 0, slots := 0, locals := 0 })
abbrev tX0_undrawn : MethodName × ByteArray × Nat × Option FieldType × Room := (yX0_undrawn, cX0_undrawn, 1, (some .int), { frames := 0, cells := 0, slots := 0, locals := 0 })
abbrev tX0_draw : MethodName × ByteArray × Nat × Option FieldType × Room := (yX0_draw, cX0_draw, 3, (some .int), { frames := 0, cells := 0, slots := 0, locals := 0 })
abbrev tX1_init : MethodName × ByteArray × Nat × Option FieldType × Room := (yX1_init, cX1_init, 1, none, { frames := 1, cells := 3, slots := 2100, locals := 20 })
abbrev tX1_told : MethodName × ByteArray × Nat × Option FieldType × Room := (yX1_told, cX1_told, 1, (some .int), { frames := 1, cells := 0, slots := 0, locals := 21 })
abbrev tX1_add : MethodName × ByteArray × Nat × Option FieldType × Room := (yX1_add, cX1_add, 5, none, { frames := 0, cells := 0, slots := 0, locals := 0 })
abbrev tX2_init : MethodName × ByteArray × Nat × Option FieldType × Room := (yX2_init, cX2_init, 2, none, { frames := 2, cells := 3, slots := 18, locals := 41 })
abbrev tX2_make : MethodName × ByteArray × Nat × Option FieldType × Room := (yX2_make, cX2_make, 4, none, { frames := 1, cells := 0, slots := 0, locals := 24 })
abbrev tX2_length : MethodName × ByteArray × Nat × Option FieldType × Room := (yX2_length, cX2_length, 1, (some .int), { frames := 0, cells := 0, slots := 0, locals := 0 })
abbrev tX2_isOver : MethodName × ByteArray × Nat × Option FieldType × Room := (yX2_isOver, cX2_isOver, 1, (some .boolean), { frames := 1, cells := 0, slots := 0, locals := 20 })
abbrev tX2_left : MethodName × ByteArray × Nat × Option FieldType × Room := (yX2_left, cX2_left, 1, (some .int), { frames := 0, cells := 0, slots := 0, locals := 0 })
abbrev tX2_markGood : MethodName × ByteArray × Nat × Option FieldType × Room := (yX2_markGood, cX2_markGood, 2, none, { frames := 0, cells := 0, slots := 0, locals := 0 })
abbrev tX2_areGood : MethodName × ByteArray × Nat × Option FieldType × Room := (yX2_areGood, cX2_areGood, 6, (some .boolean), { frames := 0, cells := 0, slots := 0, locals := 0 })
abbrev tX2_isReceivedAt : MethodName × ByteArray × Nat × Option FieldType × Room := (yX2_isReceivedAt, cX2_isReceivedAt, 2, (some .boolean), { frames := 1, cells := 0, slots := 0, locals := 25 })
abbrev tX3_init : MethodName × ByteArray × Nat × Option FieldType × Room := (yX3_init, cX3_init, 1, none, { frames := 1, cells := 3, slots := 120, locals := 20 })
abbrev tX3_isFull : MethodName × ByteArray × Nat × Option FieldType × Room := (yX3_isFull, cX3_isFull, 1, (some .boolean), { frames := 0, cells := 0, slots := 0, locals := 0 })
abbrev tX3_add : MethodName × ByteArray × Nat × Option FieldType × Room := (yX3_add, cX3_add, 5, none, { frames := 0, cells := 0, slots := 0, locals := 0 })
abbrev tX3_cover : MethodName × ByteArray × Nat × Option FieldType × Room := (yX3_cover, cX3_cover, 5, (some .boolean), { frames := 0, cells := 0, slots := 0, locals := 0 })
abbrev tX4_init : MethodName × ByteArray × Nat × Option FieldType × Room := (yX4_init, cX4_init, 1, none, { frames := 1, cells := 6, slots := 1276, locals := 20 })
abbrev tX4_pairOf : MethodName × ByteArray × Nat × Option FieldType × Room := (yX4_pairOf, cX4_pairOf, 3, (some .int), { frames := 0, cells := 0, slots := 0, locals := 0 })
abbrev tX4_isFull : MethodName × ByteArray × Nat × Option FieldType × Room := (yX4_isFull, cX4_isFull, 1, (some .boolean), { frames := 0, cells := 0, slots := 0, locals := 0 })
abbrev tX4_add : MethodName × ByteArray × Nat × Option FieldType × Room := (yX4_add, cX4_add, 4, (some .int), { frames := 1, cells := 0, slots := 0, locals := 22 })
abbrev tX4_numberOf : MethodName × ByteArray × Nat × Option FieldType × Room := (yX4_numberOf, cX4_numberOf, 2, (some .int), { frames := 0, cells := 0, slots := 0, locals := 0 })
abbrev tX4_receiverOf : MethodName × ByteArray × Nat × Option FieldType × Room := (yX4_receiverOf, cX4_receiverOf, 2, (some .int), { frames := 1, cells := 0, slots := 0, locals := 21 })
abbrev tX4_dataSlotsOf : MethodName × ByteArray × Nat × Option FieldType × Room := (yX4_dataSlotsOf, cX4_dataSlotsOf, 4, (some .int), { frames := 1, cells := 0, slots := 0, locals := 21 })
abbrev tX4_copyFirstOfOneReceiver : MethodName × ByteArray × Nat × Option FieldType × Room := (yX4_copyFirstOfOneReceiver, cX4_copyFirstOfOneReceiver, 4, none, { frames := 2, cells := 0, slots := 0, locals := 41 })
abbrev tX4_copyGood : MethodName × ByteArray × Nat × Option FieldType × Room := (yX4_copyGood, cX4_copyGood, 7, none, { frames := 2, cells := 0, slots := 0, locals := 41 })
abbrev tX4_wantAtLeast : MethodName × ByteArray × Nat × Option FieldType × Room := (yX4_wantAtLeast, cX4_wantAtLeast, 3, none, { frames := 1, cells := 0, slots := 0, locals := 21 })
abbrev tX4_hold : MethodName × ByteArray × Nat × Option FieldType × Room := (yX4_hold, cX4_hold, 3, none, { frames := 0, cells := 0, slots := 0, locals := 0 })
abbrev tX4_releases : MethodName × ByteArray × Nat × Option FieldType × Room := (yX4_releases, cX4_releases, 3, (some .boolean), { frames := 0, cells := 0, slots := 0, locals := 0 })
abbrev tX5_init : MethodName × ByteArray × Nat × Option FieldType × Room := (yX5_init, cX5_init, 2, none, { frames := 1, cells := 1, slots := 10, locals := 20 })
abbrev tX5_isFull : MethodName × ByteArray × Nat × Option FieldType × Room := (yX5_isFull, cX5_isFull, 1, (some .boolean), { frames := 0, cells := 0, slots := 0, locals := 0 })
abbrev tX5_get : MethodName × ByteArray × Nat × Option FieldType × Room := (yX5_get, cX5_get, 2, (some .int), { frames := 0, cells := 0, slots := 0, locals := 0 })
abbrev tX5_add : MethodName × ByteArray × Nat × Option FieldType × Room := (yX5_add, cX5_add, 2, none, { frames := 1, cells := 0, slots := 0, locals := 20 })
abbrev tX5_copy : MethodName × ByteArray × Nat × Option FieldType × Room := (yX5_copy, cX5_copy, 3, none, { frames := 2, cells := 0, slots := 0, locals := 41 })
abbrev tX5_drop : MethodName × ByteArray × Nat × Option FieldType × Room := (yX5_drop, cX5_drop, 4, none, { frames := 0, cells := 0, slots := 0, locals := 0 })
abbrev tX6_init : MethodName × ByteArray × Nat × Option FieldType × Room := (yX6_init, cX6_init, 3, none, { frames := 3, cells := 13, slots := 77, locals := 62 })
abbrev tX6_isFree : MethodName × ByteArray × Nat × Option FieldType × Room := (yX6_isFree, cX6_isFree, 1, (some .boolean), { frames := 0, cells := 0, slots := 0, locals := 0 })
abbrev tX6_mayAttempt : MethodName × ByteArray × Nat × Option FieldType × Room := (yX6_mayAttempt, cX6_mayAttempt, 3, (some .boolean), { frames := 1, cells := 0, slots := 0, locals := 20 })
abbrev tX6_waitsFor : MethodName × ByteArray × Nat × Option FieldType × Room := (yX6_waitsFor, cX6_waitsFor, 3, (some .boolean), { frames := 0, cells := 0, slots := 0, locals := 0 })
abbrev tX6_startAnew : MethodName × ByteArray × Nat × Option FieldType × Room := (yX6_startAnew, cX6_startAnew, 1, none, { frames := 0, cells := 0, slots := 0, locals := 0 })
abbrev tX6_beginDue : MethodName × ByteArray × Nat × Option FieldType × Room := (yX6_beginDue, cX6_beginDue, 2, none, { frames := 1, cells := 0, slots := 0, locals := 20 })
abbrev tX6_countBegun : MethodName × ByteArray × Nat × Option FieldType × Room := (yX6_countBegun, cX6_countBegun, 1, none, { frames := 0, cells := 0, slots := 0, locals := 0 })
abbrev tX6_endFrame : MethodName × ByteArray × Nat × Option FieldType × Room := (yX6_endFrame, cX6_endFrame, 4, none, { frames := 0, cells := 0, slots := 0, locals := 0 })
abbrev tX6_countIdle : MethodName × ByteArray × Nat × Option FieldType × Room := (yX6_countIdle, cX6_countIdle, 2, none, { frames := 0, cells := 0, slots := 0, locals := 0 })
abbrev tX7_init : MethodName × ByteArray × Nat × Option FieldType × Room := (yX7_init, cX7_init, 4, none, { frames := 4, cells := 104, slots := 4514, locals := 84 })
abbrev tX7_hear : MethodName × ByteArray × Nat × Option FieldType × Room := (yX7_hear, cX7_hear, 6, (some .int), { frames := 1, cells := 0, slots := 0, locals := 21 })
abbrev tX7_coin : MethodName × ByteArray × Nat × Option FieldType × Room := (yX7_coin, cX7_coin, 2, (some .int), { frames := 1, cells := 0, slots := 0, locals := 21 })
abbrev tX7_threshold : MethodName × ByteArray × Nat × Option FieldType × Room := (yX7_threshold, cX7_threshold, 3, (some .int), { frames := 0, cells := 0, slots := 0, locals := 0 })
abbrev tX7_offer : MethodName × ByteArray × Nat × Option FieldType × Room := (yX7_offer, cX7_offer, 6, (some .int), { frames := 2, cells := 0, slots := 0, locals := 45 })
abbrev tX7_noise : MethodName × ByteArray × Nat × Option FieldType × Room := (yX7_noise, cX7_noise, 5, (some .int), { frames := 1, cells := 0, slots := 0, locals := 24 })
abbrev tX7_run : MethodName × ByteArray × Nat × Option FieldType × Room := (yX7_run, cX7_run, 4, (some .int), { frames := 6, cells := 0, slots := 0, locals := 142 })
abbrev tX7_event : MethodName × ByteArray × Nat × Option FieldType × Room := (yX7_event, cX7_event, 3, (some .int), { frames := 2, cells := 0, slots := 0, locals := 41 })
abbrev tX7_state : MethodName × ByteArray × Nat × Option FieldType × Room := (yX7_state, cX7_state, 4, (some .int), { frames := 1, cells := 0, slots := 0, locals := 23 })
abbrev tX7_sent : MethodName × ByteArray × Nat × Option FieldType × Room := (yX7_sent, cX7_sent, 3, (some .int), { frames := 1, cells := 0, slots := 0, locals := 21 })
abbrev tX7_now : MethodName × ByteArray × Nat × Option FieldType × Room := (yX7_now, cX7_now, 1, (some .long), { frames := 0, cells := 0, slots := 0, locals := 0 })
abbrev tX7_isStation : MethodName × ByteArray × Nat × Option FieldType × Room := (yX7_isStation, cX7_isStation, 2, (some .boolean), { frames := 0, cells := 0, slots := 0, locals := 0 })
abbrev tX7_drawCount : MethodName × ByteArray × Nat × Option FieldType × Room := (yX7_drawCount, cX7_drawCount, 2, none, { frames := 1, cells := 0, slots := 0, locals := 22 })
abbrev tX7_beginFrames : MethodName × ByteArray × Nat × Option FieldType × Room := (yX7_beginFrames, cX7_beginFrames, 5, none, { frames := 4, cells := 0, slots := 0, locals := 88 })
abbrev tX7_beginAttempt : MethodName × ByteArray × Nat × Option FieldType × Room := (yX7_beginAttempt, cX7_beginAttempt, 5, none, { frames := 3, cells := 0, slots := 0, locals := 64 })
abbrev tX7_failAttempt : MethodName × ByteArray × Nat × Option FieldType × Room := (yX7_failAttempt, cX7_failAttempt, 3, none, { frames := 2, cells := 0, slots := 0, locals := 43 })
abbrev tX7_markGoodSlots : MethodName × ByteArray × Nat × Option FieldType × Room := (yX7_markGoodSlots, cX7_markGoodSlots, 9, none, { frames := 2, cells := 0, slots := 0, locals := 46 })
abbrev tX7_isGood : MethodName × ByteArray × Nat × Option FieldType × Room := (yX7_isGood, cX7_isGood, 3, (some .boolean), { frames := 1, cells := 0, slots := 0, locals := 24 })
abbrev tX7_endFrames : MethodName × ByteArray × Nat × Option FieldType × Room := (yX7_endFrames, cX7_endFrames, 10, none, { frames := 5, cells := 0, slots := 0, locals := 113 })
abbrev tX7_receive : MethodName × ByteArray × Nat × Option FieldType × Room := (yX7_receive, cX7_receive, 4, none, { frames := 4, cells := 0, slots := 0, locals := 90 })
abbrev tX7_receiveAsk : MethodName × ByteArray × Nat × Option FieldType × Room := (yX7_receiveAsk, cX7_receiveAsk, 4, none, { frames := 2, cells := 0, slots := 0, locals := 47 })
abbrev tX7_receiveAnswer : MethodName × ByteArray × Nat × Option FieldType × Room := (yX7_receiveAnswer, cX7_receiveAnswer, 3, none, { frames := 3, cells := 0, slots := 0, locals := 63 })
abbrev tX7_receiveData : MethodName × ByteArray × Nat × Option FieldType × Room := (yX7_receiveData, cX7_receiveData, 4, none, { frames := 3, cells := 0, slots := 0, locals := 67 })
abbrev tX7_receiveAcknowledge : MethodName × ByteArray × Nat × Option FieldType × Room := (yX7_receiveAcknowledge, cX7_receiveAcknowledge, 6, none, { frames := 3, cells := 0, slots := 0, locals := 65 })
abbrev tX7_takePayloads : MethodName × ByteArray × Nat × Option FieldType × Room := (yX7_takePayloads, cX7_takePayloads, 4, none, { frames := 2, cells := 0, slots := 0, locals := 43 })
abbrev tX7_countIdleSlots : MethodName × ByteArray × Nat × Option FieldType × Room := (yX7_countIdleSlots, cX7_countIdleSlots, 7, none, { frames := 1, cells := 0, slots := 0, locals := 21 })
abbrev tX8_init : MethodName × ByteArray × Nat × Option FieldType × Room := (yX8_init, cX8_init, 3, none, { frames := 1, cells := 43, slots := 4762, locals := 20 })
abbrev tX8_isStation : MethodName × ByteArray × Nat × Option FieldType × Room := (yX8_isStation, cX8_isStation, 2, (some .boolean), { frames := 0, cells := 0, slots := 0, locals := 0 })
abbrev tX8_hears : MethodName × ByteArray × Nat × Option FieldType × Room := (yX8_hears, cX8_hears, 3, (some .boolean), { frames := 0, cells := 0, slots := 0, locals := 0 })
abbrev tX8_hear : MethodName × ByteArray × Nat × Option FieldType × Room := (yX8_hear, cX8_hear, 5, (some .int), { frames := 1, cells := 0, slots := 0, locals := 21 })
abbrev tX8_coin : MethodName × ByteArray × Nat × Option FieldType × Room := (yX8_coin, cX8_coin, 2, (some .int), { frames := 0, cells := 0, slots := 0, locals := 0 })
abbrev tX8_draw : MethodName × ByteArray × Nat × Option FieldType × Room := (yX8_draw, cX8_draw, 3, none, { frames := 0, cells := 0, slots := 0, locals := 0 })
abbrev tX8_threshold : MethodName × ByteArray × Nat × Option FieldType × Room := (yX8_threshold, cX8_threshold, 3, (some .int), { frames := 0, cells := 0, slots := 0, locals := 0 })
abbrev tX8_keeps : MethodName × ByteArray × Nat × Option FieldType × Room := (yX8_keeps, cX8_keeps, 4, (some .int), { frames := 0, cells := 0, slots := 0, locals := 0 })
abbrev tX8_offer : MethodName × ByteArray × Nat × Option FieldType × Room := (yX8_offer, cX8_offer, 5, (some .int), { frames := 1, cells := 0, slots := 0, locals := 23 })
abbrev tX8_noise : MethodName × ByteArray × Nat × Option FieldType × Room := (yX8_noise, cX8_noise, 5, (some .int), { frames := 1, cells := 0, slots := 0, locals := 21 })
abbrev tX8_hasNoise : MethodName × ByteArray × Nat × Option FieldType × Room := (yX8_hasNoise, cX8_hasNoise, 6, (some .boolean), { frames := 0, cells := 0, slots := 0, locals := 0 })
abbrev tX8_tell : MethodName × ByteArray × Nat × Option FieldType × Room := (yX8_tell, cX8_tell, 5, none, { frames := 0, cells := 0, slots := 0, locals := 0 })
abbrev tX8_sends : MethodName × ByteArray × Nat × Option FieldType × Room := (yX8_sends, cX8_sends, 4, (some .boolean), { frames := 0, cells := 0, slots := 0, locals := 0 })
abbrev tX8_fail : MethodName × ByteArray × Nat × Option FieldType × Room := (yX8_fail, cX8_fail, 5, none, { frames := 1, cells := 0, slots := 0, locals := 24 })
abbrev tX8_begin : MethodName × ByteArray × Nat × Option FieldType × Room := (yX8_begin, cX8_begin, 9, none, { frames := 0, cells := 0, slots := 0, locals := 0 })
abbrev tX8_attempt : MethodName × ByteArray × Nat × Option FieldType × Room := (yX8_attempt, cX8_attempt, 8, none, { frames := 1, cells := 0, slots := 0, locals := 28 })
abbrev tX8_stepOne : MethodName × ByteArray × Nat × Option FieldType × Room := (yX8_stepOne, cX8_stepOne, 4, none, { frames := 2, cells := 0, slots := 0, locals := 55 })
abbrev tX8_hearsAny : MethodName × ByteArray × Nat × Option FieldType × Room := (yX8_hearsAny, cX8_hearsAny, 7, (some .boolean), { frames := 1, cells := 0, slots := 0, locals := 23 })
abbrev tX8_stepTwo : MethodName × ByteArray × Nat × Option FieldType × Room := (yX8_stepTwo, cX8_stepTwo, 6, none, { frames := 2, cells := 0, slots := 0, locals := 49 })
abbrev tX8_left : MethodName × ByteArray × Nat × Option FieldType × Room := (yX8_left, cX8_left, 2, (some .int), { frames := 0, cells := 0, slots := 0, locals := 0 })
abbrev tX8_due : MethodName × ByteArray × Nat × Option FieldType × Room := (yX8_due, cX8_due, 8, none, { frames := 0, cells := 0, slots := 0, locals := 0 })
abbrev tX8_handOver : MethodName × ByteArray × Nat × Option FieldType × Room := (yX8_handOver, cX8_handOver, 4, none, { frames := 1, cells := 0, slots := 0, locals := 24 })
abbrev tX8_take : MethodName × ByteArray × Nat × Option FieldType × Room := (yX8_take, cX8_take, 13, (some .int), { frames := 2, cells := 0, slots := 0, locals := 47 })
abbrev tX8_acknowledged : MethodName × ByteArray × Nat × Option FieldType × Room := (yX8_acknowledged, cX8_acknowledged, 6, none, { frames := 2, cells := 0, slots := 0, locals := 48 })
abbrev tX8_receive : MethodName × ByteArray × Nat × Option FieldType × Room := (yX8_receive, cX8_receive, 7, none, { frames := 3, cells := 0, slots := 0, locals := 79 })
abbrev tX8_stepThree : MethodName × ByteArray × Nat × Option FieldType × Room := (yX8_stepThree, cX8_stepThree, 6, none, { frames := 4, cells := 0, slots := 0, locals := 105 })
abbrev tX8_stepFour : MethodName × ByteArray × Nat × Option FieldType × Room := (yX8_stepFour, cX8_stepFour, 5, none, { frames := 2, cells := 0, slots := 0, locals := 49 })
abbrev tX8_run : MethodName × ByteArray × Nat × Option FieldType × Room := (yX8_run, cX8_run, 4, (some .int), { frames := 5, cells := 0, slots := 0, locals := 130 })
abbrev tX8_event : MethodName × ByteArray × Nat × Option FieldType × Room := (yX8_event, cX8_event, 3, (some .int), { frames := 0, cells := 0, slots := 0, locals := 0 })
abbrev tX8_state : MethodName × ByteArray × Nat × Option FieldType × Room := (yX8_state, cX8_state, 3, (some .int), { frames := 1, cells := 0, slots := 0, locals := 23 })
abbrev tX8_sent : MethodName × ByteArray × Nat × Option FieldType × Room := (yX8_sent, cX8_sent, 3, (some .int), { frames := 1, cells := 0, slots := 0, locals := 21 })
abbrev tX8_now : MethodName × ByteArray × Nat × Option FieldType × Room := (yX8_now, cX8_now, 1, (some .long), { frames := 0, cells := 0, slots := 0, locals := 0 })
abbrev tJ9_max_7cf53 : MethodName × ByteArray × Nat × Option FieldType × Room := (yJ9_max_7cf53, cJ9_max_7cf53, 2, (some .int), { frames := 0, cells := 0, slots := 0, locals := 0 })
abbrev tJ9_max_f86c9 : MethodName × ByteArray × Nat × Option FieldType × Room := (yJ9_max_f86c9, cJ9_max_f86c9, 4, (some .long), { frames := 0, cells := 0, slots := 0, locals := 0 })
abbrev tJ9_min_7cf53 : MethodName × ByteArray × Nat × Option FieldType × Room := (yJ9_min_7cf53, cJ9_min_7cf53, 2, (some .int), { frames := 0, cells := 0, slots := 0, locals := 0 })
abbrev tJ7_fill_d0a16 : MethodName × ByteArray × Nat × Option FieldType × Room := (yJ7_fill_d0a16, cJ7_fill_d0a16, 5, none, { frames := 0, cells := 0, slots := 0, locals := 0 })
abbrev tL_cell : MethodName × ByteArray × Nat × Option FieldType × Room := (yL_cell, cL_cell, 2, (some .int), { frames := 0, cells := 0, slots := 0, locals := 0 })
end
section
/-! My worlds: ONE state for all cells that were made since the law began. A cell has a number a (1, 2, ..); its address is B + a; 0 is null. -/
abbrev r_Sh : Type := Nat ⊕ (Nat × Nat)
abbrev r_S : Type := List r_Sh × (Nat → Nat → Int32) × (Nat → Nat → Int64) × (Nat → Nat → Nat)
abbrev r_V : Type := va_G × (Nat → ClassId)
abbrev r_T : Type := MethodName × ByteArray × Nat × Option FieldType × Room
abbrev r_X : Type := Program × Launch × Env × Room × State × MethodId × Array Value × List Frame × Method × Code
def r_at (σ : r_S) (a : Nat) : Option r_Sh := if a = 0 then none else σ.1[a - 1]?
def r_op (B r : Nat) : Option Nat := if r = 0 then none else some (B + r)
def r_fv (B : Nat) (σ : r_S) (ty : FieldType) (a k : Nat) : Value := match ty with
  | .long => .long (σ.2.2.1 a k)
  | .object _ => va_rf (r_op B (σ.2.2.2 a k))
  | .array _ => va_rf (r_op B (σ.2.2.2 a k))
  | _ => .int (σ.2.1 a k)
def r_ar (B : Nat) (σ : r_S) (ty : FieldType) (a n : Nat) : vp_A := (n, match ty with
  | .long => .inr (.inl (σ.2.2.1 a))
  | .object _ => .inr (.inr (.inr (.inr (fun j => r_op B (σ.2.2.2 a j)))))
  | .array _ => .inr (.inr (.inr (.inr (fun j => r_op B (σ.2.2.2 a j)))))
  | _ => .inl (σ.2.1 a))
def r_cell (dA : Nat → ClassId) (B : Nat) (σ : r_S) (a : Nat) (sh : r_Sh) : va_E := match sh with
  | .inl ci => .inr (ci, (List.range (kNf ci)).map (fun k => r_fv B σ (kTf ci k) a k))
  | .inr q => .inl (dA q.1, r_ar B σ (kTa q.1) a q.2)
def r_ws (dA : Nat → ClassId) (B : Nat) (σ : r_S) : va_W := σ.1.mapIdx (fun i sh => (B + (i + 1), r_cell dA B σ (i + 1) sh))
/-! writing one place -/
def r_ui (σ : r_S) (a k : Nat) (x : Int32) : r_S := (σ.1, fun a' k' => if a' = a ∧ k' = k then x else σ.2.1 a' k', σ.2.2)
def r_ul (σ : r_S) (a k : Nat) (x : Int64) : r_S := (σ.1, σ.2.1, fun a' k' => if a' = a ∧ k' = k then x else σ.2.2.1 a' k', σ.2.2.2)
def r_ur (σ : r_S) (a k : Nat) (x : Nat) : r_S := (σ.1, σ.2.1, σ.2.2.1, fun a' k' => if a' = a ∧ k' = k then x else σ.2.2.2 a' k')
def r_zr {α : Type} (z : α) (f : Nat → Nat → α) (a : Nat) : Nat → Nat → α := fun a' k => if a' = a then z else f a' k
def r_push (σ : r_S) (sh : r_Sh) : r_S := (σ.1 ++ [sh], r_zr 0 σ.2.1 (σ.1.length + 1), r_zr 0 σ.2.2.1 (σ.1.length + 1), r_zr 0 σ.2.2.2 (σ.1.length + 1))
theorem r_ws_len {d : Nat → ClassId} {B : Nat} {σ : r_S} : (r_ws d B σ).length = σ.1.length := by simp [r_ws]
theorem r_at_pos {σ : r_S} {a : Nat} {sh : r_Sh} (h : r_at σ a = some sh) : 0 < a ∧ σ.1[a - 1]? = some sh := by
  unfold r_at at h
  by_cases ha : a = 0
  · rw [if_pos ha] at h; cases h
  · rw [if_neg ha] at h; exact ⟨by omega, h⟩
theorem r_ws_at {d : Nat → ClassId} {B : Nat} {σ : r_S} {a : Nat} {sh : r_Sh} (h : r_at σ a = some sh) : (r_ws d B σ)[a - 1]? = some (B + a, r_cell d B σ a sh) := by
  obtain ⟨ha, h⟩ := r_at_pos h
  obtain ⟨i, rfl⟩ : ∃ i, a = i + 1 := ⟨a - 1, by omega⟩
  simp only [Nat.add_sub_cancel] at h ⊢
  simp [r_ws, h]
theorem r_ws_inv {d : Nat → ClassId} {B : Nat} {σ : r_S} {k : Nat} {q : Nat × va_E} (h : (r_ws d B σ)[k]? = some q) : ∃ sh, σ.1[k]? = some sh ∧ q = (B + (k + 1), r_cell d B σ (k + 1) sh) := by
  simp only [r_ws, List.getElem?_mapIdx, Option.map_eq_some_iff] at h
  obtain ⟨sh, h1, h2⟩ := h
  exact ⟨sh, h1, h2.symm⟩
theorem r_ws_D {d : Nat → ClassId} {B : Nat} {σ : r_S} : va_D (fun q => B < q) (r_ws d B σ) := by
  refine ⟨fun i j p q hp hq e => ?_, fun k q hq => ?_⟩
  · obtain ⟨_, _, rfl⟩ := r_ws_inv hp
    obtain ⟨_, _, rfl⟩ := r_ws_inv hq
    simp only at e
    omega
  · obtain ⟨_, _, rfl⟩ := r_ws_inv hq
    show B < B + (k + 1)
    omega
theorem r_cell_congr {d : Nat → ClassId} {B : Nat} {σ σ' : r_S} {a : Nat} {sh : r_Sh} (h1 : σ'.2.1 a = σ.2.1 a) (h2 : σ'.2.2.1 a = σ.2.2.1 a) (h3 : σ'.2.2.2 a = σ.2.2.2 a) : r_cell d B σ' a sh = r_cell d B σ a sh := by
  unfold r_cell
  cases sh <;> simp only [r_fv, r_ar, h1, h2, h3]
theorem r_ws_set {d : Nat → ClassId} {B : Nat} {σ σ' : r_S} {a : Nat} {sh : r_Sh} {e : va_E} (h1 : σ'.1 = σ.1) (hat : r_at σ a = some sh) (he : r_cell d B σ' a sh = e) (ho : ∀ a', a' ≠ a → σ'.2.1 a' = σ.2.1 a' ∧ σ'.2.2.1 a' = σ.2.2.1 a' ∧ σ'.2.2.2 a' = σ.2.2.2 a') : (r_ws d B σ).set (a - 1) (B + a, e) = r_ws d B σ' := by
  obtain ⟨ha, hs⟩ := r_at_pos hat
  obtain ⟨i, rfl⟩ : ∃ i, a = i + 1 := ⟨a - 1, by omega⟩
  simp only [Nat.add_sub_cancel] at hs ⊢
  have hlt : i < σ.1.length := (List.getElem?_eq_some_iff.mp hs).1
  apply List.ext_getElem?
  intro k
  rw [List.getElem?_set]
  by_cases hk : i = k
  · subst hk
    rw [if_pos rfl, if_pos (by rw [r_ws_len]; exact hlt)]
    simp [r_ws, h1, hs, he]
  · rw [if_neg hk]
    simp only [r_ws, h1, List.getElem?_mapIdx]
    cases σ.1[k]? with
    | none => rfl
    | some s2 =>
      obtain ⟨e1, e2, e3⟩ := ho (k + 1) (by omega)
      simp [r_cell_congr (d := d) (B := B) (sh := s2) e1 e2 e3]
theorem r_fs_set {n k : Nat} {f f' : Nat → Value} {v : Value} (h1 : f' k = v) (h2 : ∀ j, j ≠ k → f' j = f j) : ((List.range n).map f).set k v = (List.range n).map f' := by
  apply List.ext_getElem?
  intro j
  rw [List.getElem?_set]
  by_cases hj : k = j
  · subst hj
    rw [if_pos rfl]
    by_cases hn : k < n
    · simp [hn, h1]
    · simp [hn]
  · rw [if_neg hj]
    by_cases hn : j < n
    · simp [hn, h2 j (fun e => hj e.symm)]
    · simp [hn]
def r_isI (ty : FieldType) : Bool := match ty with
  | .long => false
  | .object _ => false
  | .array _ => false
  | _ => true
def r_isR (ty : FieldType) : Bool := match ty with
  | .object _ => true
  | .array _ => true
  | _ => false
theorem r_fv_I {B : Nat} {σ : r_S} {ty : FieldType} {a k : Nat} (h : r_isI ty = true) : r_fv B σ ty a k = .int (σ.2.1 a k) := by
  cases ty <;> first | rfl | cases h
theorem r_fv_R {B : Nat} {σ : r_S} {ty : FieldType} {a k : Nat} (h : r_isR ty = true) : r_fv B σ ty a k = va_rf (r_op B (σ.2.2.2 a k)) := by
  cases ty <;> first | rfl | cases h
theorem r_rf_ne {B r : Nat} (h : r ≠ 0) : va_rf (r_op B r) = .ref (B + r) := by simp [r_op, h, va_rf]
theorem r_rf_0 {B : Nat} : va_rf (r_op B 0) = .null := by simp [r_op, va_rf]
/-! the heap as the state says; a class's facts; a field's access -/
def r_H (w : r_V) (B : Nat) (σ : r_S) (H : Heap) : Prop := H.size = B + 1 + σ.1.length ∧ va_P w.1 kCl (r_ws w.2 B σ) H
def r_Cl (ci : Nat) (cn : String) (T : u_T) (N : Nat) : Prop := kCl[ci]? = some (cn, T, N) ∧ kNf ci = N ∧ (∀ q ∈ u_ws cn T N, q ∈ kBig) ∧ (∀ k, k < N → parseFieldDescriptor (T k).2.2.1 = some (kTf ci k)) ∧ ∀ a, a < N → ∀ b, b < N → a ≠ b → (T a).2.1 ≠ (T b).2.1
def r_Fa (own : String) (index ci k : Nat) (fin : Bool) : Prop := ∃ (cn : String) (T : u_T) (N : Nat) (ref nm ds : String), r_Cl ci cn T N ∧ k < N ∧ T k = (ref, nm, ds, fin) ∧ Cond.fieldLink own index ref nm ds ∈ kBig
def r_N (U : State) : Prop := va_Nw (.methodLinkNest RX7 9 yX0_init RX7) U ∧ va_Nw (.methodLinkNest RX7 18 yX4_init RX7) U ∧ va_Nw (.methodLinkNest RX7 25 yX3_init RX7) U ∧ va_Nw (.methodLinkNest RX7 32 yX1_init RX7) U ∧ va_AO "SlotRadio$Station" U
def r_K (w : r_V) (U : State) : Prop := va_K w.1 kCl (kTys w.2) U ∧ r_N U
theorem r_K.warm {w : r_V} {s U : State} (hW : s.WarmedH U.vm) (h : r_K w s) : r_K w U := ⟨va_K.moved hW.alike h.1, va_Nw.warmM hW h.2.1, va_Nw.warmM hW h.2.2.1, va_Nw.warmM hW h.2.2.2.1, va_Nw.warmM hW h.2.2.2.2.1, va_AO.moved hW.alike h.2.2.2.2.2⟩
theorem r_K.calling {w : r_V} {U : State} {g : JFrame} {mk : MethodId} {a : Array Value} (h : r_K w U) : r_K w (U.calling g mk a) := ⟨va_K.moved (u := U) (U := U.calling g mk a) (Vm.Alike.refl U.vm) h.1, va_Nw.same (u := U) rfl rfl h.2.1, va_Nw.same (u := U) rfl rfl h.2.2.1, va_Nw.same (u := U) rfl rfl h.2.2.2.1, va_Nw.same (u := U) rfl rfl h.2.2.2.2.1, va_AO.moved (u := U) (U := U.calling g mk a) (Vm.Alike.refl U.vm) h.2.2.2.2.2⟩
def r_U (w : r_V) (B : Nat) (σ : r_S) (U : State) : Prop := r_H w B σ U.heap ∧ r_K w U
def r_Qc (w : r_V) (B : Nat) (Q : Option Value → r_S → Prop) : Array Value → State → Outcome → State → Prop := fun _ st oc t => (∃ (r : Option Value) (σ' : r_S), oc = .returned r ∧ Q r σ' ∧ r_U w B σ' t) ∧ va_F (fun q => B < q) st t
def r_M (l : Launch) (w : r_V) (B : Nat) (t : r_T) (as : List Value) (σ : r_S) (Q : Option Value → r_S → Prop) : Prop :=
  Met l t.1 (Cond.code t.1 t.2.1 t.2.2.1 t.2.2.2.1 :: kBig) t.2.2.2.2 (fun a U => a = as.toArray ∧ B < U.heap.size ∧ r_U w B σ U) (r_Qc w B Q) t.2.2.2.2.cells t.2.2.2.2.slots (fun q => B < q)
/-! the context of a walk; the walk -/
def r_C (X : r_X) (w : r_V) (B nL : Nat) (cc : ByteArray) (own : String) : Prop := match X with
  | (p, _, _, _, s, m, args, _, _, c) => CallFix p m c cc nL s args kBig own ∧ r_K w s ∧ B < s.heap.size
def r_W (X : r_X) (w : r_V) (B nL cells slots : Nat) (Q : State → Prop) (pc : Nat) (lv : List (Nat × Value)) (st : List Value) (σ : r_S) : Prop := match X with
  | (p, l, e, R, s, m, args, below, meth, c) => ∀ (H : Heap) (locs : List Loc) (la : Array Slot), r_H w B σ H → va_S (fun q => B < q) s.heap H locs → lv_has la nL lv → W p l e R s m args below meth c H locs cells slots Q (F0 m pc la st)
/-- what a method's frame is, behind its entry -/
def r_E (X : r_X) (l : Launch) (t : r_T) : Prop := match X with
  | (_, l', _, R, _, _, _, _, meth, _) => l' = l ∧ R = t.2.2.2.2 ∧ meth.sig.returnType = t.2.2.2.1 ∧ meth.locks = false ∧ meth.name = t.1.name
def r_Z (X : r_X) (w : r_V) (B : Nat) (t : r_T) (Q : Option Value → r_S → Prop) : State → Prop := match X with
  | (_, _, _, _, s, _, args, below, _, _) => MQ below (r_Qc w B Q) args s t.2.2.2.2.cells t.2.2.2.2.slots (fun q => B < q)
end
section
section RWA
variable {X : r_X} {w : r_V} {B nL cells slots : Nat} {Q : State → Prop} {cc : ByteArray} {own : String} {pc : Nat} {lv : List (Nat × Value)} {rest : List Value} {σ : r_S}
theorem r_iconst (C : r_C X w B nL cc own) {n : Int} {v : Int32} (hdg : decode cc pc = .ok (.iconst n, 1)) (hv : Int32.ofInt n = v) (k : r_W X w B nL cells slots Q (pc + 1) lv (.int v :: rest) σ) : r_W X w B nL cells slots Q pc lv (rest) σ := by
  obtain ⟨p, l, e, R, s, m, args, below, meth, c⟩ := X
  exact fun H locs la g1 g2 g3 => lv_iconst C.1.1 C.1.2.1 hdg hv (k H locs la g1 g2 g3)
theorem r_bipush (C : r_C X w B nL cc own) {n : Int} {v : Int32} (hdg : decode cc pc = .ok (.bipush n, 2)) (hv : (Int8.ofInt n).toInt32 = v) (k : r_W X w B nL cells slots Q (pc + 2) lv (.int v :: rest) σ) : r_W X w B nL cells slots Q pc lv (rest) σ := by
  obtain ⟨p, l, e, R, s, m, args, below, meth, c⟩ := X
  exact fun H locs la g1 g2 g3 => lv_bipush C.1.1 C.1.2.1 hdg hv (k H locs la g1 g2 g3)
theorem r_sipush (C : r_C X w B nL cc own) {n : Int} {v : Int32} (hdg : decode cc pc = .ok (.sipush n, 3)) (hv : (Int16.ofInt n).toInt32 = v) (k : r_W X w B nL cells slots Q (pc + 3) lv (.int v :: rest) σ) : r_W X w B nL cells slots Q pc lv (rest) σ := by
  obtain ⟨p, l, e, R, s, m, args, below, meth, c⟩ := X
  exact fun H locs la g1 g2 g3 => lv_sipush C.1.1 C.1.2.1 hdg hv (k H locs la g1 g2 g3)
theorem r_lconst (C : r_C X w B nL cc own) {n : Fin 2} {v : Int64} (hdg : decode cc pc = .ok (.lconst n, 1)) (hv : Int64.ofNat (n : Nat) = v) (k : r_W X w B nL cells slots Q (pc + 1) lv (.long v :: rest) σ) : r_W X w B nL cells slots Q pc lv (rest) σ := by
  obtain ⟨p, l, e, R, s, m, args, below, meth, c⟩ := X
  exact fun H locs la g1 g2 g3 => lv_lconst C.1.1 C.1.2.1 hdg hv (k H locs la g1 g2 g3)
theorem r_iload_n (C : r_C X w B nL cc own) {k0 : Fin 4} {i : Nat} {x : Int32} (hdg : decode cc pc = .ok (.iload_n k0, 1)) (hi : (k0 : Nat) = i) {j : Nat} (hl : lv[j]? = some (i, .int x)) (k : r_W X w B nL cells slots Q (pc + 1) lv (.int x :: rest) σ) : r_W X w B nL cells slots Q pc lv (rest) σ := by
  obtain ⟨p, l, e, R, s, m, args, below, meth, c⟩ := X
  exact fun H locs la g1 g2 g3 => lv_iload_n C.1.1 C.1.2.1 hdg hi (lv_at g3 j hl) (k H locs la g1 g2 g3)
theorem r_iload (C : r_C X w B nL cc own) {i : Nat} {x : Int32} (hdg : decode cc pc = .ok (.iload i, 2)) {j : Nat} (hl : lv[j]? = some (i, .int x)) (k : r_W X w B nL cells slots Q (pc + 2) lv (.int x :: rest) σ) : r_W X w B nL cells slots Q pc lv (rest) σ := by
  obtain ⟨p, l, e, R, s, m, args, below, meth, c⟩ := X
  exact fun H locs la g1 g2 g3 => lv_iload C.1.1 C.1.2.1 hdg (lv_at g3 j hl) (k H locs la g1 g2 g3)
theorem r_lload_n (C : r_C X w B nL cc own) {k0 : Fin 4} {i : Nat} {x : Int64} (hdg : decode cc pc = .ok (.lload_n k0, 1)) (hi : (k0 : Nat) = i) {j : Nat} (hl : lv[j]? = some (i, .long x)) (k : r_W X w B nL cells slots Q (pc + 1) lv (.long x :: rest) σ) : r_W X w B nL cells slots Q pc lv (rest) σ := by
  obtain ⟨p, l, e, R, s, m, args, below, meth, c⟩ := X
  exact fun H locs la g1 g2 g3 => lv_lload_n C.1.1 C.1.2.1 hdg hi (lv_at g3 j hl) (k H locs la g1 g2 g3)
theorem r_lload (C : r_C X w B nL cc own) {i : Nat} {x : Int64} (hdg : decode cc pc = .ok (.lload i, 2)) {j : Nat} (hl : lv[j]? = some (i, .long x)) (k : r_W X w B nL cells slots Q (pc + 2) lv (.long x :: rest) σ) : r_W X w B nL cells slots Q pc lv (rest) σ := by
  obtain ⟨p, l, e, R, s, m, args, below, meth, c⟩ := X
  exact fun H locs la g1 g2 g3 => lv_lload C.1.1 C.1.2.1 hdg (lv_at g3 j hl) (k H locs la g1 g2 g3)
theorem r_aload_n (C : r_C X w B nL cc own) {k0 : Fin 4} {i : Nat} {x : Nat} (hdg : decode cc pc = .ok (.aload_n k0, 1)) (hi : (k0 : Nat) = i) {j : Nat} (hl : lv[j]? = some (i, .ref x)) (k : r_W X w B nL cells slots Q (pc + 1) lv (.ref x :: rest) σ) : r_W X w B nL cells slots Q pc lv (rest) σ := by
  obtain ⟨p, l, e, R, s, m, args, below, meth, c⟩ := X
  exact fun H locs la g1 g2 g3 => lv_aload_n C.1.1 C.1.2.1 hdg hi (lv_at g3 j hl) (k H locs la g1 g2 g3)
theorem r_aload (C : r_C X w B nL cc own) {i : Nat} {x : Nat} (hdg : decode cc pc = .ok (.aload i, 2)) {j : Nat} (hl : lv[j]? = some (i, .ref x)) (k : r_W X w B nL cells slots Q (pc + 2) lv (.ref x :: rest) σ) : r_W X w B nL cells slots Q pc lv (rest) σ := by
  obtain ⟨p, l, e, R, s, m, args, below, meth, c⟩ := X
  exact fun H locs la g1 g2 g3 => lv_aload C.1.1 C.1.2.1 hdg (lv_at g3 j hl) (k H locs la g1 g2 g3)
theorem r_iadd (C : r_C X w B nL cc own) {x y : Int32} (hdg : decode cc pc = .ok (.iadd, 1)) (k : r_W X w B nL cells slots Q (pc + 1) lv (.int (x + y) :: rest) σ) : r_W X w B nL cells slots Q pc lv (.int y :: .int x :: rest) σ := by
  obtain ⟨p, l, e, R, s, m, args, below, meth, c⟩ := X
  exact fun H locs la g1 g2 g3 => lv_iadd C.1.1 C.1.2.1 hdg (k H locs la g1 g2 g3)
theorem r_isub (C : r_C X w B nL cc own) {x y : Int32} (hdg : decode cc pc = .ok (.isub, 1)) (k : r_W X w B nL cells slots Q (pc + 1) lv (.int (x - y) :: rest) σ) : r_W X w B nL cells slots Q pc lv (.int y :: .int x :: rest) σ := by
  obtain ⟨p, l, e, R, s, m, args, below, meth, c⟩ := X
  exact fun H locs la g1 g2 g3 => lv_isub C.1.1 C.1.2.1 hdg (k H locs la g1 g2 g3)
theorem r_imul (C : r_C X w B nL cc own) {x y : Int32} (hdg : decode cc pc = .ok (.imul, 1)) (k : r_W X w B nL cells slots Q (pc + 1) lv (.int (x * y) :: rest) σ) : r_W X w B nL cells slots Q pc lv (.int y :: .int x :: rest) σ := by
  obtain ⟨p, l, e, R, s, m, args, below, meth, c⟩ := X
  exact fun H locs la g1 g2 g3 => lv_imul C.1.1 C.1.2.1 hdg (k H locs la g1 g2 g3)
theorem r_iand (C : r_C X w B nL cc own) {x y : Int32} (hdg : decode cc pc = .ok (.iand, 1)) (k : r_W X w B nL cells slots Q (pc + 1) lv (.int (x &&& y) :: rest) σ) : r_W X w B nL cells slots Q pc lv (.int y :: .int x :: rest) σ := by
  obtain ⟨p, l, e, R, s, m, args, below, meth, c⟩ := X
  exact fun H locs la g1 g2 g3 => lv_iand C.1.1 C.1.2.1 hdg (k H locs la g1 g2 g3)
theorem r_ior (C : r_C X w B nL cc own) {x y : Int32} (hdg : decode cc pc = .ok (.ior, 1)) (k : r_W X w B nL cells slots Q (pc + 1) lv (.int (x ||| y) :: rest) σ) : r_W X w B nL cells slots Q pc lv (.int y :: .int x :: rest) σ := by
  obtain ⟨p, l, e, R, s, m, args, below, meth, c⟩ := X
  exact fun H locs la g1 g2 g3 => lv_ior C.1.1 C.1.2.1 hdg (k H locs la g1 g2 g3)
theorem r_ixor (C : r_C X w B nL cc own) {x y : Int32} (hdg : decode cc pc = .ok (.ixor, 1)) (k : r_W X w B nL cells slots Q (pc + 1) lv (.int (x ^^^ y) :: rest) σ) : r_W X w B nL cells slots Q pc lv (.int y :: .int x :: rest) σ := by
  obtain ⟨p, l, e, R, s, m, args, below, meth, c⟩ := X
  exact fun H locs la g1 g2 g3 => lv_ixor C.1.1 C.1.2.1 hdg (k H locs la g1 g2 g3)
theorem r_idiv (C : r_C X w B nL cc own) {x y : Int32} (hdg : decode cc pc = .ok (.idiv, 1)) (hne : ¬ y = 0) (k : r_W X w B nL cells slots Q (pc + 1) lv (.int (x / y) :: rest) σ) : r_W X w B nL cells slots Q pc lv (.int y :: .int x :: rest) σ := by
  obtain ⟨p, l, e, R, s, m, args, below, meth, c⟩ := X
  exact fun H locs la g1 g2 g3 => lv_idiv C.1.1 C.1.2.1 hdg hne (k H locs la g1 g2 g3)
theorem r_irem (C : r_C X w B nL cc own) {x y : Int32} (hdg : decode cc pc = .ok (.irem, 1)) (hne : ¬ y = 0) (k : r_W X w B nL cells slots Q (pc + 1) lv (.int (x - x / y * y) :: rest) σ) : r_W X w B nL cells slots Q pc lv (.int y :: .int x :: rest) σ := by
  obtain ⟨p, l, e, R, s, m, args, below, meth, c⟩ := X
  exact fun H locs la g1 g2 g3 => lv_irem C.1.1 C.1.2.1 hdg hne (k H locs la g1 g2 g3)
theorem r_ineg (C : r_C X w B nL cc own) {x : Int32} (hdg : decode cc pc = .ok (.ineg, 1)) (k : r_W X w B nL cells slots Q (pc + 1) lv (.int (-x) :: rest) σ) : r_W X w B nL cells slots Q pc lv (.int x :: rest) σ := by
  obtain ⟨p, l, e, R, s, m, args, below, meth, c⟩ := X
  exact fun H locs la g1 g2 g3 => lv_ineg C.1.1 C.1.2.1 hdg (k H locs la g1 g2 g3)
theorem r_ladd (C : r_C X w B nL cc own) {x y : Int64} (hdg : decode cc pc = .ok (.ladd, 1)) (k : r_W X w B nL cells slots Q (pc + 1) lv (.long (x + y) :: rest) σ) : r_W X w B nL cells slots Q pc lv (.long y :: .long x :: rest) σ := by
  obtain ⟨p, l, e, R, s, m, args, below, meth, c⟩ := X
  exact fun H locs la g1 g2 g3 => lv_ladd C.1.1 C.1.2.1 hdg (k H locs la g1 g2 g3)
theorem r_lsub (C : r_C X w B nL cc own) {x y : Int64} (hdg : decode cc pc = .ok (.lsub, 1)) (k : r_W X w B nL cells slots Q (pc + 1) lv (.long (x - y) :: rest) σ) : r_W X w B nL cells slots Q pc lv (.long y :: .long x :: rest) σ := by
  obtain ⟨p, l, e, R, s, m, args, below, meth, c⟩ := X
  exact fun H locs la g1 g2 g3 => lv_lsub C.1.1 C.1.2.1 hdg (k H locs la g1 g2 g3)
theorem r_lmul (C : r_C X w B nL cc own) {x y : Int64} (hdg : decode cc pc = .ok (.lmul, 1)) (k : r_W X w B nL cells slots Q (pc + 1) lv (.long (x * y) :: rest) σ) : r_W X w B nL cells slots Q pc lv (.long y :: .long x :: rest) σ := by
  obtain ⟨p, l, e, R, s, m, args, below, meth, c⟩ := X
  exact fun H locs la g1 g2 g3 => lv_lmul C.1.1 C.1.2.1 hdg (k H locs la g1 g2 g3)
theorem r_land (C : r_C X w B nL cc own) {x y : Int64} (hdg : decode cc pc = .ok (.land, 1)) (k : r_W X w B nL cells slots Q (pc + 1) lv (.long (x &&& y) :: rest) σ) : r_W X w B nL cells slots Q pc lv (.long y :: .long x :: rest) σ := by
  obtain ⟨p, l, e, R, s, m, args, below, meth, c⟩ := X
  exact fun H locs la g1 g2 g3 => lv_land C.1.1 C.1.2.1 hdg (k H locs la g1 g2 g3)
theorem r_lor (C : r_C X w B nL cc own) {x y : Int64} (hdg : decode cc pc = .ok (.lor, 1)) (k : r_W X w B nL cells slots Q (pc + 1) lv (.long (x ||| y) :: rest) σ) : r_W X w B nL cells slots Q pc lv (.long y :: .long x :: rest) σ := by
  obtain ⟨p, l, e, R, s, m, args, below, meth, c⟩ := X
  exact fun H locs la g1 g2 g3 => lv_lor C.1.1 C.1.2.1 hdg (k H locs la g1 g2 g3)
theorem r_lxor (C : r_C X w B nL cc own) {x y : Int64} (hdg : decode cc pc = .ok (.lxor, 1)) (k : r_W X w B nL cells slots Q (pc + 1) lv (.long (x ^^^ y) :: rest) σ) : r_W X w B nL cells slots Q pc lv (.long y :: .long x :: rest) σ := by
  obtain ⟨p, l, e, R, s, m, args, below, meth, c⟩ := X
  exact fun H locs la g1 g2 g3 => lv_lxor C.1.1 C.1.2.1 hdg (k H locs la g1 g2 g3)
theorem r_ldiv (C : r_C X w B nL cc own) {x y : Int64} (hdg : decode cc pc = .ok (.ldiv, 1)) (hne : ¬ y = 0) (k : r_W X w B nL cells slots Q (pc + 1) lv (.long (x / y) :: rest) σ) : r_W X w B nL cells slots Q pc lv (.long y :: .long x :: rest) σ := by
  obtain ⟨p, l, e, R, s, m, args, below, meth, c⟩ := X
  exact fun H locs la g1 g2 g3 => lv_ldiv C.1.1 C.1.2.1 hdg hne (k H locs la g1 g2 g3)
theorem r_lrem (C : r_C X w B nL cc own) {x y : Int64} (hdg : decode cc pc = .ok (.lrem, 1)) (hne : ¬ y = 0) (k : r_W X w B nL cells slots Q (pc + 1) lv (.long (x - x / y * y) :: rest) σ) : r_W X w B nL cells slots Q pc lv (.long y :: .long x :: rest) σ := by
  obtain ⟨p, l, e, R, s, m, args, below, meth, c⟩ := X
  exact fun H locs la g1 g2 g3 => lv_lrem C.1.1 C.1.2.1 hdg hne (k H locs la g1 g2 g3)
theorem r_lneg (C : r_C X w B nL cc own) {x : Int64} (hdg : decode cc pc = .ok (.lneg, 1)) (k : r_W X w B nL cells slots Q (pc + 1) lv (.long (-x) :: rest) σ) : r_W X w B nL cells slots Q pc lv (.long x :: rest) σ := by
  obtain ⟨p, l, e, R, s, m, args, below, meth, c⟩ := X
  exact fun H locs la g1 g2 g3 => lv_lneg C.1.1 C.1.2.1 hdg (k H locs la g1 g2 g3)
theorem r_ishl (C : r_C X w B nL cc own) {x y : Int32} (hdg : decode cc pc = .ok (.ishl, 1)) (k : r_W X w B nL cells slots Q (pc + 1) lv (.int (x <<< (y &&& 31)) :: rest) σ) : r_W X w B nL cells slots Q pc lv (.int y :: .int x :: rest) σ := by
  obtain ⟨p, l, e, R, s, m, args, below, meth, c⟩ := X
  exact fun H locs la g1 g2 g3 => lv_ishl C.1.1 C.1.2.1 hdg (k H locs la g1 g2 g3)
theorem r_ishr (C : r_C X w B nL cc own) {x y : Int32} (hdg : decode cc pc = .ok (.ishr, 1)) (k : r_W X w B nL cells slots Q (pc + 1) lv (.int (x >>> (y &&& 31)) :: rest) σ) : r_W X w B nL cells slots Q pc lv (.int y :: .int x :: rest) σ := by
  obtain ⟨p, l, e, R, s, m, args, below, meth, c⟩ := X
  exact fun H locs la g1 g2 g3 => lv_ishr C.1.1 C.1.2.1 hdg (k H locs la g1 g2 g3)
theorem r_i2l (C : r_C X w B nL cc own) {x : Int32} {v : Int64} (hdg : decode cc pc = .ok (.i2l, 1)) (hv : x.toInt64 = v) (k : r_W X w B nL cells slots Q (pc + 1) lv (.long v :: rest) σ) : r_W X w B nL cells slots Q pc lv (.int x :: rest) σ := by
  obtain ⟨p, l, e, R, s, m, args, below, meth, c⟩ := X
  exact fun H locs la g1 g2 g3 => lv_i2l C.1.1 C.1.2.1 hdg hv (k H locs la g1 g2 g3)
theorem r_l2i (C : r_C X w B nL cc own) {x : Int64} {v : Int32} (hdg : decode cc pc = .ok (.l2i, 1)) (hv : x.toInt32 = v) (k : r_W X w B nL cells slots Q (pc + 1) lv (.int v :: rest) σ) : r_W X w B nL cells slots Q pc lv (.long x :: rest) σ := by
  obtain ⟨p, l, e, R, s, m, args, below, meth, c⟩ := X
  exact fun H locs la g1 g2 g3 => lv_l2i C.1.1 C.1.2.1 hdg hv (k H locs la g1 g2 g3)
theorem r_i2b (C : r_C X w B nL cc own) {x : Int32} {v : Int32} (hdg : decode cc pc = .ok (.i2b, 1)) (hv : x.toInt8.toInt32 = v) (k : r_W X w B nL cells slots Q (pc + 1) lv (.int v :: rest) σ) : r_W X w B nL cells slots Q pc lv (.int x :: rest) σ := by
  obtain ⟨p, l, e, R, s, m, args, below, meth, c⟩ := X
  exact fun H locs la g1 g2 g3 => lv_i2b C.1.1 C.1.2.1 hdg hv (k H locs la g1 g2 g3)
theorem r_i2s (C : r_C X w B nL cc own) {x : Int32} {v : Int32} (hdg : decode cc pc = .ok (.i2s, 1)) (hv : x.toInt16.toInt32 = v) (k : r_W X w B nL cells slots Q (pc + 1) lv (.int v :: rest) σ) : r_W X w B nL cells slots Q pc lv (.int x :: rest) σ := by
  obtain ⟨p, l, e, R, s, m, args, below, meth, c⟩ := X
  exact fun H locs la g1 g2 g3 => lv_i2s C.1.1 C.1.2.1 hdg hv (k H locs la g1 g2 g3)
theorem r_i2c (C : r_C X w B nL cc own) {x : Int32} {v : Int32} (hdg : decode cc pc = .ok (.i2c, 1)) (hv : (x.toUInt32 % 65536).toInt32 = v) (k : r_W X w B nL cells slots Q (pc + 1) lv (.int v :: rest) σ) : r_W X w B nL cells slots Q pc lv (.int x :: rest) σ := by
  obtain ⟨p, l, e, R, s, m, args, below, meth, c⟩ := X
  exact fun H locs la g1 g2 g3 => lv_i2c C.1.1 C.1.2.1 hdg hv (k H locs la g1 g2 g3)
theorem r_iushr (C : r_C X w B nL cc own) {x y v : Int32} (hdg : decode cc pc = .ok (.iushr, 1)) (hv : (x.toUInt32 >>> (y.toUInt32 &&& Int32.toUInt32 31)).toInt32 = v) (k : r_W X w B nL cells slots Q (pc + 1) lv (.int v :: rest) σ) : r_W X w B nL cells slots Q pc lv (.int y :: .int x :: rest) σ := by
  obtain ⟨p, l, e, R, s, m, args, below, meth, c⟩ := X
  exact fun H locs la g1 g2 g3 => lv_iushr C.1.1 C.1.2.1 hdg hv (k H locs la g1 g2 g3)
theorem r_lushr (C : r_C X w B nL cc own) {x v : Int64} {y : Int32} (hdg : decode cc pc = .ok (.lushr, 1)) (hv : (x.toUInt64 >>> (y.toInt64.toUInt64 &&& Int64.toUInt64 63)).toInt64 = v) (k : r_W X w B nL cells slots Q (pc + 1) lv (.long v :: rest) σ) : r_W X w B nL cells slots Q pc lv (.int y :: .long x :: rest) σ := by
  obtain ⟨p, l, e, R, s, m, args, below, meth, c⟩ := X
  exact fun H locs la g1 g2 g3 => lv_lushr C.1.1 C.1.2.1 hdg hv (k H locs la g1 g2 g3)
theorem r_lshl (C : r_C X w B nL cc own) {x v : Int64} {y : Int32} (hdg : decode cc pc = .ok (.lshl, 1)) (hv : x <<< (y.toInt64 &&& 63) = v) (k : r_W X w B nL cells slots Q (pc + 1) lv (.long v :: rest) σ) : r_W X w B nL cells slots Q pc lv (.int y :: .long x :: rest) σ := by
  obtain ⟨p, l, e, R, s, m, args, below, meth, c⟩ := X
  exact fun H locs la g1 g2 g3 => lv_lshl C.1.1 C.1.2.1 hdg hv (k H locs la g1 g2 g3)
theorem r_lshr (C : r_C X w B nL cc own) {x v : Int64} {y : Int32} (hdg : decode cc pc = .ok (.lshr, 1)) (hv : x >>> (y.toInt64 &&& 63) = v) (k : r_W X w B nL cells slots Q (pc + 1) lv (.long v :: rest) σ) : r_W X w B nL cells slots Q pc lv (.int y :: .long x :: rest) σ := by
  obtain ⟨p, l, e, R, s, m, args, below, meth, c⟩ := X
  exact fun H locs la g1 g2 g3 => lv_lshr C.1.1 C.1.2.1 hdg hv (k H locs la g1 g2 g3)
theorem r_dup (C : r_C X w B nL cc own) {va : Value} (hdg : decode cc pc = .ok (.dup, 1)) (hva : va.category = 1) (k : r_W X w B nL cells slots Q (pc + 1) lv (va :: va :: rest) σ) : r_W X w B nL cells slots Q pc lv (va :: rest) σ := by
  obtain ⟨p, l, e, R, s, m, args, below, meth, c⟩ := X
  exact fun H locs la g1 g2 g3 => lv_dup C.1.1 C.1.2.1 hdg hva (k H locs la g1 g2 g3)
theorem r_pop (C : r_C X w B nL cc own) {va : Value} (hdg : decode cc pc = .ok (.pop, 1)) (hva : va.category = 1) (k : r_W X w B nL cells slots Q (pc + 1) lv (rest) σ) : r_W X w B nL cells slots Q pc lv (va :: rest) σ := by
  obtain ⟨p, l, e, R, s, m, args, below, meth, c⟩ := X
  exact fun H locs la g1 g2 g3 => lv_pop C.1.1 C.1.2.1 hdg hva (k H locs la g1 g2 g3)
theorem r_dup_x1 (C : r_C X w B nL cc own) {va vb : Value} (hdg : decode cc pc = .ok (.dup_x1, 1)) (hva : va.category = 1) (hvb : vb.category = 1) (k : r_W X w B nL cells slots Q (pc + 1) lv (va :: vb :: va :: rest) σ) : r_W X w B nL cells slots Q pc lv (va :: vb :: rest) σ := by
  obtain ⟨p, l, e, R, s, m, args, below, meth, c⟩ := X
  exact fun H locs la g1 g2 g3 => lv_dup_x1 C.1.1 C.1.2.1 hdg hva hvb (k H locs la g1 g2 g3)
theorem r_dup_x2 (C : r_C X w B nL cc own) {va vb vd : Value} (hdg : decode cc pc = .ok (.dup_x2, 1)) (hva : va.category = 1) (hvb : vb.category = 1) (hvd : vd.category = 1) (k : r_W X w B nL cells slots Q (pc + 1) lv (va :: vb :: vd :: va :: rest) σ) : r_W X w B nL cells slots Q pc lv (va :: vb :: vd :: rest) σ := by
  obtain ⟨p, l, e, R, s, m, args, below, meth, c⟩ := X
  exact fun H locs la g1 g2 g3 => lv_dup_x2 C.1.1 C.1.2.1 hdg hva hvb hvd (k H locs la g1 g2 g3)
theorem r_dup2_11 (C : r_C X w B nL cc own) {va vb : Value} (hdg : decode cc pc = .ok (.dup2, 1)) (hva : va.category = 1) (hvb : vb.category = 1) (k : r_W X w B nL cells slots Q (pc + 1) lv (va :: vb :: va :: vb :: rest) σ) : r_W X w B nL cells slots Q pc lv (va :: vb :: rest) σ := by
  obtain ⟨p, l, e, R, s, m, args, below, meth, c⟩ := X
  exact fun H locs la g1 g2 g3 => lv_dup2_11 C.1.1 C.1.2.1 hdg hva hvb (k H locs la g1 g2 g3)
theorem r_dup2_2 (C : r_C X w B nL cc own) {va : Value} (hdg : decode cc pc = .ok (.dup2, 1)) (hva : va.category = 2) (k : r_W X w B nL cells slots Q (pc + 1) lv (va :: va :: rest) σ) : r_W X w B nL cells slots Q pc lv (va :: rest) σ := by
  obtain ⟨p, l, e, R, s, m, args, below, meth, c⟩ := X
  exact fun H locs la g1 g2 g3 => lv_dup2_2 C.1.1 C.1.2.1 hdg hva (k H locs la g1 g2 g3)
theorem r_pop2_2 (C : r_C X w B nL cc own) {va : Value} (hdg : decode cc pc = .ok (.pop2, 1)) (hva : va.category = 2) (k : r_W X w B nL cells slots Q (pc + 1) lv (rest) σ) : r_W X w B nL cells slots Q pc lv (va :: rest) σ := by
  obtain ⟨p, l, e, R, s, m, args, below, meth, c⟩ := X
  exact fun H locs la g1 g2 g3 => lv_pop2_2 C.1.1 C.1.2.1 hdg hva (k H locs la g1 g2 g3)
theorem r_pop2_11 (C : r_C X w B nL cc own) {va vb : Value} (hdg : decode cc pc = .ok (.pop2, 1)) (hva : va.category = 1) (hvb : vb.category = 1) (k : r_W X w B nL cells slots Q (pc + 1) lv (rest) σ) : r_W X w B nL cells slots Q pc lv (va :: vb :: rest) σ := by
  obtain ⟨p, l, e, R, s, m, args, below, meth, c⟩ := X
  exact fun H locs la g1 g2 g3 => lv_pop2_11 C.1.1 C.1.2.1 hdg hva hvb (k H locs la g1 g2 g3)
theorem r_dup2_x1_2 (C : r_C X w B nL cc own) {va vb : Value} (hdg : decode cc pc = .ok (.dup2_x1, 1)) (hva : va.category = 2) (hvb : vb.category = 1) (k : r_W X w B nL cells slots Q (pc + 1) lv (va :: vb :: va :: rest) σ) : r_W X w B nL cells slots Q pc lv (va :: vb :: rest) σ := by
  obtain ⟨p, l, e, R, s, m, args, below, meth, c⟩ := X
  exact fun H locs la g1 g2 g3 => lv_dup2_x1_2 C.1.1 C.1.2.1 hdg hva hvb (k H locs la g1 g2 g3)
theorem r_dup2_x2_2 (C : r_C X w B nL cc own) {va vb vd : Value} (hdg : decode cc pc = .ok (.dup2_x2, 1)) (hva : va.category = 2) (hvb : vb.category = 1) (hvd : vd.category = 1) (k : r_W X w B nL cells slots Q (pc + 1) lv (va :: vb :: vd :: va :: rest) σ) : r_W X w B nL cells slots Q pc lv (va :: vb :: vd :: rest) σ := by
  obtain ⟨p, l, e, R, s, m, args, below, meth, c⟩ := X
  exact fun H locs la g1 g2 g3 => lv_dup2_x2_2 C.1.1 C.1.2.1 hdg hva hvb hvd (k H locs la g1 g2 g3)
theorem r_if_eq (C : r_C X w B nL cc own) {x : Int32} {off : Int} {tgt : Nat} (hdg : decode cc pc = .ok (.ifCond .eq off, 3)) (ht : (pc : Int) + off = (tgt : Int)) (kt : x = 0 → r_W X w B nL cells slots Q tgt lv rest σ) (kf : ¬ x = 0 → r_W X w B nL cells slots Q (pc + 3) lv rest σ) : r_W X w B nL cells slots Q pc lv (.int x :: rest) σ := by
  obtain ⟨p, l, e, R, s, m, args, below, meth, c⟩ := X
  exact fun H locs la g1 g2 g3 => lv_if_eq C.1.1 C.1.2.1 hdg ht (fun q => kt q H locs la g1 g2 g3) (fun q => kf q H locs la g1 g2 g3)
theorem r_icmp_eq (C : r_C X w B nL cc own) {x y : Int32} {off : Int} {tgt : Nat} (hdg : decode cc pc = .ok (.if_icmp .eq off, 3)) (ht : (pc : Int) + off = (tgt : Int)) (kt : x = y → r_W X w B nL cells slots Q tgt lv rest σ) (kf : ¬ x = y → r_W X w B nL cells slots Q (pc + 3) lv rest σ) : r_W X w B nL cells slots Q pc lv (.int y :: .int x :: rest) σ := by
  obtain ⟨p, l, e, R, s, m, args, below, meth, c⟩ := X
  exact fun H locs la g1 g2 g3 => lv_icmp_eq C.1.1 C.1.2.1 hdg ht (fun q => kt q H locs la g1 g2 g3) (fun q => kf q H locs la g1 g2 g3)
theorem r_if_ne (C : r_C X w B nL cc own) {x : Int32} {off : Int} {tgt : Nat} (hdg : decode cc pc = .ok (.ifCond .ne off, 3)) (ht : (pc : Int) + off = (tgt : Int)) (kt : ¬ x = 0 → r_W X w B nL cells slots Q tgt lv rest σ) (kf : x = 0 → r_W X w B nL cells slots Q (pc + 3) lv rest σ) : r_W X w B nL cells slots Q pc lv (.int x :: rest) σ := by
  obtain ⟨p, l, e, R, s, m, args, below, meth, c⟩ := X
  exact fun H locs la g1 g2 g3 => lv_if_ne C.1.1 C.1.2.1 hdg ht (fun q => kt q H locs la g1 g2 g3) (fun q => kf q H locs la g1 g2 g3)
theorem r_icmp_ne (C : r_C X w B nL cc own) {x y : Int32} {off : Int} {tgt : Nat} (hdg : decode cc pc = .ok (.if_icmp .ne off, 3)) (ht : (pc : Int) + off = (tgt : Int)) (kt : ¬ x = y → r_W X w B nL cells slots Q tgt lv rest σ) (kf : x = y → r_W X w B nL cells slots Q (pc + 3) lv rest σ) : r_W X w B nL cells slots Q pc lv (.int y :: .int x :: rest) σ := by
  obtain ⟨p, l, e, R, s, m, args, below, meth, c⟩ := X
  exact fun H locs la g1 g2 g3 => lv_icmp_ne C.1.1 C.1.2.1 hdg ht (fun q => kt q H locs la g1 g2 g3) (fun q => kf q H locs la g1 g2 g3)
theorem r_if_lt (C : r_C X w B nL cc own) {x : Int32} {off : Int} {tgt : Nat} (hdg : decode cc pc = .ok (.ifCond .lt off, 3)) (ht : (pc : Int) + off = (tgt : Int)) (kt : x < 0 → r_W X w B nL cells slots Q tgt lv rest σ) (kf : ¬ x < 0 → r_W X w B nL cells slots Q (pc + 3) lv rest σ) : r_W X w B nL cells slots Q pc lv (.int x :: rest) σ := by
  obtain ⟨p, l, e, R, s, m, args, below, meth, c⟩ := X
  exact fun H locs la g1 g2 g3 => lv_if_lt C.1.1 C.1.2.1 hdg ht (fun q => kt q H locs la g1 g2 g3) (fun q => kf q H locs la g1 g2 g3)
theorem r_icmp_lt (C : r_C X w B nL cc own) {x y : Int32} {off : Int} {tgt : Nat} (hdg : decode cc pc = .ok (.if_icmp .lt off, 3)) (ht : (pc : Int) + off = (tgt : Int)) (kt : x < y → r_W X w B nL cells slots Q tgt lv rest σ) (kf : ¬ x < y → r_W X w B nL cells slots Q (pc + 3) lv rest σ) : r_W X w B nL cells slots Q pc lv (.int y :: .int x :: rest) σ := by
  obtain ⟨p, l, e, R, s, m, args, below, meth, c⟩ := X
  exact fun H locs la g1 g2 g3 => lv_icmp_lt C.1.1 C.1.2.1 hdg ht (fun q => kt q H locs la g1 g2 g3) (fun q => kf q H locs la g1 g2 g3)
theorem r_if_ge (C : r_C X w B nL cc own) {x : Int32} {off : Int} {tgt : Nat} (hdg : decode cc pc = .ok (.ifCond .ge off, 3)) (ht : (pc : Int) + off = (tgt : Int)) (kt : 0 ≤ x → r_W X w B nL cells slots Q tgt lv rest σ) (kf : ¬ 0 ≤ x → r_W X w B nL cells slots Q (pc + 3) lv rest σ) : r_W X w B nL cells slots Q pc lv (.int x :: rest) σ := by
  obtain ⟨p, l, e, R, s, m, args, below, meth, c⟩ := X
  exact fun H locs la g1 g2 g3 => lv_if_ge C.1.1 C.1.2.1 hdg ht (fun q => kt q H locs la g1 g2 g3) (fun q => kf q H locs la g1 g2 g3)
theorem r_icmp_ge (C : r_C X w B nL cc own) {x y : Int32} {off : Int} {tgt : Nat} (hdg : decode cc pc = .ok (.if_icmp .ge off, 3)) (ht : (pc : Int) + off = (tgt : Int)) (kt : y ≤ x → r_W X w B nL cells slots Q tgt lv rest σ) (kf : ¬ y ≤ x → r_W X w B nL cells slots Q (pc + 3) lv rest σ) : r_W X w B nL cells slots Q pc lv (.int y :: .int x :: rest) σ := by
  obtain ⟨p, l, e, R, s, m, args, below, meth, c⟩ := X
  exact fun H locs la g1 g2 g3 => lv_icmp_ge C.1.1 C.1.2.1 hdg ht (fun q => kt q H locs la g1 g2 g3) (fun q => kf q H locs la g1 g2 g3)
theorem r_if_gt (C : r_C X w B nL cc own) {x : Int32} {off : Int} {tgt : Nat} (hdg : decode cc pc = .ok (.ifCond .gt off, 3)) (ht : (pc : Int) + off = (tgt : Int)) (kt : 0 < x → r_W X w B nL cells slots Q tgt lv rest σ) (kf : ¬ 0 < x → r_W X w B nL cells slots Q (pc + 3) lv rest σ) : r_W X w B nL cells slots Q pc lv (.int x :: rest) σ := by
  obtain ⟨p, l, e, R, s, m, args, below, meth, c⟩ := X
  exact fun H locs la g1 g2 g3 => lv_if_gt C.1.1 C.1.2.1 hdg ht (fun q => kt q H locs la g1 g2 g3) (fun q => kf q H locs la g1 g2 g3)
theorem r_icmp_gt (C : r_C X w B nL cc own) {x y : Int32} {off : Int} {tgt : Nat} (hdg : decode cc pc = .ok (.if_icmp .gt off, 3)) (ht : (pc : Int) + off = (tgt : Int)) (kt : y < x → r_W X w B nL cells slots Q tgt lv rest σ) (kf : ¬ y < x → r_W X w B nL cells slots Q (pc + 3) lv rest σ) : r_W X w B nL cells slots Q pc lv (.int y :: .int x :: rest) σ := by
  obtain ⟨p, l, e, R, s, m, args, below, meth, c⟩ := X
  exact fun H locs la g1 g2 g3 => lv_icmp_gt C.1.1 C.1.2.1 hdg ht (fun q => kt q H locs la g1 g2 g3) (fun q => kf q H locs la g1 g2 g3)
theorem r_if_le (C : r_C X w B nL cc own) {x : Int32} {off : Int} {tgt : Nat} (hdg : decode cc pc = .ok (.ifCond .le off, 3)) (ht : (pc : Int) + off = (tgt : Int)) (kt : x ≤ 0 → r_W X w B nL cells slots Q tgt lv rest σ) (kf : ¬ x ≤ 0 → r_W X w B nL cells slots Q (pc + 3) lv rest σ) : r_W X w B nL cells slots Q pc lv (.int x :: rest) σ := by
  obtain ⟨p, l, e, R, s, m, args, below, meth, c⟩ := X
  exact fun H locs la g1 g2 g3 => lv_if_le C.1.1 C.1.2.1 hdg ht (fun q => kt q H locs la g1 g2 g3) (fun q => kf q H locs la g1 g2 g3)
theorem r_icmp_le (C : r_C X w B nL cc own) {x y : Int32} {off : Int} {tgt : Nat} (hdg : decode cc pc = .ok (.if_icmp .le off, 3)) (ht : (pc : Int) + off = (tgt : Int)) (kt : x ≤ y → r_W X w B nL cells slots Q tgt lv rest σ) (kf : ¬ x ≤ y → r_W X w B nL cells slots Q (pc + 3) lv rest σ) : r_W X w B nL cells slots Q pc lv (.int y :: .int x :: rest) σ := by
  obtain ⟨p, l, e, R, s, m, args, below, meth, c⟩ := X
  exact fun H locs la g1 g2 g3 => lv_icmp_le C.1.1 C.1.2.1 hdg ht (fun q => kt q H locs la g1 g2 g3) (fun q => kf q H locs la g1 g2 g3)
theorem r_goto (C : r_C X w B nL cc own) {off : Int} {tgt : Nat} (hdg : decode cc pc = .ok (.goto off, 3)) (ht : (pc : Int) + off = (tgt : Int)) (k : r_W X w B nL cells slots Q tgt lv rest σ) : r_W X w B nL cells slots Q pc lv rest σ := by
  obtain ⟨p, l, e, R, s, m, args, below, meth, c⟩ := X
  exact fun H locs la g1 g2 g3 => lv_goto C.1.1 C.1.2.1 hdg ht (k H locs la g1 g2 g3)
theorem r_tableOut (C : r_C X w B nL cc own) {dflt lo hi : Int} {offs : Array Int} {len : Nat} {x : Int32} {tgt : Nat} (hdg : decode cc pc = .ok (.tableswitch dflt lo hi offs, len)) (h : x.toInt < lo ∨ hi < x.toInt) (ht : (pc : Int) + dflt = (tgt : Int)) (k : r_W X w B nL cells slots Q tgt lv rest σ) : r_W X w B nL cells slots Q pc lv (.int x :: rest) σ := by
  obtain ⟨p, l, e, R, s, m, args, below, meth, c⟩ := X
  exact fun H locs la g1 g2 g3 => lv_tableOut C.1.1 C.1.2.1 hdg h ht (k H locs la g1 g2 g3)
theorem r_tableIn (C : r_C X w B nL cc own) {dflt lo hi : Int} {offs : Array Int} {len : Nat} {x : Int32} {off : Int} {tgt : Nat} (hdg : decode cc pc = .ok (.tableswitch dflt lo hi offs, len)) (h1 : ¬ x.toInt < lo) (h2 : ¬ hi < x.toInt) (ho : offs[(x.toInt - lo).toNat]? = some off) (ht : (pc : Int) + off = (tgt : Int)) (k : r_W X w B nL cells slots Q tgt lv rest σ) : r_W X w B nL cells slots Q pc lv (.int x :: rest) σ := by
  obtain ⟨p, l, e, R, s, m, args, below, meth, c⟩ := X
  exact fun H locs la g1 g2 g3 => lv_tableIn C.1.1 C.1.2.1 hdg h1 h2 ho ht (k H locs la g1 g2 g3)
theorem r_lookup (C : r_C X w B nL cc own) {dflt : Int} {ps : Array (Int × Int)} {len : Nat} {x : Int32} {off : Int} {tgt : Nat} (hdg : decode cc pc = .ok (.lookupswitch dflt ps, len)) (hp : (ps.toList.zip (ps.toList.drop 1)).all (fun (a, next) => a.1 < next.1) = true) (ho : Op.lookupswitch.offset ps.toList dflt x.toInt = off) (ht : (pc : Int) + off = (tgt : Int)) (k : r_W X w B nL cells slots Q tgt lv rest σ) : r_W X w B nL cells slots Q pc lv (.int x :: rest) σ := by
  obtain ⟨p, l, e, R, s, m, args, below, meth, c⟩ := X
  exact fun H locs la g1 g2 g3 => lv_lookup C.1.1 C.1.2.1 hdg hp ho ht (k H locs la g1 g2 g3)
theorem r_ifnull (C : r_C X w B nL cc own) {x : Nat} {off : Int} (hdg : decode cc pc = .ok (.ifnull off, 3)) (k : r_W X w B nL cells slots Q (pc + 3) lv rest σ) : r_W X w B nL cells slots Q pc lv (.ref x :: rest) σ := by
  obtain ⟨p, l, e, R, s, m, args, below, meth, c⟩ := X
  exact fun H locs la g1 g2 g3 => lv_ifnull C.1.1 C.1.2.1 hdg (k H locs la g1 g2 g3)
theorem r_ifnonnull (C : r_C X w B nL cc own) {x : Nat} {off : Int} {tgt : Nat} (hdg : decode cc pc = .ok (.ifnonnull off, 3)) (ht : (pc : Int) + off = (tgt : Int)) (k : r_W X w B nL cells slots Q tgt lv rest σ) : r_W X w B nL cells slots Q pc lv (.ref x :: rest) σ := by
  obtain ⟨p, l, e, R, s, m, args, below, meth, c⟩ := X
  exact fun H locs la g1 g2 g3 => lv_ifnonnull C.1.1 C.1.2.1 hdg ht (k H locs la g1 g2 g3)
theorem r_null (C : r_C X w B nL cc own) (hdg : decode cc pc = .ok (.aconst_null, 1)) (k : r_W X w B nL cells slots Q (pc + 1) lv (.null :: rest) σ) : r_W X w B nL cells slots Q pc lv rest σ := by
  obtain ⟨p, l, e, R, s, m, args, below, meth, c⟩ := X
  exact fun H locs la g1 g2 g3 => lv_null C.1.1 C.1.2.1 hdg (k H locs la g1 g2 g3)
theorem r_ifnullN (C : r_C X w B nL cc own) {off : Int} {tgt : Nat} (hdg : decode cc pc = .ok (.ifnull off, 3)) (ht : (pc : Int) + off = (tgt : Int)) (k : r_W X w B nL cells slots Q tgt lv rest σ) : r_W X w B nL cells slots Q pc lv (.null :: rest) σ := by
  obtain ⟨p, l, e, R, s, m, args, below, meth, c⟩ := X
  exact fun H locs la g1 g2 g3 => lv_ifnullN C.1.1 C.1.2.1 hdg ht (k H locs la g1 g2 g3)
theorem r_ifnonnullN (C : r_C X w B nL cc own) {off : Int} (hdg : decode cc pc = .ok (.ifnonnull off, 3)) (k : r_W X w B nL cells slots Q (pc + 3) lv rest σ) : r_W X w B nL cells slots Q pc lv (.null :: rest) σ := by
  obtain ⟨p, l, e, R, s, m, args, below, meth, c⟩ := X
  exact fun H locs la g1 g2 g3 => lv_ifnonnullN C.1.1 C.1.2.1 hdg (k H locs la g1 g2 g3)
theorem r_aload_nN (C : r_C X w B nL cc own) {k0 : Fin 4} {i : Nat} (hdg : decode cc pc = .ok (.aload_n k0, 1)) (hi : (k0 : Nat) = i) {j : Nat} (hl : lv[j]? = some (i, .null)) (k : r_W X w B nL cells slots Q (pc + 1) lv (.null :: rest) σ) : r_W X w B nL cells slots Q pc lv (rest) σ := by
  obtain ⟨p, l, e, R, s, m, args, below, meth, c⟩ := X
  exact fun H locs la g1 g2 g3 => lv_aload_nN C.1.1 C.1.2.1 hdg hi (lv_at g3 j hl) (k H locs la g1 g2 g3)
theorem r_aloadN (C : r_C X w B nL cc own) {i : Nat} (hdg : decode cc pc = .ok (.aload i, 2)) {j : Nat} (hl : lv[j]? = some (i, .null)) (k : r_W X w B nL cells slots Q (pc + 2) lv (.null :: rest) σ) : r_W X w B nL cells slots Q pc lv (rest) σ := by
  obtain ⟨p, l, e, R, s, m, args, below, meth, c⟩ := X
  exact fun H locs la g1 g2 g3 => lv_aloadN C.1.1 C.1.2.1 hdg (lv_at g3 j hl) (k H locs la g1 g2 g3)
theorem r_istore_n (C : r_C X w B nL cc own) {k : Fin 4} {i : Nat} {x : Int32} {lv' : List (Nat × Value)} (hdg : decode cc pc = .ok (.istore_n k, 1)) (hi : (k : Nat) = i) (hn : i < nL) (hl : (i, Value.int x) :: lv.filter (fun q => !(q.1 == i) && !(q.1 + 1 == i && q.2.category == 2)) = lv') (kk : r_W X w B nL cells slots Q (pc + 1) lv' rest σ) : r_W X w B nL cells slots Q pc lv (.int x :: rest) σ := by
  obtain ⟨p, l, e, R, s, m, args, below, meth, c⟩ := X
  exact fun H locs la g1 g2 g3 => lv_istore_n C.1.1 C.1.2.1 hdg hi g3 hn hl (fun la' h' => kk H locs la' g1 g2 h')
theorem r_istore (C : r_C X w B nL cc own) {i : Nat} {x : Int32} {lv' : List (Nat × Value)} (hdg : decode cc pc = .ok (.istore i, 2)) (hn : i < nL) (hl : (i, Value.int x) :: lv.filter (fun q => !(q.1 == i) && !(q.1 + 1 == i && q.2.category == 2)) = lv') (kk : r_W X w B nL cells slots Q (pc + 2) lv' rest σ) : r_W X w B nL cells slots Q pc lv (.int x :: rest) σ := by
  obtain ⟨p, l, e, R, s, m, args, below, meth, c⟩ := X
  exact fun H locs la g1 g2 g3 => lv_istore C.1.1 C.1.2.1 hdg g3 hn hl (fun la' h' => kk H locs la' g1 g2 h')
theorem r_lstore_n (C : r_C X w B nL cc own) {k : Fin 4} {i : Nat} {x : Int64} {lv' : List (Nat × Value)} (hdg : decode cc pc = .ok (.lstore_n k, 1)) (hi : (k : Nat) = i) (hn : i + 1 < nL) (hl : (i, Value.long x) :: lv.filter (fun q => !(q.1 == i) && (!(q.1 == i + 1) && !(q.1 + 1 == i && q.2.category == 2))) = lv') (kk : r_W X w B nL cells slots Q (pc + 1) lv' rest σ) : r_W X w B nL cells slots Q pc lv (.long x :: rest) σ := by
  obtain ⟨p, l, e, R, s, m, args, below, meth, c⟩ := X
  exact fun H locs la g1 g2 g3 => lv_lstore_n C.1.1 C.1.2.1 hdg hi g3 hn hl (fun la' h' => kk H locs la' g1 g2 h')
theorem r_lstore (C : r_C X w B nL cc own) {i : Nat} {x : Int64} {lv' : List (Nat × Value)} (hdg : decode cc pc = .ok (.lstore i, 2)) (hn : i + 1 < nL) (hl : (i, Value.long x) :: lv.filter (fun q => !(q.1 == i) && (!(q.1 == i + 1) && !(q.1 + 1 == i && q.2.category == 2))) = lv') (kk : r_W X w B nL cells slots Q (pc + 2) lv' rest σ) : r_W X w B nL cells slots Q pc lv (.long x :: rest) σ := by
  obtain ⟨p, l, e, R, s, m, args, below, meth, c⟩ := X
  exact fun H locs la g1 g2 g3 => lv_lstore C.1.1 C.1.2.1 hdg g3 hn hl (fun la' h' => kk H locs la' g1 g2 h')
theorem r_astore_n (C : r_C X w B nL cc own) {k : Fin 4} {i : Nat} {x : Nat} {lv' : List (Nat × Value)} (hdg : decode cc pc = .ok (.astore_n k, 1)) (hi : (k : Nat) = i) (hn : i < nL) (hl : (i, Value.ref x) :: lv.filter (fun q => !(q.1 == i) && !(q.1 + 1 == i && q.2.category == 2)) = lv') (kk : r_W X w B nL cells slots Q (pc + 1) lv' rest σ) : r_W X w B nL cells slots Q pc lv (.ref x :: rest) σ := by
  obtain ⟨p, l, e, R, s, m, args, below, meth, c⟩ := X
  exact fun H locs la g1 g2 g3 => lv_astore_n C.1.1 C.1.2.1 hdg hi g3 hn hl (fun la' h' => kk H locs la' g1 g2 h')
theorem r_astore (C : r_C X w B nL cc own) {i : Nat} {x : Nat} {lv' : List (Nat × Value)} (hdg : decode cc pc = .ok (.astore i, 2)) (hn : i < nL) (hl : (i, Value.ref x) :: lv.filter (fun q => !(q.1 == i) && !(q.1 + 1 == i && q.2.category == 2)) = lv') (kk : r_W X w B nL cells slots Q (pc + 2) lv' rest σ) : r_W X w B nL cells slots Q pc lv (.ref x :: rest) σ := by
  obtain ⟨p, l, e, R, s, m, args, below, meth, c⟩ := X
  exact fun H locs la g1 g2 g3 => lv_astore C.1.1 C.1.2.1 hdg g3 hn hl (fun la' h' => kk H locs la' g1 g2 h')
theorem r_iinc (C : r_C X w B nL cc own) {i k : Nat} {n : Int} {x v : Int32} {lv' : List (Nat × Value)} (hdg : decode cc pc = .ok (.iinc i n, 3)) (hk : lv[k]? = some (i, .int x)) (hv : x + Int32.ofInt n = v) (hn : i < nL) (hl : (i, Value.int v) :: lv.filter (fun q => !(q.1 == i) && !(q.1 + 1 == i && q.2.category == 2)) = lv') (kk : r_W X w B nL cells slots Q (pc + 3) lv' rest σ) : r_W X w B nL cells slots Q pc lv rest σ := by
  obtain ⟨p, l, e, R, s, m, args, below, meth, c⟩ := X
  exact fun H locs la g1 g2 g3 => lv_iinc C.1.1 C.1.2.1 hdg g3 hk hv hn hl (fun la' h' => kk H locs la' g1 g2 h')
theorem r_iincW (C : r_C X w B nL cc own) {i k : Nat} {n : Int} {x v : Int32} {lv' : List (Nat × Value)} (hdg : decode cc pc = .ok (.iinc i n, 6)) (hk : lv[k]? = some (i, .int x)) (hv : x + Int32.ofInt n = v) (hn : i < nL) (hl : (i, Value.int v) :: lv.filter (fun q => !(q.1 == i) && !(q.1 + 1 == i && q.2.category == 2)) = lv') (kk : r_W X w B nL cells slots Q (pc + 6) lv' rest σ) : r_W X w B nL cells slots Q pc lv rest σ := by
  obtain ⟨p, l, e, R, s, m, args, below, meth, c⟩ := X
  exact fun H locs la g1 g2 g3 => lv_iincW C.1.1 C.1.2.1 hdg g3 hk hv hn hl (fun la' h' => kk H locs la' g1 g2 h')
theorem r_astore_nN (C : r_C X w B nL cc own) {k : Fin 4} {i : Nat} {lv' : List (Nat × Value)} (hdg : decode cc pc = .ok (.astore_n k, 1)) (hi : (k : Nat) = i) (hn : i < nL) (hl : (i, Value.null) :: lv.filter (fun q => !(q.1 == i) && !(q.1 + 1 == i && q.2.category == 2)) = lv') (kk : r_W X w B nL cells slots Q (pc + 1) lv' rest σ) : r_W X w B nL cells slots Q pc lv (.null :: rest) σ := by
  obtain ⟨p, l, e, R, s, m, args, below, meth, c⟩ := X
  exact fun H locs la g1 g2 g3 => lv_astore_nN C.1.1 C.1.2.1 hdg hi g3 hn hl (fun la' h' => kk H locs la' g1 g2 h')
theorem r_astoreN (C : r_C X w B nL cc own) {i : Nat} {lv' : List (Nat × Value)} (hdg : decode cc pc = .ok (.astore i, 2)) (hn : i < nL) (hl : (i, Value.null) :: lv.filter (fun q => !(q.1 == i) && !(q.1 + 1 == i && q.2.category == 2)) = lv') (kk : r_W X w B nL cells slots Q (pc + 2) lv' rest σ) : r_W X w B nL cells slots Q pc lv (.null :: rest) σ := by
  obtain ⟨p, l, e, R, s, m, args, below, meth, c⟩ := X
  exact fun H locs la g1 g2 g3 => lv_astoreN C.1.1 C.1.2.1 hdg g3 hn hl (fun la' h' => kk H locs la' g1 g2 h')
end RWA
end
section
section RWB
variable {X : r_X} {w : r_V} {B nL cells slots : Nat} {Q : State → Prop} {cc : ByteArray} {own : String} {pc : Nat} {lv : List (Nat × Value)} {rest : List Value} {σ : r_S}
theorem r_lcmp (C : r_C X w B nL cc own) {x y : Int64} (hdg : decode cc pc = .ok (.lcmp, 1)) (k : r_W X w B nL cells slots Q (pc + 1) lv (.int (lg_cmp x y) :: rest) σ) : r_W X w B nL cells slots Q pc lv (.long y :: .long x :: rest) σ := by
  obtain ⟨p, l, e, R, s, m, args, below, meth, c⟩ := X
  exact fun H locs la g1 g2 g3 => W.lcmp C.1.1 C.1.2.1 hdg (k H locs la g1 g2 g3)
theorem r_ldc (C : r_C X w B nL cc own) {index : Nat} {v : Int32} (hq : Cond.constant own index v ∈ kBig) (hdg : decode cc pc = .ok (.ldc index, 2)) (k : r_W X w B nL cells slots Q (pc + 2) lv (.int v :: rest) σ) : r_W X w B nL cells slots Q pc lv rest σ := by
  obtain ⟨p, l, e, R, s, m, args, below, meth, c⟩ := X
  exact fun H locs la g1 g2 g3 => lv_ldc C.1.1 C.1.2.1 C.1.2.2.2.1 (C.1.2.2.2.2 _ hq) hdg (k H locs la g1 g2 g3)
theorem r_ldc2 (C : r_C X w B nL cc own) {index : Nat} {v : Int64} (hq : Cond.constantLong own index v ∈ kBig) (hdg : decode cc pc = .ok (.ldc2_w index, 3)) (k : r_W X w B nL cells slots Q (pc + 3) lv (.long v :: rest) σ) : r_W X w B nL cells slots Q pc lv rest σ := by
  obtain ⟨p, l, e, R, s, m, args, below, meth, c⟩ := X
  exact fun H locs la g1 g2 g3 => lv_ldc2 C.1.1 C.1.2.1 C.1.2.2.2.1 (C.1.2.2.2.2 _ hq) hdg (k H locs la g1 g2 g3)
/-- fewer locals, in another order -/
theorem r_loc {lv' : List (Nat × Value)} (h : ∀ q ∈ lv', q ∈ lv) {st : List Value} (k : r_W X w B nL cells slots Q pc lv' st σ) : r_W X w B nL cells slots Q pc lv st σ := by
  obtain ⟨p, l, e, R, s, m, args, below, meth, c⟩ := X
  exact fun H locs la g1 g2 g3 => k H locs la g1 g2 ⟨g3.1, g3.2.1, fun q hq => g3.2.2 q (h q hq)⟩
theorem r_wid {c2 s2 : Nat} (h1 : cells ≤ c2) (h2 : slots ≤ s2) {st : List Value} (k : r_W X w B nL c2 s2 Q pc lv st σ) : r_W X w B nL cells slots Q pc lv st σ := by
  obtain ⟨p, l, e, R, s, m, args, below, meth, c⟩ := X
  exact fun H locs la g1 g2 g3 => W.widen h1 h2 (k H locs la g1 g2 g3)
theorem r_get (C : r_C X w B nL cc own) {a ci k index : Nat} {fin : Bool} {v : Value} (hat : r_at σ a = some (.inl ci)) (F : r_Fa own index ci k fin) (hv : r_fv B σ (kTf ci k) a k = v) (hdg : decode cc pc = .ok (.getfield index, 3)) (kk : r_W X w B nL cells slots Q (pc + 3) lv (v :: rest) σ) : r_W X w B nL cells slots Q pc lv (.ref (B + a) :: rest) σ := by
  obtain ⟨p, l, e, R, s, m, args, below, meth, c⟩ := X
  obtain ⟨⟨hx, hb, hml, hown, hts⟩, ⟨hK, hNw⟩, hB⟩ := C
  obtain ⟨cn, T, N, ref, nm, ds, ⟨hc, hN, hin, hty, hnm⟩, hk, hT, hl⟩ := F
  intro H locs la g1 g2 g3
  refine va_get (D := w.1) (cl := kCl) (ci := ci) (C := cn) (T := T) (N := N) hx hb hts hin hown hK g1.2 (a - 1) (r_ws_at hat) hc k hk (ref := ref) (index := index) ?_ ?_ (v := v) ?_ hdg (kk H locs la g1 g2 g3)
  · rw [hT]; exact hts _ hl
  · rw [hT]; exact fun _ h => h
  · simp [hN, hk, hv]
theorem r_getR (C : r_C X w B nL cc own) {a ci k index : Nat} {fin : Bool} (hat : r_at σ a = some (.inl ci)) (F : r_Fa own index ci k fin) (hR : r_isR (kTf ci k) = true) (hv : σ.2.2.2 a k ≠ 0) (hdg : decode cc pc = .ok (.getfield index, 3)) (kk : r_W X w B nL cells slots Q (pc + 3) lv (.ref (B + σ.2.2.2 a k) :: rest) σ) : r_W X w B nL cells slots Q pc lv (.ref (B + a) :: rest) σ :=
  r_get C hat F ((r_fv_R hR).trans (r_rf_ne hv)) hdg kk
theorem r_put (C : r_C X w B nL cc own) {a ci k index : Nat} {v : Value} {σ' : r_S} (hat : r_at σ a = some (.inl ci)) (F : r_Fa own index ci k false) (hv : r_fv B σ' (kTf ci k) a k = v) (hn : narrow (kTf ci k) v = v) (hf : fits (kTf ci k) v = true) (h1 : σ'.1 = σ.1) (ho : ∀ a' k', ¬ (a' = a ∧ k' = k) → σ'.2.1 a' k' = σ.2.1 a' k' ∧ σ'.2.2.1 a' k' = σ.2.2.1 a' k' ∧ σ'.2.2.2 a' k' = σ.2.2.2 a' k') (hdg : decode cc pc = .ok (.putfield index, 3)) (kk : r_W X w B nL cells slots Q (pc + 3) lv rest σ') : r_W X w B nL cells slots Q pc lv (v :: .ref (B + a) :: rest) σ := by
  obtain ⟨p, l, e, R, s, m, args, below, meth, c⟩ := X
  obtain ⟨⟨hx, hb, hml, hown, hts⟩, ⟨hK, hNw⟩, hB⟩ := C
  obtain ⟨cn, T, N, ref, nm, ds, ⟨hc, hN, hin, hty, hnm⟩, hk, hT, hl⟩ := F
  intro H locs la g1 g2 g3
  have he : (r_ws w.2 B σ)[a - 1]? = some (B + a, .inr (ci, (List.range (kNf ci)).map (fun k => r_fv B σ (kTf ci k) a k))) := r_ws_at hat
  have hap := va_apart (own := own) hts hin (kTf ci) hty hnm hK hc
  obtain ⟨r, h9, cell, q1, q2, q3, q4⟩ := g1.2 (a - 1) _ he
  have hr : r = (cn, T, N) := Option.some.inj (h9.symm.trans hc)
  subst hr
  obtain ⟨hS, hfc, kC, hkC, hkind⟩ := hK.1 ci _ hc
  obtain ⟨cf, kf, fi, f, hi, hsl⟩ := hS k hk
  have hlay := hts _ (hin _ (u_in_lay hk))
  unfold u_lay at hlay
  rw [if_neg (by rw [hT]; exact Bool.false_ne_true)] at hlay
  have hst := (u_facts hfc hkC (u_lays hts hin hk) hi).1
  have h6 := u_store hfc hkC hkind hlay hi (hty k hk) hn hf
  have hlk : (Cond.fieldLink own index ref (T k).2.1 (T k).2.2.1).before args s = true := by rw [hT]; exact hts _ hl
  have hi2 : s.fieldFound? (T k).1 (T k).2.1 (T k).2.2.1 = some (cf, kf, fi, f) := hi
  have hsame : s.fieldFound? ref (T k).2.1 (T k).2.2.1 = some (cf, kf, fi, f) := by rw [hT] at hi2 ⊢; exact hi2
  refine W.putK hx hb (f := f) ⟨hown, hlk, ⟨_, _, _, hsame⟩, hst⟩ (by rw [q2]; exact h6) q1 q3 (by rw [hsl]; exact k2_hasslot (q4 k hk)) rfl rfl hdg fun H' e1 e2 e3 => ?_
  rw [hsl] at e1 ⊢
  have hP2 := g1.2.set (e := .inr (ci, ((List.range (kNf ci)).map (fun k => r_fv B σ (kTf ci k) a k)).set k v)) r_ws_D he ⟨_, hc, t_OB.to (V := updV (vp_V _) k v) ⟨_, e1, q2, q3, t_set q4 hap hk v⟩ (fun j _ => vp_updV_set (by simp [hN, hk]) v j)⟩ e3
  rw [r_ws_set (σ := σ) (σ' := σ') h1 hat ?_ ?_] at hP2
  · exact kk H' _ la ⟨by rw [e2, h1]; exact g1.1, hP2⟩ (g2.put e2 e3 (by obtain ⟨z, -⟩ := r_at_pos hat; show B < B + a; omega)) g3
  · show Sum.inr _ = _
    congr 2
    exact (r_fs_set (f := fun k => r_fv B σ (kTf ci k) a k) (f' := fun k => r_fv B σ' (kTf ci k) a k) hv (fun j hj => by
      obtain ⟨o1, o2, o3⟩ := ho a j (fun q => hj q.2)
      simp only [r_fv, o1, o2, o3])).symm
  · intro a' ha'
    exact ⟨funext fun j => (ho a' j (fun q => ha' q.1)).1, funext fun j => (ho a' j (fun q => ha' q.1)).2.1, funext fun j => (ho a' j (fun q => ha' q.1)).2.2⟩
theorem r_putF (C : r_C X w B nL cc own) {l : Launch} {t : r_T} (E : r_E X l t) (hini : t.1.name = "<init>") {a ci k index : Nat} {v : Value} {σ' : r_S} (hat : r_at σ a = some (.inl ci)) (F : r_Fa own index ci k true) (hcn : (kCl[ci]?).map (fun q => (q.2.1 k).1) = some own) (hv : r_fv B σ' (kTf ci k) a k = v) (hn : narrow (kTf ci k) v = v) (hf : fits (kTf ci k) v = true) (h1 : σ'.1 = σ.1) (ho : ∀ a' k', ¬ (a' = a ∧ k' = k) → σ'.2.1 a' k' = σ.2.1 a' k' ∧ σ'.2.2.1 a' k' = σ.2.2.1 a' k' ∧ σ'.2.2.2 a' k' = σ.2.2.2 a' k') (hdg : decode cc pc = .ok (.putfield index, 3)) (kk : r_W X w B nL cells slots Q (pc + 3) lv rest σ') : r_W X w B nL cells slots Q pc lv (v :: .ref (B + a) :: rest) σ := by
  obtain ⟨p, l, e, R, s, m, args, below, meth, c⟩ := X
  obtain ⟨⟨hx, hb, hml, hown, hts⟩, ⟨hK, hNw⟩, hB⟩ := C
  obtain ⟨cn, T, N, ref, nm, ds, ⟨hc, hN, hin, hty, hnm⟩, hk, hT, hl⟩ := F
  obtain ⟨-, -, -, -, hmn⟩ := E
  intro H locs la g1 g2 g3
  have he : (r_ws w.2 B σ)[a - 1]? = some (B + a, .inr (ci, (List.range (kNf ci)).map (fun k => r_fv B σ (kTf ci k) a k))) := r_ws_at hat
  have hap := va_apart (own := own) hts hin (kTf ci) hty hnm hK hc
  obtain ⟨r, h9, cell, q1, q2, q3, q4⟩ := g1.2 (a - 1) _ he
  have hr : r = (cn, T, N) := Option.some.inj (h9.symm.trans hc)
  subst hr
  obtain ⟨hS, hfc, kC, hkC, hkind⟩ := hK.1 ci _ hc
  obtain ⟨cf, kf, fi, f, hi, hsl⟩ := hS k hk
  have hlay := hts _ (hin _ (u_in_lay hk))
  unfold u_lay at hlay
  rw [if_pos (by rw [hT])] at hlay
  have hst := (u_facts hfc hkC (u_lays hts hin hk) hi).1
  have hdecl : (T k).1 = own := by rw [hc] at hcn; exact Option.some.inj hcn
  have hcf : m.cls = cf := by
    obtain ⟨_, _, c', _, _, _, -, -, hf', -, -, -, hown2, -⟩ := Cond.laysFinal_spec hlay
    have e1 : c' = cf := by have := hi.symm.trans hf'; simp at this; exact this.1.symm
    rw [hdecl] at hown2
    rw [← e1]; exact Option.some.inj (hown.symm.trans hown2)
  have h6 := u_fits hfc hkC hkind (Or.inr hlay) hi (hty k hk) hn hf
  have hlk : (Cond.fieldLink own index ref (T k).2.1 (T k).2.2.1).before args s = true := by rw [hT]; exact hts _ hl
  have hi2 : s.fieldFound? (T k).1 (T k).2.1 (T k).2.2.1 = some (cf, kf, fi, f) := hi
  have hsame : s.fieldFound? ref (T k).2.1 (T k).2.2.1 = some (cf, kf, fi, f) := by rw [hT] at hi2 ⊢; exact hi2
  refine W.putFinK hx hb hown hlk hsame hst hcf (hmn.trans hini) (by rw [q2]; exact h6) q1 q3 (by rw [hsl]; exact k2_hasslot (q4 k hk)) rfl rfl hdg fun H' e1 e2 e3 => ?_
  rw [hsl] at e1 ⊢
  have hP2 := g1.2.set (e := .inr (ci, ((List.range (kNf ci)).map (fun k => r_fv B σ (kTf ci k) a k)).set k v)) r_ws_D he ⟨_, hc, t_OB.to (V := updV (vp_V _) k v) ⟨_, e1, q2, q3, t_set q4 hap hk v⟩ (fun j _ => vp_updV_set (by simp [hN, hk]) v j)⟩ e3
  rw [r_ws_set (σ := σ) (σ' := σ') h1 hat ?_ ?_] at hP2
  · exact kk H' _ la ⟨by rw [e2, h1]; exact g1.1, hP2⟩ (g2.put e2 e3 (by obtain ⟨z, -⟩ := r_at_pos hat; show B < B + a; omega)) g3
  · show Sum.inr _ = _
    congr 2
    exact (r_fs_set (f := fun k => r_fv B σ (kTf ci k) a k) (f' := fun k => r_fv B σ' (kTf ci k) a k) hv (fun j hj => by
      obtain ⟨o1, o2, o3⟩ := ho a j (fun q => hj q.2)
      simp only [r_fv, o1, o2, o3])).symm
  · intro a' ha'
    exact ⟨funext fun j => (ho a' j (fun q => ha' q.1)).1, funext fun j => (ho a' j (fun q => ha' q.1)).2.1, funext fun j => (ho a' j (fun q => ha' q.1)).2.2⟩
end RWB
def r_Ta (ti : Nat) (ty : FieldType) : Prop := kTa ti = ty ∧ ∀ d : Nat → ClassId, (kTys d)[ti]? = some (d ti, ty)
def r_okT (ty : FieldType) : Bool := match ty with
  | .float => false
  | .double => false
  | _ => true
theorem r_ws_push {d : Nat → ClassId} {B : Nat} {σ : r_S} {sh : r_Sh} : r_ws d B (r_push σ sh) = r_ws d B σ ++ [(B + (σ.1.length + 1), r_cell d B (r_push σ sh) (σ.1.length + 1) sh)] := by
  apply List.ext_getElem?
  intro k
  by_cases hk : k < σ.1.length
  · rw [List.getElem?_append_left (by rw [r_ws_len]; exact hk)]
    simp only [r_ws, List.getElem?_mapIdx]
    have h1 : (r_push σ sh).1[k]? = σ.1[k]? := by
      show (σ.1 ++ [sh])[k]? = _
      rw [List.getElem?_append_left hk]
    rw [h1]
    cases σ.1[k]? with
    | none => rfl
    | some s2 =>
      have hne : k + 1 ≠ σ.1.length + 1 := by omega
      simp only [Option.map_some]
      rw [r_cell_congr (σ := σ) (σ' := r_push σ sh) (sh := s2)]
      · funext j; simp [r_push, r_zr]; intro h; omega
      · funext j; simp [r_push, r_zr]; intro h; omega
      · funext j; simp [r_push, r_zr]; intro h; omega
  · rw [List.getElem?_append_right (by rw [r_ws_len]; omega), r_ws_len]
    by_cases hk2 : k = σ.1.length
    · subst hk2
      have h1 : (r_push σ sh).1[σ.1.length]? = some sh := by
        show (σ.1 ++ [sh])[σ.1.length]? = _
        simp
      simp [r_ws, List.getElem?_mapIdx, h1]
    · have h1 : (r_push σ sh).1[k]? = none := by
        show (σ.1 ++ [sh])[k]? = _
        simp; omega
      have h2 : k - σ.1.length = (k - σ.1.length - 1) + 1 := by omega
      rw [h2]
      simp [r_ws, List.getElem?_mapIdx, h1]
theorem r_born {B : Nat} {σ : r_S} {sh : r_Sh} {ty : FieldType} (h : r_okT ty = true) (k : Nat) : r_fv B (r_push σ sh) ty (σ.1.length + 1) k = defaultValue ty := by
  cases ty <;> first | (cases h; done) | (simp [r_fv, r_push, r_zr, defaultValue, r_op, va_rf]; done)
theorem r_bornA {B : Nat} {σ : r_S} {sh : r_Sh} {ty : FieldType} (h : r_okT ty = true) (n : Nat) (cA : ClassId) : vp_cell cA (r_ar B (r_push σ sh) ty (σ.1.length + 1) n) = arrV cA n (fun _ => defaultValue ty) := by
  cases ty <;> first | (cases h; done) | (simp [r_ar, vp_cell, r_push, r_zr, defaultValue, r_op, va_rf]; done)
section RWC
variable {X : r_X} {w : r_V} {B nL cells slots : Nat} {Q : State → Prop} {cc : ByteArray} {own : String} {pc : Nat} {lv : List (Nat × Value)} {rest : List Value} {σ : r_S}
theorem r_iald (C : r_C X w B nL cc own) {a ti n : Nat} (hat : r_at σ a = some (.inr (ti, n))) (A : r_Ta ti .int) {i : Int32} (hin : vp_in i n) (hdg : decode cc pc = .ok (.iaload, 1)) (kk : r_W X w B nL cells slots Q (pc + 1) lv (.int (σ.2.1 a i.toNatClampNeg) :: rest) σ) : r_W X w B nL cells slots Q pc lv (.int i :: .ref (B + a) :: rest) σ := by
  obtain ⟨p, l, e, R, s, m, args, below, meth, c⟩ := X
  obtain ⟨⟨hx, hb, hml, hown, hts⟩, ⟨hK, hNw⟩, hB⟩ := C
  intro H locs la g1 g2 g3
  have ha : (r_ws w.2 B σ)[a - 1]? = some (B + a, .inl (w.2 ti, n, .inl (σ.2.1 a))) := by rw [r_ws_at hat]; simp only [r_cell, r_ar, A.1]
  exact va_iald hx hb hK g1.2 (a - 1) ti ha (A.2 _) hin hdg (kk H locs la g1 g2 g3)
theorem r_zald (C : r_C X w B nL cc own) {a ti n : Nat} (hat : r_at σ a = some (.inr (ti, n))) (A : r_Ta ti .boolean) {i : Int32} (hin : vp_in i n) (hdg : decode cc pc = .ok (.baload, 1)) (kk : r_W X w B nL cells slots Q (pc + 1) lv (.int (σ.2.1 a i.toNatClampNeg) :: rest) σ) : r_W X w B nL cells slots Q pc lv (.int i :: .ref (B + a) :: rest) σ := by
  obtain ⟨p, l, e, R, s, m, args, below, meth, c⟩ := X
  obtain ⟨⟨hx, hb, hml, hown, hts⟩, ⟨hK, hNw⟩, hB⟩ := C
  intro H locs la g1 g2 g3
  have ha : (r_ws w.2 B σ)[a - 1]? = some (B + a, .inl (w.2 ti, n, .inl (σ.2.1 a))) := by rw [r_ws_at hat]; simp only [r_cell, r_ar, A.1]
  exact va_zald hx hb hK g1.2 (a - 1) ti ha (A.2 _) hin hdg (kk H locs la g1 g2 g3)
theorem r_lald (C : r_C X w B nL cc own) {a ti n : Nat} (hat : r_at σ a = some (.inr (ti, n))) (A : r_Ta ti .long) {i : Int32} (hin : vp_in i n) (hdg : decode cc pc = .ok (.laload, 1)) (kk : r_W X w B nL cells slots Q (pc + 1) lv (.long (σ.2.2.1 a i.toNatClampNeg) :: rest) σ) : r_W X w B nL cells slots Q pc lv (.int i :: .ref (B + a) :: rest) σ := by
  obtain ⟨p, l, e, R, s, m, args, below, meth, c⟩ := X
  obtain ⟨⟨hx, hb, hml, hown, hts⟩, ⟨hK, hNw⟩, hB⟩ := C
  intro H locs la g1 g2 g3
  have ha : (r_ws w.2 B σ)[a - 1]? = some (B + a, .inl (w.2 ti, n, .inr (.inl (σ.2.2.1 a)))) := by rw [r_ws_at hat]; simp only [r_cell, r_ar, A.1]
  exact va_lald hx hb hK g1.2 (a - 1) ti ha (A.2 _) hin hdg (kk H locs la g1 g2 g3)
theorem r_aald (C : r_C X w B nL cc own) {a ti n : Nat} {cn : String} (hat : r_at σ a = some (.inr (ti, n))) (A : r_Ta ti (.object cn)) {i : Int32} (hin : vp_in i n) (hne : σ.2.2.2 a i.toNatClampNeg ≠ 0) (hdg : decode cc pc = .ok (.aaload, 1)) (kk : r_W X w B nL cells slots Q (pc + 1) lv (.ref (B + σ.2.2.2 a i.toNatClampNeg) :: rest) σ) : r_W X w B nL cells slots Q pc lv (.int i :: .ref (B + a) :: rest) σ := by
  obtain ⟨p, l, e, R, s, m, args, below, meth, c⟩ := X
  obtain ⟨⟨hx, hb, hml, hown, hts⟩, ⟨hK, hNw⟩, hB⟩ := C
  intro H locs la g1 g2 g3
  have ha : (r_ws w.2 B σ)[a - 1]? = some (B + a, .inl (w.2 ti, n, .inr (.inr (.inr (.inr (fun j => r_op B (σ.2.2.2 a j))))))) := by rw [r_ws_at hat]; simp only [r_cell, r_ar, A.1]
  refine va_aldq hx hb hK g1.2 (a - 1) ti ha (A.2 _) hin hdg ?_
  rw [r_rf_ne hne]
  exact kk H locs la g1 g2 g3
theorem r_alen (C : r_C X w B nL cc own) {a ti n : Nat} {ty : FieldType} (hat : r_at σ a = some (.inr (ti, n))) (A : r_Ta ti ty) {v : Int32} (hv : Int32.ofNat n = v) (hdg : decode cc pc = .ok (.arraylength, 1)) (kk : r_W X w B nL cells slots Q (pc + 1) lv (.int v :: rest) σ) : r_W X w B nL cells slots Q pc lv (.ref (B + a) :: rest) σ := by
  obtain ⟨p, l, e, R, s, m, args, below, meth, c⟩ := X
  obtain ⟨⟨hx, hb, hml, hown, hts⟩, ⟨hK, hNw⟩, hB⟩ := C
  intro H locs la g1 g2 g3
  have ha : (r_ws w.2 B σ)[a - 1]? = some (B + a, .inl (w.2 ti, r_ar B σ ty a n)) := by rw [r_ws_at hat]; simp only [r_cell, A.1]
  exact va_alen hx hb hK g1.2 (a - 1) ti ha (A.2 _) (by show Int32.ofNat (r_ar B σ ty a n).1 = v; exact hv) hdg (kk H locs la g1 g2 g3)
theorem r_iast (C : r_C X w B nL cc own) {a ti n : Nat} (hat : r_at σ a = some (.inr (ti, n))) (A : r_Ta ti .int) {i x : Int32} (hin : vp_in i n) (hdg : decode cc pc = .ok (.iastore, 1)) (kk : r_W X w B nL cells slots Q (pc + 1) lv rest (r_ui σ a i.toNatClampNeg x)) : r_W X w B nL cells slots Q pc lv (.int x :: .int i :: .ref (B + a) :: rest) σ := by
  obtain ⟨p, l, e, R, s, m, args, below, meth, c⟩ := X
  obtain ⟨⟨hx, hb, hml, hown, hts⟩, ⟨hK, hNw⟩, hB⟩ := C
  intro H locs la g1 g2 g3
  have ha : (r_ws w.2 B σ)[a - 1]? = some (B + a, .inl (w.2 ti, n, .inl (σ.2.1 a))) := by rw [r_ws_at hat]; simp only [r_cell, r_ar, A.1]
  refine W.iast hx hb (g1.2 (a - 1) _ ha) ((hK.2 ti _ (A.2 _)).1 n (fun j => .int (σ.2.1 a j))) (fun q => by cases q) (by show ¬ (i < 0 ∨ (arrV _ _ _).slots.size ≤ _); rw [arrV_size]; exact hin) rfl rfl hdg fun H1 e z oq => ?_
  have hc1 : va_at w.1 kCl (B + a, .inl (w.2 ti, n, .inl (upd (σ.2.1 a) i.toNatClampNeg x))) H1 := by
    show H1[B + a]? = some (vp_cell _ _)
    rw [e, vp_cell_i, vp_cell_i, arrV_store]
    congr 2
    funext q
    by_cases hq : q = i.toNatClampNeg
    · subst hq; simp [updV, upd]
    · simp [updV, upd, hq]
  have hP2 := g1.2.set r_ws_D ha hc1 oq
  rw [r_ws_set (σ := σ) (σ' := r_ui σ a i.toNatClampNeg x) rfl hat ?_ ?_] at hP2
  · exact kk H1 _ la ⟨by rw [z]; exact g1.1, hP2⟩ (g2.put z oq (by obtain ⟨z, -⟩ := r_at_pos hat; show B < B + a; omega)) g3
  · simp only [r_cell, r_ar, A.1]
    congr 4
    funext q
    by_cases hq : q = i.toNatClampNeg <;> simp [r_ui, upd, hq]
  · intro a' ha'
    refine ⟨funext fun j => ?_, rfl, rfl⟩
    simp [r_ui, ha']
theorem r_zast (C : r_C X w B nL cc own) {a ti n : Nat} (hat : r_at σ a = some (.inr (ti, n))) (A : r_Ta ti .boolean) {i x : Int32} (hin : vp_in i n) (h01 : vp_nar .boolean x = x) (hdg : decode cc pc = .ok (.bastore, 1)) (kk : r_W X w B nL cells slots Q (pc + 1) lv rest (r_ui σ a i.toNatClampNeg x)) : r_W X w B nL cells slots Q pc lv (.int x :: .int i :: .ref (B + a) :: rest) σ := by
  obtain ⟨p, l, e, R, s, m, args, below, meth, c⟩ := X
  obtain ⟨⟨hx, hb, hml, hown, hts⟩, ⟨hK, hNw⟩, hB⟩ := C
  intro H locs la g1 g2 g3
  have ha : (r_ws w.2 B σ)[a - 1]? = some (B + a, .inl (w.2 ti, n, .inl (σ.2.1 a))) := by rw [r_ws_at hat]; simp only [r_cell, r_ar, A.1]
  refine W.zast hx hb (g1.2 (a - 1) _ ha) ((hK.2 ti _ (A.2 _)).1 n (fun j => .int (σ.2.1 a j))) (fun q => by cases q) (by show ¬ (i < 0 ∨ (arrV _ _ _).slots.size ≤ _); rw [arrV_size]; exact hin) rfl rfl hdg fun H1 e z oq => ?_
  have hc1 : va_at w.1 kCl (B + a, .inl (w.2 ti, n, .inl (upd (σ.2.1 a) i.toNatClampNeg (vp_nar .boolean x)))) H1 := by
    show H1[B + a]? = some (vp_cell _ _)
    rw [e, vp_cell_i, vp_cell_i, arrV_store]
    congr 2
    funext q
    by_cases hq : q = i.toNatClampNeg
    · subst hq
      simp [updV, upd, vp_nar]
      try rfl
    · simp [updV, upd, hq]
  rw [h01] at hc1
  have hP2 := g1.2.set r_ws_D ha hc1 oq
  rw [r_ws_set (σ := σ) (σ' := r_ui σ a i.toNatClampNeg x) rfl hat ?_ ?_] at hP2
  · exact kk H1 _ la ⟨by rw [z]; exact g1.1, hP2⟩ (g2.put z oq (by obtain ⟨z, -⟩ := r_at_pos hat; show B < B + a; omega)) g3
  · simp only [r_cell, r_ar, A.1]
    congr 4
    funext q
    by_cases hq : q = i.toNatClampNeg <;> simp [r_ui, upd, hq]
  · intro a' ha'
    refine ⟨funext fun j => ?_, rfl, rfl⟩
    simp [r_ui, ha']
theorem r_last (C : r_C X w B nL cc own) {a ti n : Nat} (hat : r_at σ a = some (.inr (ti, n))) (A : r_Ta ti .long) {i : Int32} {x : Int64} (hin : vp_in i n) (hdg : decode cc pc = .ok (.lastore, 1)) (kk : r_W X w B nL cells slots Q (pc + 1) lv rest (r_ul σ a i.toNatClampNeg x)) : r_W X w B nL cells slots Q pc lv (.long x :: .int i :: .ref (B + a) :: rest) σ := by
  obtain ⟨p, l, e, R, s, m, args, below, meth, c⟩ := X
  obtain ⟨⟨hx, hb, hml, hown, hts⟩, ⟨hK, hNw⟩, hB⟩ := C
  intro H locs la g1 g2 g3
  have ha : (r_ws w.2 B σ)[a - 1]? = some (B + a, .inl (w.2 ti, n, .inr (.inl (σ.2.2.1 a)))) := by rw [r_ws_at hat]; simp only [r_cell, r_ar, A.1]
  refine W.last hx hb (g1.2 (a - 1) _ ha) ((hK.2 ti _ (A.2 _)).1 n (fun j => .long (σ.2.2.1 a j))) (fun q => by cases q) (by show ¬ (i < 0 ∨ (arrV _ _ _).slots.size ≤ _); rw [arrV_size]; exact hin) rfl rfl hdg fun H1 e z oq => ?_
  have hc1 : va_at w.1 kCl (B + a, .inl (w.2 ti, n, .inr (.inl (vp_updL (σ.2.2.1 a) i.toNatClampNeg x)))) H1 := by
    show H1[B + a]? = some (vp_cell _ _)
    rw [e, vp_cell_l, vp_cell_l, arrV_store]
    congr 2
    funext q
    by_cases hq : q = i.toNatClampNeg
    · subst hq; simp [updV, vp_updL]
    · simp [updV, vp_updL, hq]
  have hP2 := g1.2.set r_ws_D ha hc1 oq
  rw [r_ws_set (σ := σ) (σ' := r_ul σ a i.toNatClampNeg x) rfl hat ?_ ?_] at hP2
  · exact kk H1 _ la ⟨by rw [z]; exact g1.1, hP2⟩ (g2.put z oq (by obtain ⟨z, -⟩ := r_at_pos hat; show B < B + a; omega)) g3
  · simp only [r_cell, r_ar, A.1]
    congr 5
    funext q
    by_cases hq : q = i.toNatClampNeg <;> simp [r_ul, vp_updL, hq]
  · intro a' ha'
    refine ⟨rfl, funext fun j => ?_, rfl⟩
    simp [r_ul, ha']
theorem r_aast (C : r_C X w B nL cc own) {a ti n b ci : Nat} {r : vw_C} (hat : r_at σ a = some (.inr (ti, n))) (A : r_Ta ti (.object r.1)) (hb0 : r_at σ b = some (.inl ci)) (hcl : kCl[ci]? = some r) {i : Int32} (hin : vp_in i n) (hdg : decode cc pc = .ok (.aastore, 1)) (kk : r_W X w B nL cells slots Q (pc + 1) lv rest (r_ur σ a i.toNatClampNeg b)) : r_W X w B nL cells slots Q pc lv (.ref (B + b) :: .int i :: .ref (B + a) :: rest) σ := by
  obtain ⟨p, l, e, R, s, m, args, below, meth, c⟩ := X
  obtain ⟨⟨hx, hb, hml, hown, hts⟩, ⟨hK, hNw⟩, hB⟩ := C
  intro H locs la g1 g2 g3
  have ha : (r_ws w.2 B σ)[a - 1]? = some (B + a, .inl (w.2 ti, n, .inr (.inr (.inr (.inr (fun j => r_op B (σ.2.2.2 a j))))))) := by rw [r_ws_at hat]; simp only [r_cell, r_ar, A.1]
  have hv : (r_ws w.2 B σ)[b - 1]? = some (B + b, .inr (ci, (List.range (kNf ci)).map (fun k => r_fv B σ (kTf ci k) b k))) := r_ws_at hb0
  have hlt : i.toNatClampNeg < n := Nat.not_le.mp fun q => hin (Or.inr q)
  have h0 : ¬ i < 0 := fun q => hin (Or.inl q)
  obtain ⟨r', hr', cellV, k1', k2', k3', -⟩ := g1.2 (b - 1) _ hv
  have hcls := (hK.1 ci r hcl).2
  obtain ⟨kA, comp, k1, k2, k3, -⟩ := (hK.2 ti _ (A.2 _)).2
  have hcomp : comp = w.1.1 ci := Option.some.inj (k3.symm.trans hcls.1)
  subst hcomp
  obtain ⟨kC, hkC, -⟩ := hcls.2
  refine W.aast hx hb (g1.2 (a - 1) _ ha) (fun q h => by cases h) (fun h => by cases h) k1 k2 rfl hkC ⟨h0, by show _ < (arrV _ _ _).slots.size; rw [arrV_size]; exact hlt⟩ k1' (fun q h => by rw [k3'] at h; cases h) (by rw [k2']; exact hkC) (by rw [k2']; exact va_assign hcls) rfl rfl hdg fun H1 e z oq => ?_
  have hb1 : b ≠ 0 := by obtain ⟨z, -⟩ := r_at_pos hb0; omega
  have hc1 : va_at w.1 kCl (B + a, .inl (w.2 ti, n, .inr (.inr (.inr (.inr (va_up (fun j => r_op B (σ.2.2.2 a j)) i.toNatClampNeg (some (B + b)))))))) H1 := by
    show H1[B + a]? = some (vp_cell _ _)
    rw [e, vp_cell_q, vp_cell_q, arrV_store]
    congr 2
    funext q
    by_cases hq : q = i.toNatClampNeg
    · subst hq; simp [updV, va_up, va_rf]
    · simp [updV, va_up, hq]
  have hP2 := g1.2.set r_ws_D ha hc1 oq
  rw [r_ws_set (σ := σ) (σ' := r_ur σ a i.toNatClampNeg b) rfl hat ?_ ?_] at hP2
  · exact kk H1 _ la ⟨by rw [z]; exact g1.1, hP2⟩ (g2.put z oq (by obtain ⟨z, -⟩ := r_at_pos hat; show B < B + a; omega)) g3
  · simp only [r_cell, r_ar, A.1]
    congr 8
    funext q
    by_cases hq : q = i.toNatClampNeg <;> simp [r_ur, va_up, hq, r_op, hb1]
  · intro a' ha'
    refine ⟨rfl, rfl, funext fun j => ?_⟩
    simp [r_ur, ha']
theorem r_new (C : r_C X w B nL cc own) {l : Launch} {t : r_T} (E : r_E X l t) {index ci N : Nat} {cn : String} {T : u_T} (hcl : r_Cl ci cn T N) (hok : ∀ k, k < N → r_okT (kTf ci k) = true) (w1 : Cond.classLink own index cn ∈ kBig) (w2 : Cond.instantiable cn N ∈ kBig) (w3 : Cond.initialized cn ∈ kBig) (hc1 : cells + 1 ≤ t.2.2.2.2.cells) (hs1 : slots + N ≤ t.2.2.2.2.slots) (hdg : decode cc pc = .ok (.new index, 3)) (kk : r_W X w B nL (cells + 1) (slots + N) Q (pc + 3) lv (.ref (B + (σ.1.length + 1)) :: rest) (r_push σ (.inl ci))) : r_W X w B nL cells slots Q pc lv rest σ := by
  obtain ⟨p, l, e, R, s, m, args, below, meth, c⟩ := X
  obtain ⟨⟨hx, hb, hml, hown, hts⟩, ⟨hK, hNw⟩, hB⟩ := C
  obtain ⟨-, hR, -, -, -⟩ := E
  obtain ⟨hc, hN, hin, hty, hnm⟩ := hcl
  intro H locs la g1 g2 g3
  have hKn := hK.1 ci _ hc
  have hsz : H.size = B + (σ.1.length + 1) := by rw [g1.1]; omega
  refine W.newcK hx hb hown (hts _ w1) (hts _ w2) (hts _ w3) rfl hdg (by rw [hR]; exact hc1) (by rw [hR]; exact hs1) hKn.2.1 rfl fun H1 kC hkC e1 z1 o1 => ?_
  have hk : ∀ (k : Nat) (x : Nat × va_E), (r_ws w.2 B σ)[k]? = some x → H1[x.1]? = H[x.1]? := fun k x hx => o1 x.1 ((g1.2 k x hx).lt)
  have hP2 : va_P w.1 kCl (r_ws w.2 B (r_push σ (.inl ci))) H1 := by
    rw [r_ws_push]
    refine (g1.2.kept hk).app (fun k x hx => ?_)
    have hz : k < 1 := (List.getElem?_eq_some_iff.mp hx).1
    rw [show k = 0 by omega] at hx
    cases hx
    refine ⟨_, hc, ?_⟩
    rw [← hsz]
    refine (u_born (kTf ci) hts hin hKn hkC e1 hty).to (fun j hj => ?_)
    simp only [vp_V]
    rw [List.getD_eq_getElem?_getD]
    simp [hN, hj, r_born (hok j hj)]
  have hfin := kk H1 locs la ⟨by rw [z1, hsz]; show _ = B + 1 + (σ.1 ++ [_]).length; simp; omega, hP2⟩ ⟨Nat.le_trans g2.1 (by omega), fun x h1 h2 => (o1 x (Nat.lt_of_lt_of_le h1 g2.1)).trans (g2.2.1 x h1 h2), g2.2.2⟩ g3
  rw [← hsz] at hfin
  exact hfin
theorem r_newa (C : r_C X w B nL cc own) {l : Launch} {t : r_T} (E : r_E X l t) {atype : ArrayType} {ti n : Nat} {ty : FieldType} (A : r_Ta ti ty) (hty : newarray.typeOf atype = ty) (w1 : Cond.arrayClass ty ∈ kBig) {x : Int32} (hn : ¬ x < 0) (hN : x.toNatClampNeg = n) (hby : n * componentBytes ty ≤ 536870912) (hok : r_okT ty = true) (hc1 : cells + 1 ≤ t.2.2.2.2.cells) (hs1 : slots + n ≤ t.2.2.2.2.slots) (hdg : decode cc pc = .ok (.newarray atype, 2)) (kk : r_W X w B nL (cells + 1) (slots + n) Q (pc + 2) lv (.ref (B + (σ.1.length + 1)) :: rest) (r_push σ (.inr (ti, n)))) : r_W X w B nL cells slots Q pc lv (.int x :: rest) σ := by
  obtain ⟨p, l, e, R, s, m, args, below, meth, c⟩ := X
  obtain ⟨⟨hx, hb, hml, hown, hts⟩, ⟨hK, hNw⟩, hB⟩ := C
  obtain ⟨-, hR, -, -, -⟩ := E
  intro H locs la g1 g2 g3
  have hsz : H.size = B + (σ.1.length + 1) := by rw [g1.1]; omega
  have hRA := (hK.2 ti _ (A.2 w.2)).2
  subst hty
  refine va_newaK hx hb (hts _ w1) rfl hdg rfl hn hN hby (by rw [hR]; exact hc1) (by rw [hR]; exact hs1) rfl fun H1 cA e1 z1 o1 hAr hNm => ?_
  have hcA : w.2 ti = cA := by
    cases atype <;> exact Option.some.inj (hRA.symm.trans hNm)
  have hk : ∀ (k : Nat) (x : Nat × va_E), (r_ws w.2 B σ)[k]? = some x → H1[x.1]? = H[x.1]? := fun k x hx => o1 x.1 ((g1.2 k x hx).lt)
  have hP2 : va_P w.1 kCl (r_ws w.2 B (r_push σ (.inr (ti, n)))) H1 := by
    rw [r_ws_push]
    refine (g1.2.kept hk).app (fun k x hx => ?_)
    have hz : k < 1 := (List.getElem?_eq_some_iff.mp hx).1
    rw [show k = 0 by omega] at hx
    cases hx
    show H1[B + (σ.1.length + 1)]? = some (vp_cell (w.2 ti) (r_ar B _ (kTa ti) _ n))
    rw [A.1, r_bornA hok, ← hsz, hcA]
    exact e1
  have hfin := kk H1 locs la ⟨by rw [z1, hsz]; show _ = B + 1 + (σ.1 ++ [_]).length; simp; omega, hP2⟩ ⟨Nat.le_trans g2.1 (by omega), fun x h1 h2 => (o1 x (Nat.lt_of_lt_of_le h1 g2.1)).trans (g2.2.1 x h1 h2), g2.2.2⟩ g3
  rw [← hsz] at hfin
  exact hfin
theorem r_newq (C : r_C X w B nL cc own) {l : Launch} {t : r_T} (E : r_E X l t) {index ti n : Nat} (A : r_Ta ti (.object "SlotRadio$Station")) (w1 : Cond.classLink own index "SlotRadio$Station" ∈ kBig) {x : Int32} (hn : ¬ x < 0) (hN : x.toNatClampNeg = n) (hby : n * 4 ≤ 536870912) (hc1 : cells + 1 ≤ t.2.2.2.2.cells) (hs1 : slots + n ≤ t.2.2.2.2.slots) (hdg : decode cc pc = .ok (.anewarray index, 3)) (kk : r_W X w B nL (cells + 1) (slots + n) Q (pc + 3) lv (.ref (B + (σ.1.length + 1)) :: rest) (r_push σ (.inr (ti, n)))) : r_W X w B nL cells slots Q pc lv (.int x :: rest) σ := by
  obtain ⟨p, l, e, R, s, m, args, below, meth, c⟩ := X
  obtain ⟨⟨hx, hb, hml, hown, hts⟩, ⟨hK, hNw⟩, hB⟩ := C
  obtain ⟨-, hR, -, -, -⟩ := E
  intro H locs la g1 g2 g3
  have hsz : H.size = B + (σ.1.length + 1) := by rw [g1.1]; omega
  obtain ⟨_, _, _, _, _, hRA⟩ := (hK.2 ti _ (A.2 w.2)).2
  subst hN
  refine W.anew hx hb hown (hts _ w1) (va_AO.use hNw.2.2.2.2) rfl hdg rfl hn hby (by rw [hR]; exact hc1) (by rw [hR]; exact hs1) fun cA kA comp f1 f2 f3 f4 => ?_
  have hcA : w.2 ti = cA := Option.some.inj (hRA.symm.trans f1)
  generalize hH1 : H.push ({ cls := cA, slots := Array.replicate x.toNatClampNeg .null, vm := .none } : Cell) = H1
  have z1 : H1.size = H.size + 1 := by rw [← hH1, Array.size_push]
  have e1 : H1[H.size]? = some (arrV cA x.toNatClampNeg (fun _ => .null)) := by rw [← hH1, Array.getElem?_push_size, ← arrV_new]
  have o1 : ∀ q : Nat, q < H.size → H1[q]? = H[q]? := fun q hq => by rw [← hH1, Array.getElem?_push, if_neg (Nat.ne_of_lt hq)]
  have hk : ∀ (k : Nat) (x : Nat × va_E), (r_ws w.2 B σ)[k]? = some x → H1[x.1]? = H[x.1]? := fun k x hx => o1 x.1 ((g1.2 k x hx).lt)
  have hP2 : va_P w.1 kCl (r_ws w.2 B (r_push σ (.inr (ti, x.toNatClampNeg)))) H1 := by
    rw [r_ws_push]
    refine (g1.2.kept hk).app (fun k x hx => ?_)
    have hz : k < 1 := (List.getElem?_eq_some_iff.mp hx).1
    rw [show k = 0 by omega] at hx
    cases hx
    show H1[B + (σ.1.length + 1)]? = some (vp_cell (w.2 ti) (r_ar B _ (kTa ti) _ _))
    rw [A.1, r_bornA rfl, ← hsz, hcA]
    exact e1
  have hfin := kk H1 locs la ⟨by rw [z1, hsz]; show _ = B + 1 + (σ.1 ++ [_]).length; simp; omega, hP2⟩ ⟨Nat.le_trans g2.1 (by omega), fun x h1 h2 => (o1 x (Nat.lt_of_lt_of_le h1 g2.1)).trans (g2.2.1 x h1 h2), g2.2.2⟩ g3
  rw [← hsz] at hfin
  exact hfin
end RWC
end
section
theorem r_enter {l : Launch} {w : r_V} {B : Nat} {t : r_T} {as : List Value} {σ : r_S} {Q : Option Value → r_S → Prop} (hy : plainName t.1.cls = true) (hlen : (lg_sl as).length ≤ t.2.2.1) (h : ∀ X : r_X, r_C X w B t.2.2.1 t.2.1 t.1.cls → r_E X l t → r_W X w B t.2.2.1 0 0 (r_Z X w B t Q) 0 (lv_args 0 as) [] σ) : r_M l w B t as σ Q := by
  refine Met.ofW (cc := t.2.1) (maxL := t.2.2.1) (ret := t.2.2.2.1) hy rfl ?_
  intro p e s m args below meth c s₁ Bd hml hv
  obtain ⟨rfl, hB, hH, hK⟩ := hv
  have hts := atoms_spec (ws := Cond.code t.1 t.2.1 t.2.2.1 t.2.2.2.1 :: kBig) Bd.pre
  have hown : s.vm.findClass t.1.cls = some m.cls := findClass_of_methodNamed Bd.named
  have hin : meth.name = t.1.name := (name_of_methodNamed Bd.named Bd.method).1
  have hl := lv_entry as (n := t.2.2.1) hlen
  rw [lg_entry_eq]
  exact h (p, l, e, (headSpec (Cond.code t.1 t.2.1 t.2.2.1 t.2.2.2.1 :: kBig) t.2.2.2.2).room, s, m, as.toArray, below, meth, c) ⟨⟨Bd.exec, Bd.bytes, hml, hown, fun q hq => hts q (List.mem_cons_of_mem _ hq)⟩, hK, hB⟩ ⟨rfl, rfl, Bd.returns, Bd.notSynchronized, hin⟩ s.heap [] _ hH va_S.rf hl
section RWD
variable {X : r_X} {w : r_V} {B nL cells slots : Nat} {Q : State → Prop} {cc : ByteArray} {own : String} {pc : Nat} {lv : List (Nat × Value)} {rest : List Value} {σ : r_S} {l : Launch} {t : r_T} {Q2 : Option Value → r_S → Prop}
theorem r_iret (C : r_C X w B nL cc own) (E : r_E X l t) {v : Int32} (hr : t.2.2.2.1 = some .int) (hc : cells ≤ t.2.2.2.2.cells) (hs : slots ≤ t.2.2.2.2.slots) (hdg : decode cc pc = .ok (.ireturn, 1)) (hq : Q2 (some (.int v)) σ) : r_W X w B nL cells slots (r_Z X w B t Q2) pc lv [.int v] σ := by
  obtain ⟨p, l, e, R, s, m, args, below, meth, c⟩ := X
  obtain ⟨⟨hx, hb, hml, hown, hts⟩, hK, hB⟩ := C
  obtain ⟨-, -, hret, hlk, -⟩ := E
  intro H locs la g1 g2 g3
  refine W.widen hc hs ?_
  exact W.iret hx hb (hret.trans hr) (fun t' ht hW => ⟨⟨_, σ, rfl, hq, by rw [ht]; exact g1, r_K.warm hW hK⟩, g2.F ht⟩) g2.2.2 hdg hlk
theorem r_zret (C : r_C X w B nL cc own) (E : r_E X l t) {v : Int32} (hr : t.2.2.2.1 = some .boolean) (hv : narrow .boolean (.int v) = .int v) (hc : cells ≤ t.2.2.2.2.cells) (hs : slots ≤ t.2.2.2.2.slots) (hdg : decode cc pc = .ok (.ireturn, 1)) (hq : Q2 (some (.int v)) σ) : r_W X w B nL cells slots (r_Z X w B t Q2) pc lv [.int v] σ := by
  obtain ⟨p, l, e, R, s, m, args, below, meth, c⟩ := X
  obtain ⟨⟨hx, hb, hml, hown, hts⟩, hK, hB⟩ := C
  obtain ⟨-, -, hret, hlk, -⟩ := E
  intro H locs la g1 g2 g3
  refine W.widen hc hs ?_
  exact W.zret hx hb (hret.trans hr) hv (fun t' ht hW => ⟨⟨_, σ, rfl, hq, by rw [ht]; exact g1, r_K.warm hW hK⟩, g2.F ht⟩) g2.2.2 hdg hlk
theorem r_lret (C : r_C X w B nL cc own) (E : r_E X l t) {v : Int64} (hr : t.2.2.2.1 = some .long) (hc : cells ≤ t.2.2.2.2.cells) (hs : slots ≤ t.2.2.2.2.slots) (hdg : decode cc pc = .ok (.lreturn, 1)) (hq : Q2 (some (.long v)) σ) : r_W X w B nL cells slots (r_Z X w B t Q2) pc lv [.long v] σ := by
  obtain ⟨p, l, e, R, s, m, args, below, meth, c⟩ := X
  obtain ⟨⟨hx, hb, hml, hown, hts⟩, hK, hB⟩ := C
  obtain ⟨-, -, hret, hlk, -⟩ := E
  intro H locs la g1 g2 g3
  refine W.widen hc hs ?_
  exact W.lret hx hb (hret.trans hr) (fun t' ht hW => ⟨⟨_, σ, rfl, hq, by rw [ht]; exact g1, r_K.warm hW hK⟩, g2.F ht⟩) g2.2.2 hdg hlk
theorem r_vret (C : r_C X w B nL cc own) (E : r_E X l t) (hr : t.2.2.2.1 = none) (hc : cells ≤ t.2.2.2.2.cells) (hs : slots ≤ t.2.2.2.2.slots) (hdg : decode cc pc = .ok (.return_, 1)) (hq : Q2 none σ) : r_W X w B nL cells slots (r_Z X w B t Q2) pc lv [] σ := by
  obtain ⟨p, l, e, R, s, m, args, below, meth, c⟩ := X
  obtain ⟨⟨hx, hb, hml, hown, hts⟩, hK, hB⟩ := C
  obtain ⟨-, -, hret, hlk, -⟩ := E
  intro H locs la g1 g2 g3
  refine W.widen hc hs ?_
  exact W.vret hx hb (hret.trans hr) (fun t' ht hW => ⟨⟨_, σ, rfl, hq, by rw [ht]; exact g1, r_K.warm hW hK⟩, g2.F ht⟩) g2.2.2 hdg hlk
/-- the words of a call that are the callee's own -/
def r_Ky (t2 : r_T) (n : Nat) : Prop := Cond.code t2.1 t2.2.1 t2.2.2.1 t2.2.2.2.1 ∈ kBig ∧ Cond.initialized t2.1.cls ∈ kBig ∧ (t2.1.cls ≠ "java/lang/invoke/MethodHandle" ∧ t2.1.cls ≠ "java/lang/invoke/VarHandle" ∧ (parseMethodDescriptor t2.1.desc).map (fun d => d.parameters.length) = some n)
def r_Rm (t t2 : r_T) : Prop := t2.2.2.2.2.frames + 1 ≤ t.2.2.2.2.frames ∧ 8 + (t2.2.2.1 + 11) + t2.2.2.2.2.locals ≤ t.2.2.2.2.locals
theorem r_blind {as : List Value} : FrameBlind (fun a U => a = as.toArray ∧ B < U.heap.size ∧ r_U w B σ U) := fun a U g mk q => ⟨q.1, q.2.1, q.2.2.1, r_K.calling q.2.2.2⟩
theorem r_goodc {t2 : r_T} {n : Nat} (K : r_Ky t2 n) : GoodIn kBig (Cond.code t2.1 t2.2.1 t2.2.2.1 t2.2.2.2.1 :: kBig) := by
  intro q hq
  rcases List.mem_cons.mp hq with rfl | hq
  · exact ⟨K.1, Or.inl rfl⟩
  · exact kBig_good q hq
theorem r_back {p : Program} {l : Launch} {e : Env} {R : Room} {s : State} {m : MethodId} {args : Array Value} {below : List Frame} {meth : Method} {c : Code} {H : Heap} {locs : List Loc} {mc ms : Nat} {la : Array Slot} {st0 : List Value} {a : Array Value} (hr : va_Run p l e R s m args below meth c H locs cells slots mc ms (F0 m pc la st0) rest (r_Qc w B Q2 a) (fun q => B < q)) (g2 : va_S (fun q => B < q) s.heap H locs)
    (kk : ∀ (r : Option Value) (σ' : r_S), Q2 r σ' → ∀ (H1 : Heap) (locs1 : List Loc), r_H w B σ' H1 → va_S (fun q => B < q) s.heap H1 locs1 → W p l e R s m args below meth c H1 locs1 (cells + mc) (slots + ms) Q (F0 m (pc + 3) la (r.toList ++ rest))) : W p l e R s m args below meth c H locs cells slots Q (F0 m pc la st0) := by
  intro T hT X
  obtain ⟨v, st₀, t, T', L, h0, X', hL, e1, e2, ⟨⟨r, σ', hv, hp, hb⟩, hz, hk⟩, st⟩ := hr T hT X
  cases hv
  rw [h0] at hz hk
  obtain ⟨t2, a1, b1⟩ := kk v σ' hp T'.heap (locs ++ L) (by rw [e1]; exact hb.1)
    ⟨Nat.le_trans g2.1 (by rw [e1]; exact hz), fun q h1 h2 => by rw [e1, hk q (Nat.lt_of_lt_of_le h1 g2.1) h2]; exact g2.2.1 q h1 h2, fun q hq => by
      rcases List.mem_append.mp hq with h | h
      · exact g2.2.2 q h
      · exact hL q h⟩ T' rfl X'
  exact ⟨t2, st t2 a1, b1⟩
theorem r_callV (C : r_C X w B nL cc own) (E : r_E X l t) {t2 : r_T} {a ci index n : Nat} {As st : List Value} {T : u_T} {N : Nat} (hat : r_at σ a = some (.inl ci)) (hcl : kCl[ci]? = some (t2.1.cls, T, N)) (K : r_Ky t2 n) (w1 : Cond.methodLink own index t2.1 ∈ kBig) (w2 : Cond.instanceMethod t2.1 ∈ kBig) (w3 : Cond.selects t2.1.cls t2.1 t2.1 ∈ kBig) (hR : r_Rm t t2) (hM : r_M l w B t2 (.ref (B + a) :: As) σ Q2) (hn : As.length = n) (hst : st = As.reverse ++ .ref (B + a) :: rest) (h8 : (rest.map fun v => v.category).sum ≤ 8) (hc1 : cells + t2.2.2.2.2.cells ≤ t.2.2.2.2.cells) (hs1 : slots + t2.2.2.2.2.slots ≤ t.2.2.2.2.slots) (hdg : decode cc pc = .ok (.invokevirtual index, 3))
    (kk : ∀ (r : Option Value) (σ' : r_S), Q2 r σ' → r_W X w B nL (cells + t2.2.2.2.2.cells) (slots + t2.2.2.2.2.slots) Q (pc + 3) lv (r.toList ++ rest) σ') : r_W X w B nL cells slots Q pc lv st σ := by
  obtain ⟨p, l', e, R, s, m, args, below, meth, c⟩ := X
  obtain ⟨⟨hx, hb, hml, hown, hts⟩, hK, hB⟩ := C
  obtain ⟨hle, hRe, -, -, -⟩ := E
  subst hle
  subst hRe
  subst hst
  intro H locs la g1 g2 g3
  have hv : (r_ws w.2 B σ)[a - 1]? = some (B + a, .inr (ci, (List.range (kNf ci)).map (fun k => r_fv B σ (kTf ci k) a k))) := r_ws_at hat
  have hBH : B < H.size := by rw [g1.1]; omega
  refine r_back (w := w) (Q2 := Q2) (va_runV (cc := cc) (nL := nL) (Ts := kBig) (own := own) (C := t2.1.cls) (n := n) (As := As) (rest := rest) ⟨hx, hb, hml, hown, hts⟩ hM ⟨callB_of n hts (r_goodc K) rfl rfl rfl (hts _ K.2.1) (hts _ w1) K.2.2 hR, hts _ w2, hts _ w3⟩ ⟨r_blind, va_recv hK.1 g1.2 hcl hv, fun U hU hW => ⟨rfl, by rw [hU]; exact hBH, by rw [hU]; exact g1, r_K.warm hW hK⟩⟩ rfl hn g3.1 rfl (lv_room h8) hdg ⟨hc1, hs1⟩) g2 ?_
  exact fun r σ' hq H1 locs1 k1 k2 => kk r σ' hq H1 locs1 la k1 k2 g3
theorem r_callS (C : r_C X w B nL cc own) (E : r_E X l t) {t2 : r_T} {index n : Nat} {As st : List Value} (K : r_Ky t2 n) (w1 : Cond.methodLink own index t2.1 ∈ kBig) (w2 : Cond.static t2.1 ∈ kBig) (hR : r_Rm t t2) (hM : r_M l w B t2 As σ Q2) (hn : As.length = n) (hst : st = As.reverse ++ rest) (h8 : (rest.map fun v => v.category).sum ≤ 8) (hc1 : cells + t2.2.2.2.2.cells ≤ t.2.2.2.2.cells) (hs1 : slots + t2.2.2.2.2.slots ≤ t.2.2.2.2.slots) (hdg : decode cc pc = .ok (.invokestatic index, 3))
    (kk : ∀ (r : Option Value) (σ' : r_S), Q2 r σ' → r_W X w B nL (cells + t2.2.2.2.2.cells) (slots + t2.2.2.2.2.slots) Q (pc + 3) lv (r.toList ++ rest) σ') : r_W X w B nL cells slots Q pc lv st σ := by
  obtain ⟨p, l', e, R, s, m, args, below, meth, c⟩ := X
  obtain ⟨⟨hx, hb, hml, hown, hts⟩, hK, hB⟩ := C
  obtain ⟨hle, hRe, -, -, -⟩ := E
  subst hle
  subst hRe
  subst hst
  intro H locs la g1 g2 g3
  have hBH : B < H.size := by rw [g1.1]; omega
  refine r_back (w := w) (Q2 := Q2) (va_runS (cc := cc) (nL := nL) (Ts := kBig) (own := own) (n := n) (As := As) (rest := rest) ⟨hx, hb, hml, hown, hts⟩ hM ⟨callB_of n hts (r_goodc K) rfl rfl rfl (hts _ K.2.1) (hts _ w1) K.2.2 hR, hts _ w2⟩ ⟨r_blind, fun U hU hW => ⟨rfl, by rw [hU]; exact hBH, by rw [hU]; exact g1, r_K.warm hW hK⟩⟩ rfl hn g3.1 rfl (lv_room h8) hdg ⟨hc1, hs1⟩) g2 ?_
  exact fun r σ' hq H1 locs1 k1 k2 => kk r σ' hq H1 locs1 la k1 k2 g3
theorem r_callI (C : r_C X w B nL cc own) (E : r_E X l t) {t2 : r_T} {a index n : Nat} {As st : List Value} (K : r_Ky t2 n) (hret : t2.2.2.2.1 = none) (hnm : t2.1.name = "<init>") (w1 : Cond.methodLink own index t2.1 ∈ kBig) (w2 : Cond.instanceMethod t2.1 ∈ kBig) (hR : r_Rm t t2) (hM : r_M l w B t2 (.ref (B + a) :: As) σ Q2) (hn : As.length = n) (hst : st = As.reverse ++ .ref (B + a) :: rest) (h8 : (rest.map fun v => v.category).sum ≤ 8) (hc1 : cells + t2.2.2.2.2.cells ≤ t.2.2.2.2.cells) (hs1 : slots + t2.2.2.2.2.slots ≤ t.2.2.2.2.slots) (hdg : decode cc pc = .ok (.invokespecial index, 3))
    (kk : ∀ (r : Option Value) (σ' : r_S), Q2 r σ' → r_W X w B nL (cells + t2.2.2.2.2.cells) (slots + t2.2.2.2.2.slots) Q (pc + 3) lv (r.toList ++ rest) σ') : r_W X w B nL cells slots Q pc lv st σ := by
  obtain ⟨p, l', e, R, s, m, args, below, meth, c⟩ := X
  obtain ⟨⟨hx, hb, hml, hown, hts⟩, hK, hB⟩ := C
  obtain ⟨hle, hRe, -, -, -⟩ := E
  obtain ⟨y, by2, mL, rt, rm⟩ := t2
  simp only at hret
  subst hret
  subst hle
  subst hRe
  subst hst
  intro H locs la g1 g2 g3
  have hBH : B < H.size := by rw [g1.1]; omega
  refine r_back (w := w) (Q2 := Q2) (va_runI (cc := cc) (nL := nL) (Ts := kBig) (own := own) (n := n) (b := B + a) (As := As) (rest := rest) ⟨hx, hb, hml, hown, hts⟩ hM ⟨callB_of n hts (r_goodc K) rfl rfl rfl (hts _ K.2.1) (hts _ w1) K.2.2 hR, hnm, hts _ w2⟩ ⟨r_blind, fun U hU hW => ⟨rfl, by rw [hU]; exact hBH, by rw [hU]; exact g1, r_K.warm hW hK⟩⟩ rfl hn g3.1 rfl (lv_room h8) hdg ⟨hc1, hs1⟩) g2 ?_
  exact fun r σ' hq H1 locs1 k1 k2 => kk r σ' hq H1 locs1 la k1 k2 g3
theorem r_callIN (C : r_C X w B nL cc own) (E : r_E X l t) {t2 : r_T} {a index n : Nat} {As st : List Value} {host : String} (K : r_Ky t2 n) (hret : t2.2.2.2.1 = none) (hnm : t2.1.name = "<init>") (w1 : ∀ U : State, r_N U → va_Nw (.methodLinkNest own index t2.1 host) U) (w2 : Cond.instanceMethod t2.1 ∈ kBig) (hR : r_Rm t t2) (hM : r_M l w B t2 (.ref (B + a) :: As) σ Q2) (hn : As.length = n) (hst : st = As.reverse ++ .ref (B + a) :: rest) (h8 : (rest.map fun v => v.category).sum ≤ 8) (hc1 : cells + t2.2.2.2.2.cells ≤ t.2.2.2.2.cells) (hs1 : slots + t2.2.2.2.2.slots ≤ t.2.2.2.2.slots) (hdg : decode cc pc = .ok (.invokespecial index, 3))
    (kk : ∀ (r : Option Value) (σ' : r_S), Q2 r σ' → r_W X w B nL (cells + t2.2.2.2.2.cells) (slots + t2.2.2.2.2.slots) Q (pc + 3) lv (r.toList ++ rest) σ') : r_W X w B nL cells slots Q pc lv st σ := by
  obtain ⟨p, l', e, R, s, m, args, below, meth, c⟩ := X
  obtain ⟨⟨hx, hb, hml, hown, hts⟩, hK, hB⟩ := C
  obtain ⟨hle, hRe, -, -, -⟩ := E
  obtain ⟨y, by2, mL, rt, rm⟩ := t2
  simp only at hret
  subst hret
  subst hle
  subst hRe
  subst hst
  intro H locs la g1 g2 g3
  have hBH : B < H.size := by rw [g1.1]; omega
  refine r_back (w := w) (Q2 := Q2) (va_runIN (cc := cc) (nL := nL) (Ts := kBig) (own := own) (n := n) (b := B + a) (As := As) (rest := rest) ⟨hx, hb, hml, hown, hts⟩ hM ⟨va_cnB n hts (r_goodc K) rfl rfl rfl (w1 s hK.2) (hts _ K.2.1) K.2.2 hR, hnm, hts _ w2⟩ ⟨r_blind, fun U hU hW => ⟨rfl, by rw [hU]; exact hBH, by rw [hU]; exact g1, r_K.warm hW hK⟩⟩ rfl hn g3.1 rfl (lv_room h8) hdg ⟨hc1, hs1⟩) g2 ?_
  exact fun r σ' hq H1 locs1 k1 k2 => kk r σ' hq H1 locs1 la k1 k2 g3
theorem r_objInit (C : r_C X w B nL cc own) (E : r_E X l t) {index a : Nat} (w1 : Cond.methodLink own index objectInit ∈ kBig) (w2 : Cond.instanceMethod objectInit ∈ kBig) (w3 : Cond.code objectInit ⟨#[0xb1]⟩ 1 none ∈ kBig) (hdg : decode cc pc = .ok (.invokespecial index, 3)) (hfr : 1 ≤ t.2.2.2.2.frames) (hlo : (rest.map fun v => v.category).sum + 12 ≤ t.2.2.2.2.locals) (kk : r_W X w B nL cells slots Q (pc + 3) lv rest σ) : r_W X w B nL cells slots Q pc lv (.ref (B + a) :: rest) σ := by
  obtain ⟨p, l', e, R, s, m, args, below, meth, c⟩ := X
  obtain ⟨⟨hx, hb, hml, hown, hts⟩, hK, hB⟩ := C
  obtain ⟨hle, hRe, -, -, -⟩ := E
  subst hRe
  intro H locs la g1 g2 g3
  exact W.objInit hx hb hown (hts _ w1) (hts _ w2) (hts _ w3) rfl (by rw [hml]; exact g3.1) rfl hdg hfr (by show 2 * 0 + _ + 12 ≤ _; omega) (kk H locs la g1 g2 g3)
end RWD
end
section
/-! reads by name; answers by kind; the rows that the walker lays -/
def r_gi (σ : r_S) (a k : Nat) : Int32 := σ.2.1 a k
def r_gl (σ : r_S) (a k : Nat) : Int64 := σ.2.2.1 a k
def r_gr (σ : r_S) (a k : Nat) : Nat := σ.2.2.2 a k
theorem gi_ui {σ : r_S} {a k a' k' : Nat} {x : Int32} : r_gi (r_ui σ a k x) a' k' = if a' = a ∧ k' = k then x else r_gi σ a' k' := rfl
theorem gi_ul {σ : r_S} {a k a' k' : Nat} {x : Int64} : r_gi (r_ul σ a k x) a' k' = r_gi σ a' k' := rfl
theorem gi_ur {σ : r_S} {a k a' k' : Nat} {x : Nat} : r_gi (r_ur σ a k x) a' k' = r_gi σ a' k' := rfl
theorem gl_ui {σ : r_S} {a k a' k' : Nat} {x : Int32} : r_gl (r_ui σ a k x) a' k' = r_gl σ a' k' := rfl
theorem gl_ul {σ : r_S} {a k a' k' : Nat} {x : Int64} : r_gl (r_ul σ a k x) a' k' = if a' = a ∧ k' = k then x else r_gl σ a' k' := rfl
theorem gl_ur {σ : r_S} {a k a' k' : Nat} {x : Nat} : r_gl (r_ur σ a k x) a' k' = r_gl σ a' k' := rfl
theorem gr_ui {σ : r_S} {a k a' k' : Nat} {x : Int32} : r_gr (r_ui σ a k x) a' k' = r_gr σ a' k' := rfl
theorem gr_ul {σ : r_S} {a k a' k' : Nat} {x : Int64} : r_gr (r_ul σ a k x) a' k' = r_gr σ a' k' := rfl
theorem gr_ur {σ : r_S} {a k a' k' : Nat} {x : Nat} : r_gr (r_ur σ a k x) a' k' = if a' = a ∧ k' = k then x else r_gr σ a' k' := rfl
theorem r_atT {σ σ' : r_S} {e : Nat} {sh : r_Sh} (h : σ'.1 = σ.1) (g : r_at σ e = some sh) : r_at σ' e = some sh := by
  unfold r_at at g ⊢
  rw [h]
  exact g
theorem r_atN {σ : r_S} {e : Nat} {sh : r_Sh} (g : r_at σ e = some sh) : e ≠ 0 := by
  obtain ⟨h, -⟩ := r_at_pos g
  omega
def r_QI (σ0 : r_S) (Q : Int32 → r_S → Prop) : Option Value → r_S → Prop := fun o σ' => σ'.1 = σ0.1 ∧ ∃ z : Int32, o = some (.int z) ∧ Q z σ'
def r_QL (σ0 : r_S) (Q : Int64 → r_S → Prop) : Option Value → r_S → Prop := fun o σ' => σ'.1 = σ0.1 ∧ ∃ z : Int64, o = some (.long z) ∧ Q z σ'
def r_QV (σ0 : r_S) (Q : r_S → Prop) : Option Value → r_S → Prop := fun o σ' => σ'.1 = σ0.1 ∧ o = none ∧ Q σ'
theorem lgc_lt {x y : Int64} : lg_cmp x y < 0 ↔ x < y := by
  unfold lg_cmp
  by_cases h1 : y < x
  · have h2 : ¬ x < y := fun h => by
      rw [Int64.lt_iff_toInt_lt] at h h1; omega
    simp [h1, h2]
  · by_cases h2 : x = y
    · subst h2
      simp [h1]
    · have h3 : x < y := by
        rw [Int64.lt_iff_toInt_lt] at h1 ⊢
        have h4 : x.toInt ≠ y.toInt := fun h => h2 (Int64.toInt_inj.mp h)
        omega
      simp [h1, h2, h3]
theorem lgc_gt {x y : Int64} : 0 < lg_cmp x y ↔ y < x := by
  unfold lg_cmp
  by_cases h1 : y < x
  · simp [h1]
  · by_cases h2 : x = y
    · subst h2
      simp [h1]
    · simp [h1, h2]
theorem lgc_eq {x y : Int64} : lg_cmp x y = 0 ↔ x = y := by
  unfold lg_cmp
  by_cases h1 : y < x
  · have h2 : ¬ x = y := fun h => by subst h; rw [Int64.lt_iff_toInt_lt] at h1; omega
    simp [h1, h2]
  · by_cases h2 : x = y
    · subst h2
      simp [h1]
    · simp [h1, h2]
theorem lgc_le {x y : Int64} : lg_cmp x y ≤ 0 ↔ x ≤ y := by
  have h1 : lg_cmp x y ≤ 0 ↔ ¬ 0 < lg_cmp x y := by rw [Int32.not_lt]
  rw [h1, lgc_gt, Int64.not_lt]
theorem lgc_ge {x y : Int64} : 0 ≤ lg_cmp x y ↔ y ≤ x := by
  have h1 : 0 ≤ lg_cmp x y ↔ ¬ lg_cmp x y < 0 := by rw [Int32.not_lt]
  rw [h1, lgc_lt, Int64.not_lt]
section RWE
variable {X : r_X} {w : r_V} {B nL cells slots : Nat} {Q : State → Prop} {cc : ByteArray} {own : String} {pc : Nat} {lv : List (Nat × Value)} {rest st : List Value} {σ : r_S} {l : Launch} {t : r_T}
theorem r_nam (k : ∀ σ' : r_S, σ' = σ → r_W X w B nL cells slots Q pc lv st σ') : r_W X w B nL cells slots Q pc lv st σ := k σ rfl
theorem r_topi {x : Int32} (k : ∀ y : Int32, y = x → r_W X w B nL cells slots Q pc lv (.int y :: rest) σ) : r_W X w B nL cells slots Q pc lv (.int x :: rest) σ := k x rfl
theorem r_topl {x : Int64} (k : ∀ y : Int64, y = x → r_W X w B nL cells slots Q pc lv (.long y :: rest) σ) : r_W X w B nL cells slots Q pc lv (.long x :: rest) σ := k x rfl
theorem r_topa {x : Nat} (k : ∀ y : Nat, y = x → r_W X w B nL cells slots Q pc lv (.ref (B + y) :: rest) σ) : r_W X w B nL cells slots Q pc lv (.ref (B + x) :: rest) σ := k x rfl
theorem r_putI (C : r_C X w B nL cc own) {a ci k index : Nat} {x : Int32} (hat : r_at σ a = some (.inl ci)) (F : r_Fa own index ci k false) (hI : r_isI (kTf ci k) = true) (hn : narrow (kTf ci k) (.int x) = .int x) (hf : fits (kTf ci k) (.int x) = true) (hdg : decode cc pc = .ok (.putfield index, 3)) (kk : r_W X w B nL cells slots Q (pc + 3) lv rest (r_ui σ a k x)) : r_W X w B nL cells slots Q pc lv (.int x :: .ref (B + a) :: rest) σ :=
  r_put C hat F (σ' := r_ui σ a k x) (by rw [r_fv_I hI]; simp [r_ui]) hn hf rfl (fun a' k' h => ⟨by simp [r_ui, h], rfl, rfl⟩) hdg kk
theorem r_putL (C : r_C X w B nL cc own) {a ci k index : Nat} {x : Int64} (hat : r_at σ a = some (.inl ci)) (F : r_Fa own index ci k false) (hI : kTf ci k = .long) (hdg : decode cc pc = .ok (.putfield index, 3)) (kk : r_W X w B nL cells slots Q (pc + 3) lv rest (r_ul σ a k x)) : r_W X w B nL cells slots Q pc lv (.long x :: .ref (B + a) :: rest) σ :=
  r_put C hat F (σ' := r_ul σ a k x) (by rw [hI]; simp [r_fv, r_ul]) (by rw [hI]; rfl) (by rw [hI]; rfl) rfl (fun a' k' h => ⟨rfl, by simp [r_ul, h], rfl⟩) hdg kk
theorem r_putR (C : r_C X w B nL cc own) {a ci k index r : Nat} (hat : r_at σ a = some (.inl ci)) (F : r_Fa own index ci k false) (hI : r_isR (kTf ci k) = true) (hr : r ≠ 0) (hdg : decode cc pc = .ok (.putfield index, 3)) (kk : r_W X w B nL cells slots Q (pc + 3) lv rest (r_ur σ a k r)) : r_W X w B nL cells slots Q pc lv (.ref (B + r) :: .ref (B + a) :: rest) σ :=
  r_put C hat F (σ' := r_ur σ a k r) (by rw [r_fv_R hI, ← r_rf_ne hr]; simp [r_ur]) (by cases hk : kTf ci k <;> first | (rw [hk] at hI; cases hI; done) | rfl) (by cases hk : kTf ci k <;> first | (rw [hk] at hI; cases hI; done) | rfl) rfl (fun a' k' h => ⟨rfl, rfl, by simp [r_ur, h]⟩) hdg kk
theorem r_iretQ {σ0 : r_S} {Qr : Int32 → r_S → Prop} (C : r_C X w B nL cc own) (E : r_E X l t) {v : Int32} (hr : t.2.2.2.1 = some .int) (hc : cells ≤ t.2.2.2.2.cells) (hs : slots ≤ t.2.2.2.2.slots) (hdg : decode cc pc = .ok (.ireturn, 1)) (h0 : σ.1 = σ0.1) (hq : Qr v σ) : r_W X w B nL cells slots (r_Z X w B t (r_QI σ0 Qr)) pc lv [.int v] σ := r_iret C E hr hc hs hdg ⟨h0, v, rfl, hq⟩
theorem r_zretQ {σ0 : r_S} {Qr : Int32 → r_S → Prop} (C : r_C X w B nL cc own) (E : r_E X l t) {v : Int32} (hr : t.2.2.2.1 = some .boolean) (h01 : v = 0 ∨ v = 1) (hc : cells ≤ t.2.2.2.2.cells) (hs : slots ≤ t.2.2.2.2.slots) (hdg : decode cc pc = .ok (.ireturn, 1)) (h0 : σ.1 = σ0.1) (hq : Qr v σ) : r_W X w B nL cells slots (r_Z X w B t (r_QI σ0 Qr)) pc lv [.int v] σ := r_zret C E hr (by rcases h01 with rfl | rfl <;> rfl) hc hs hdg ⟨h0, v, rfl, hq⟩
theorem r_lretQ {σ0 : r_S} {Qr : Int64 → r_S → Prop} (C : r_C X w B nL cc own) (E : r_E X l t) {v : Int64} (hr : t.2.2.2.1 = some .long) (hc : cells ≤ t.2.2.2.2.cells) (hs : slots ≤ t.2.2.2.2.slots) (hdg : decode cc pc = .ok (.lreturn, 1)) (h0 : σ.1 = σ0.1) (hq : Qr v σ) : r_W X w B nL cells slots (r_Z X w B t (r_QL σ0 Qr)) pc lv [.long v] σ := r_lret C E hr hc hs hdg ⟨h0, v, rfl, hq⟩
theorem r_vretQ {σ0 : r_S} {Qr : r_S → Prop} (C : r_C X w B nL cc own) (E : r_E X l t) (hr : t.2.2.2.1 = none) (hc : cells ≤ t.2.2.2.2.cells) (hs : slots ≤ t.2.2.2.2.slots) (hdg : decode cc pc = .ok (.return_, 1)) (h0 : σ.1 = σ0.1) (hq : Qr σ) : r_W X w B nL cells slots (r_Z X w B t (r_QV σ0 Qr)) pc lv [] σ := r_vret C E hr hc hs hdg ⟨h0, rfl, hq⟩
theorem r_callVI {Qr : Int32 → r_S → Prop} (C : r_C X w B nL cc own) (E : r_E X l t) {t2 : r_T} {a ci index n : Nat} (As : List Value) {T : u_T} {N : Nat} (hat : r_at σ a = some (.inl ci)) (hcl : kCl[ci]? = some (t2.1.cls, T, N)) (K : r_Ky t2 n) (w1 : Cond.methodLink own index t2.1 ∈ kBig) (w2 : Cond.instanceMethod t2.1 ∈ kBig) (w3 : Cond.selects t2.1.cls t2.1 t2.1 ∈ kBig) (hR : r_Rm t t2) (hz : t2.2.2.2.2.cells = 0 ∧ t2.2.2.2.2.slots = 0) (hM : r_M l w B t2 (.ref (B + a) :: As) σ (r_QI σ Qr)) (hn : As.length = n) (hst : st = As.reverse ++ .ref (B + a) :: rest) (h8 : (rest.map fun v => v.category).sum ≤ 8) (hc1 : cells ≤ t.2.2.2.2.cells) (hs1 : slots ≤ t.2.2.2.2.slots) (hdg : decode cc pc = .ok (.invokevirtual index, 3))
    (kk : ∀ (z : Int32) (σ' : r_S), σ'.1 = σ.1 → Qr z σ' → r_W X w B nL cells slots Q (pc + 3) lv (.int z :: rest) σ') : r_W X w B nL cells slots Q pc lv st σ := by
  refine r_callV C E hat hcl K w1 w2 w3 hR hM hn hst h8 (by rw [hz.1]; exact hc1) (by rw [hz.2]; exact hs1) hdg (fun r σ' hq => ?_)
  obtain ⟨h1, z, rfl, hq⟩ := hq
  rw [hz.1, hz.2]
  exact kk z σ' h1 hq
theorem r_callVL {Qr : Int64 → r_S → Prop} (C : r_C X w B nL cc own) (E : r_E X l t) {t2 : r_T} {a ci index n : Nat} (As : List Value) {T : u_T} {N : Nat} (hat : r_at σ a = some (.inl ci)) (hcl : kCl[ci]? = some (t2.1.cls, T, N)) (K : r_Ky t2 n) (w1 : Cond.methodLink own index t2.1 ∈ kBig) (w2 : Cond.instanceMethod t2.1 ∈ kBig) (w3 : Cond.selects t2.1.cls t2.1 t2.1 ∈ kBig) (hR : r_Rm t t2) (hz : t2.2.2.2.2.cells = 0 ∧ t2.2.2.2.2.slots = 0) (hM : r_M l w B t2 (.ref (B + a) :: As) σ (r_QL σ Qr)) (hn : As.length = n) (hst : st = As.reverse ++ .ref (B + a) :: rest) (h8 : (rest.map fun v => v.category).sum ≤ 8) (hc1 : cells ≤ t.2.2.2.2.cells) (hs1 : slots ≤ t.2.2.2.2.slots) (hdg : decode cc pc = .ok (.invokevirtual index, 3))
    (kk : ∀ (z : Int64) (σ' : r_S), σ'.1 = σ.1 → Qr z σ' → r_W X w B nL cells slots Q (pc + 3) lv (.long z :: rest) σ') : r_W X w B nL cells slots Q pc lv st σ := by
  refine r_callV C E hat hcl K w1 w2 w3 hR hM hn hst h8 (by rw [hz.1]; exact hc1) (by rw [hz.2]; exact hs1) hdg (fun r σ' hq => ?_)
  obtain ⟨h1, z, rfl, hq⟩ := hq
  rw [hz.1, hz.2]
  exact kk z σ' h1 hq
theorem r_callVV {Qr : r_S → Prop} (C : r_C X w B nL cc own) (E : r_E X l t) {t2 : r_T} {a ci index n : Nat} (As : List Value) {T : u_T} {N : Nat} (hat : r_at σ a = some (.inl ci)) (hcl : kCl[ci]? = some (t2.1.cls, T, N)) (K : r_Ky t2 n) (w1 : Cond.methodLink own index t2.1 ∈ kBig) (w2 : Cond.instanceMethod t2.1 ∈ kBig) (w3 : Cond.selects t2.1.cls t2.1 t2.1 ∈ kBig) (hR : r_Rm t t2) (hz : t2.2.2.2.2.cells = 0 ∧ t2.2.2.2.2.slots = 0) (hM : r_M l w B t2 (.ref (B + a) :: As) σ (r_QV σ Qr)) (hn : As.length = n) (hst : st = As.reverse ++ .ref (B + a) :: rest) (h8 : (rest.map fun v => v.category).sum ≤ 8) (hc1 : cells ≤ t.2.2.2.2.cells) (hs1 : slots ≤ t.2.2.2.2.slots) (hdg : decode cc pc = .ok (.invokevirtual index, 3))
    (kk : ∀ (σ' : r_S), σ'.1 = σ.1 → Qr σ' → r_W X w B nL cells slots Q (pc + 3) lv rest σ') : r_W X w B nL cells slots Q pc lv st σ := by
  refine r_callV C E hat hcl K w1 w2 w3 hR hM hn hst h8 (by rw [hz.1]; exact hc1) (by rw [hz.2]; exact hs1) hdg (fun r σ' hq => ?_)
  obtain ⟨h1, rfl, hq⟩ := hq
  rw [hz.1, hz.2]
  exact kk σ' h1 hq
theorem r_callSI {Qr : Int32 → r_S → Prop} (C : r_C X w B nL cc own) (E : r_E X l t) {t2 : r_T} {index n : Nat} (As : List Value) (K : r_Ky t2 n) (w1 : Cond.methodLink own index t2.1 ∈ kBig) (w2 : Cond.static t2.1 ∈ kBig) (hR : r_Rm t t2) (hz : t2.2.2.2.2.cells = 0 ∧ t2.2.2.2.2.slots = 0) (hM : r_M l w B t2 As σ (r_QI σ Qr)) (hn : As.length = n) (hst : st = As.reverse ++ rest) (h8 : (rest.map fun v => v.category).sum ≤ 8) (hc1 : cells ≤ t.2.2.2.2.cells) (hs1 : slots ≤ t.2.2.2.2.slots) (hdg : decode cc pc = .ok (.invokestatic index, 3))
    (kk : ∀ (z : Int32) (σ' : r_S), σ'.1 = σ.1 → Qr z σ' → r_W X w B nL cells slots Q (pc + 3) lv (.int z :: rest) σ') : r_W X w B nL cells slots Q pc lv st σ := by
  refine r_callS C E K w1 w2 hR hM hn hst h8 (by rw [hz.1]; exact hc1) (by rw [hz.2]; exact hs1) hdg (fun r σ' hq => ?_)
  obtain ⟨h1, z, rfl, hq⟩ := hq
  rw [hz.1, hz.2]
  exact kk z σ' h1 hq
theorem r_callSL {Qr : Int64 → r_S → Prop} (C : r_C X w B nL cc own) (E : r_E X l t) {t2 : r_T} {index n : Nat} (As : List Value) (K : r_Ky t2 n) (w1 : Cond.methodLink own index t2.1 ∈ kBig) (w2 : Cond.static t2.1 ∈ kBig) (hR : r_Rm t t2) (hz : t2.2.2.2.2.cells = 0 ∧ t2.2.2.2.2.slots = 0) (hM : r_M l w B t2 As σ (r_QL σ Qr)) (hn : As.length = n) (hst : st = As.reverse ++ rest) (h8 : (rest.map fun v => v.category).sum ≤ 8) (hc1 : cells ≤ t.2.2.2.2.cells) (hs1 : slots ≤ t.2.2.2.2.slots) (hdg : decode cc pc = .ok (.invokestatic index, 3))
    (kk : ∀ (z : Int64) (σ' : r_S), σ'.1 = σ.1 → Qr z σ' → r_W X w B nL cells slots Q (pc + 3) lv (.long z :: rest) σ') : r_W X w B nL cells slots Q pc lv st σ := by
  refine r_callS C E K w1 w2 hR hM hn hst h8 (by rw [hz.1]; exact hc1) (by rw [hz.2]; exact hs1) hdg (fun r σ' hq => ?_)
  obtain ⟨h1, z, rfl, hq⟩ := hq
  rw [hz.1, hz.2]
  exact kk z σ' h1 hq
theorem r_callSV {Qr : r_S → Prop} (C : r_C X w B nL cc own) (E : r_E X l t) {t2 : r_T} {index n : Nat} (As : List Value) (K : r_Ky t2 n) (w1 : Cond.methodLink own index t2.1 ∈ kBig) (w2 : Cond.static t2.1 ∈ kBig) (hR : r_Rm t t2) (hz : t2.2.2.2.2.cells = 0 ∧ t2.2.2.2.2.slots = 0) (hM : r_M l w B t2 As σ (r_QV σ Qr)) (hn : As.length = n) (hst : st = As.reverse ++ rest) (h8 : (rest.map fun v => v.category).sum ≤ 8) (hc1 : cells ≤ t.2.2.2.2.cells) (hs1 : slots ≤ t.2.2.2.2.slots) (hdg : decode cc pc = .ok (.invokestatic index, 3))
    (kk : ∀ (σ' : r_S), σ'.1 = σ.1 → Qr σ' → r_W X w B nL cells slots Q (pc + 3) lv rest σ') : r_W X w B nL cells slots Q pc lv st σ := by
  refine r_callS C E K w1 w2 hR hM hn hst h8 (by rw [hz.1]; exact hc1) (by rw [hz.2]; exact hs1) hdg (fun r σ' hq => ?_)
  obtain ⟨h1, rfl, hq⟩ := hq
  rw [hz.1, hz.2]
  exact kk σ' h1 hq
end RWE
end
