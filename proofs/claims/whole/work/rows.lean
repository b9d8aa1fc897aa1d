section
-- ===== PART A: goes FIRST, ahead of the names: the tables' words, and 'selects' of the private methods out of them =====
/-- a private method of a class that the tables say can be made, by its rows of tables_1 -/
def lw_okq (q : MethodName × Nat) : Prop := (q.1.cls ≠ "java/lang/invoke/MethodHandle" ∧ q.1.cls ≠ "java/lang/invoke/VarHandle") ∧ Cond.instantiable q.1.cls q.2 ∈ tables_1 ∧ Cond.privateMethod q.1 ∈ tables_1 ∧ Cond.instanceMethod q.1 ∈ tables_1
theorem lw_p0 : lw_okq (⟨"FrameClocks", "isFrame", "(I)Z"⟩, 7) := ⟨⟨by decide +kernel, by decide +kernel⟩, List.mem_of_getElem? (i := 15) (by decide +kernel), List.mem_of_getElem? (i := 295) (by decide +kernel), List.mem_of_getElem? (i := 296) (by decide +kernel)⟩
theorem lw_p1 : lw_okq (⟨"FrameClocks$Reader", "adapt", "(I)V"⟩, 13) := ⟨⟨by decide +kernel, by decide +kernel⟩, List.mem_of_getElem? (i := 58) (by decide +kernel), List.mem_of_getElem? (i := 393) (by decide +kernel), List.mem_of_getElem? (i := 394) (by decide +kernel)⟩
theorem lw_p2 : lw_okq (⟨"FrameClocks$Reader", "tell", "(J)I"⟩, 13) := ⟨⟨by decide +kernel, by decide +kernel⟩, List.mem_of_getElem? (i := 58) (by decide +kernel), List.mem_of_getElem? (i := 400) (by decide +kernel), List.mem_of_getElem? (i := 401) (by decide +kernel)⟩
theorem lw_p3 : lw_okq (⟨"FrameClocks$Reader", "letGo", "()V"⟩, 13) := ⟨⟨by decide +kernel, by decide +kernel⟩, List.mem_of_getElem? (i := 58) (by decide +kernel), List.mem_of_getElem? (i := 416) (by decide +kernel), List.mem_of_getElem? (i := 417) (by decide +kernel)⟩
theorem lw_p4 : lw_okq (⟨"FrameClocks$Reader", "follow", "(III)V"⟩, 13) := ⟨⟨by decide +kernel, by decide +kernel⟩, List.mem_of_getElem? (i := 58) (by decide +kernel), List.mem_of_getElem? (i := 425) (by decide +kernel), List.mem_of_getElem? (i := 426) (by decide +kernel)⟩
theorem lw_p5 : lw_okq (⟨"FrameClocks", "agrees", "(I)Z"⟩, 7) := ⟨⟨by decide +kernel, by decide +kernel⟩, List.mem_of_getElem? (i := 15) (by decide +kernel), List.mem_of_getElem? (i := 556) (by decide +kernel), List.mem_of_getElem? (i := 557) (by decide +kernel)⟩
theorem lw_p6 : lw_okq (⟨"FrameClocksModel", "isFrame", "(I)Z"⟩, 9) := ⟨⟨by decide +kernel, by decide +kernel⟩, List.mem_of_getElem? (i := 573) (by decide +kernel), List.mem_of_getElem? (i := 612) (by decide +kernel), List.mem_of_getElem? (i := 613) (by decide +kernel)⟩
theorem lw_p7 : lw_okq (⟨"FrameClocksModel", "day", "()I"⟩, 9) := ⟨⟨by decide +kernel, by decide +kernel⟩, List.mem_of_getElem? (i := 573) (by decide +kernel), List.mem_of_getElem? (i := 616) (by decide +kernel), List.mem_of_getElem? (i := 617) (by decide +kernel)⟩
theorem lw_p8 : lw_okq (⟨"FrameClocksModel", "notes", "()V"⟩, 9) := ⟨⟨by decide +kernel, by decide +kernel⟩, List.mem_of_getElem? (i := 573) (by decide +kernel), List.mem_of_getElem? (i := 654) (by decide +kernel), List.mem_of_getElem? (i := 655) (by decide +kernel)⟩
theorem lw_p9 : lw_okq (⟨"FrameClocksModel", "around", "(I)I"⟩, 9) := ⟨⟨by decide +kernel, by decide +kernel⟩, List.mem_of_getElem? (i := 573) (by decide +kernel), List.mem_of_getElem? (i := 658) (by decide +kernel), List.mem_of_getElem? (i := 659) (by decide +kernel)⟩
theorem lw_p10 : lw_okq (⟨"FrameClocksModel", "tape", "()I"⟩, 9) := ⟨⟨by decide +kernel, by decide +kernel⟩, List.mem_of_getElem? (i := 573) (by decide +kernel), List.mem_of_getElem? (i := 670) (by decide +kernel), List.mem_of_getElem? (i := 671) (by decide +kernel)⟩
theorem lw_p11 : lw_okq (⟨"FrameClocksModel", "bitAt", "(I)I"⟩, 9) := ⟨⟨by decide +kernel, by decide +kernel⟩, List.mem_of_getElem? (i := 573) (by decide +kernel), List.mem_of_getElem? (i := 678) (by decide +kernel), List.mem_of_getElem? (i := 679) (by decide +kernel)⟩
theorem lw_p12 : lw_okq (⟨"FrameClocksModel", "wordOf", "(II)I"⟩, 9) := ⟨⟨by decide +kernel, by decide +kernel⟩, List.mem_of_getElem? (i := 573) (by decide +kernel), List.mem_of_getElem? (i := 682) (by decide +kernel), List.mem_of_getElem? (i := 683) (by decide +kernel)⟩
theorem lw_p13 : lw_okq (⟨"FrameClocksModel", "comes", "(I)V"⟩, 9) := ⟨⟨by decide +kernel, by decide +kernel⟩, List.mem_of_getElem? (i := 573) (by decide +kernel), List.mem_of_getElem? (i := 701) (by decide +kernel), List.mem_of_getElem? (i := 702) (by decide +kernel)⟩
theorem lw_p14 : lw_okq (⟨"FrameClocksModel", "cell", "(I)V"⟩, 9) := ⟨⟨by decide +kernel, by decide +kernel⟩, List.mem_of_getElem? (i := 573) (by decide +kernel), List.mem_of_getElem? (i := 705) (by decide +kernel), List.mem_of_getElem? (i := 706) (by decide +kernel)⟩
theorem lw_p15 : lw_okq (⟨"FrameClocksModel", "tells", "(I)V"⟩, 9) := ⟨⟨by decide +kernel, by decide +kernel⟩, List.mem_of_getElem? (i := 573) (by decide +kernel), List.mem_of_getElem? (i := 709) (by decide +kernel), List.mem_of_getElem? (i := 710) (by decide +kernel)⟩
def lw_privs_1 : List (MethodName × Nat) := [(⟨"FrameClocks", "isFrame", "(I)Z"⟩, 7), (⟨"FrameClocks$Reader", "adapt", "(I)V"⟩, 13), (⟨"FrameClocks$Reader", "tell", "(J)I"⟩, 13), (⟨"FrameClocks$Reader", "letGo", "()V"⟩, 13), (⟨"FrameClocks$Reader", "follow", "(III)V"⟩, 13), (⟨"FrameClocks", "agrees", "(I)Z"⟩, 7), (⟨"FrameClocksModel", "isFrame", "(I)Z"⟩, 9), (⟨"FrameClocksModel", "day", "()I"⟩, 9), (⟨"FrameClocksModel", "notes", "()V"⟩, 9), (⟨"FrameClocksModel", "around", "(I)I"⟩, 9), (⟨"FrameClocksModel", "tape", "()I"⟩, 9), (⟨"FrameClocksModel", "bitAt", "(I)I"⟩, 9), (⟨"FrameClocksModel", "wordOf", "(II)I"⟩, 9), (⟨"FrameClocksModel", "comes", "(I)V"⟩, 9), (⟨"FrameClocksModel", "cell", "(I)V"⟩, 9), (⟨"FrameClocksModel", "tells", "(I)V"⟩, 9)]
theorem lw_r1 : ∀ q ∈ lw_privs_1, lw_okq q := List.forall_mem_cons.mpr ⟨lw_p0, List.forall_mem_cons.mpr ⟨lw_p1, List.forall_mem_cons.mpr ⟨lw_p2, List.forall_mem_cons.mpr ⟨lw_p3, List.forall_mem_cons.mpr ⟨lw_p4, List.forall_mem_cons.mpr ⟨lw_p5, List.forall_mem_cons.mpr ⟨lw_p6, List.forall_mem_cons.mpr ⟨lw_p7, List.forall_mem_cons.mpr ⟨lw_p8, List.forall_mem_cons.mpr ⟨lw_p9, List.forall_mem_cons.mpr ⟨lw_p10, List.forall_mem_cons.mpr ⟨lw_p11, List.forall_mem_cons.mpr ⟨lw_p12, List.forall_mem_cons.mpr ⟨lw_p13, List.forall_mem_cons.mpr ⟨lw_p14, List.forall_mem_cons.mpr ⟨lw_p15, fun _ h => absurd h List.not_mem_nil⟩⟩⟩⟩⟩⟩⟩⟩⟩⟩⟩⟩⟩⟩⟩⟩
theorem lw_p16 : lw_okq (⟨"FrameClocksModel", "isSync", "(IZ)Z"⟩, 9) := ⟨⟨by decide +kernel, by decide +kernel⟩, List.mem_of_getElem? (i := 573) (by decide +kernel), List.mem_of_getElem? (i := 713) (by decide +kernel), List.mem_of_getElem? (i := 714) (by decide +kernel)⟩
theorem lw_p17 : lw_okq (⟨"FrameClocksModel", "finds", "(II)V"⟩, 9) := ⟨⟨by decide +kernel, by decide +kernel⟩, List.mem_of_getElem? (i := 573) (by decide +kernel), List.mem_of_getElem? (i := 717) (by decide +kernel), List.mem_of_getElem? (i := 718) (by decide +kernel)⟩
theorem lw_p18 : lw_okq (⟨"FrameClocksModel", "isLocked", "()Z"⟩, 9) := ⟨⟨by decide +kernel, by decide +kernel⟩, List.mem_of_getElem? (i := 573) (by decide +kernel), List.mem_of_getElem? (i := 748) (by decide +kernel), List.mem_of_getElem? (i := 749) (by decide +kernel)⟩
theorem lw_p19 : lw_okq (⟨"FrameClocksModel", "steps", "(I)V"⟩, 9) := ⟨⟨by decide +kernel, by decide +kernel⟩, List.mem_of_getElem? (i := 573) (by decide +kernel), List.mem_of_getElem? (i := 773) (by decide +kernel), List.mem_of_getElem? (i := 774) (by decide +kernel)⟩
theorem lw_p20 : lw_okq (⟨"FrameClocksModel", "wayOf", "(I)I"⟩, 9) := ⟨⟨by decide +kernel, by decide +kernel⟩, List.mem_of_getElem? (i := 573) (by decide +kernel), List.mem_of_getElem? (i := 777) (by decide +kernel), List.mem_of_getElem? (i := 778) (by decide +kernel)⟩
theorem lw_p21 : lw_okq (⟨"FrameClocksModel", "isThere", "(I)Z"⟩, 9) := ⟨⟨by decide +kernel, by decide +kernel⟩, List.mem_of_getElem? (i := 573) (by decide +kernel), List.mem_of_getElem? (i := 792) (by decide +kernel), List.mem_of_getElem? (i := 793) (by decide +kernel)⟩
def lw_privs_2 : List (MethodName × Nat) := [(⟨"FrameClocksModel", "isSync", "(IZ)Z"⟩, 9), (⟨"FrameClocksModel", "finds", "(II)V"⟩, 9), (⟨"FrameClocksModel", "isLocked", "()Z"⟩, 9), (⟨"FrameClocksModel", "steps", "(I)V"⟩, 9), (⟨"FrameClocksModel", "wayOf", "(I)I"⟩, 9), (⟨"FrameClocksModel", "isThere", "(I)Z"⟩, 9)]
theorem lw_r2 : ∀ q ∈ lw_privs_2, lw_okq q := List.forall_mem_cons.mpr ⟨lw_p16, List.forall_mem_cons.mpr ⟨lw_p17, List.forall_mem_cons.mpr ⟨lw_p18, List.forall_mem_cons.mpr ⟨lw_p19, List.forall_mem_cons.mpr ⟨lw_p20, List.forall_mem_cons.mpr ⟨lw_p21, fun _ h => absurd h List.not_mem_nil⟩⟩⟩⟩⟩⟩
def lw_privs : List (MethodName × Nat) := lw_privs_1 ++ (lw_privs_2)
def lw_tbl : List Cond := k2_sels lw_privs ++ tables_1
theorem lw_privs_ok : ∀ q ∈ lw_privs, lw_okq q := by
  show ∀ q ∈ lw_privs_1 ++ (lw_privs_2), lw_okq q
  exact List.forall_mem_append.mpr ⟨lw_r1, lw_r2⟩
end
section
def RX0 : String := "FrameClocks$Chaser"
def TX0 : u_T := fun k => match k with
  | 0 => ("FrameClocks$Chaser", "place", "I", false)
  | 1 => ("FrameClocks$Chaser", "speed", "I", false)
  | _ => ("FrameClocks$Chaser", "offset", "I", false)
def tyX0 : Nat → FieldType := fun k => match k with
  | 0 => .int
  | 1 => .int
  | _ => .int
theorem nmX0 : ∀ a, a < 3 → ∀ b, b < 3 → a ≠ b → (TX0 a).2.1 ≠ (TX0 b).2.1 := by decide +kernel
theorem tyX0_ok : ∀ k, k < 3 → parseFieldDescriptor (TX0 k).2.2.1 = some (tyX0 k) := by decide +kernel
abbrev cX0_init : ByteArray := prog_2_method_1_code
def yX0_init : MethodName := ⟨RX0, "<init>", "()V"⟩
abbrev cX0_wayTo : ByteArray := prog_2_method_2_code
def yX0_wayTo : MethodName := ⟨RX0, "wayTo", "(II)I"⟩
abbrev cX0_isAt : ByteArray := prog_2_method_3_code
def yX0_isAt : MethodName := ⟨RX0, "isAt", "(II)Z"⟩
abbrev cX0_step : ByteArray := prog_2_method_4_code
def yX0_step : MethodName := ⟨RX0, "step", "(II)V"⟩
abbrev cX0_wantedFor : ByteArray := prog_2_method_5_code
def yX0_wantedFor : MethodName := ⟨RX0, "wantedFor", "(I)I"⟩
abbrev cX0_copy : ByteArray := prog_2_method_6_code
def yX0_copy : MethodName := ⟨RX0, "copy", "(LFrameClocks$Chaser;)V"⟩
def RX1 : String := "FrameClocks$History"
def TX1 : u_T := fun k => match k with
  | 0 => ("FrameClocks$History", "ring", "[LFrameClocks$State;", true)
  | 1 => ("FrameClocks$History", "next", "I", false)
  | _ => ("FrameClocks$History", "known", "I", false)
def tyX1 : Nat → FieldType := fun k => match k with
  | 0 => .array (.object "FrameClocks$State")
  | 1 => .int
  | _ => .int
theorem nmX1 : ∀ a, a < 3 → ∀ b, b < 3 → a ≠ b → (TX1 a).2.1 ≠ (TX1 b).2.1 := by decide +kernel
theorem tyX1_ok : ∀ k, k < 3 → parseFieldDescriptor (TX1 k).2.2.1 = some (tyX1 k) := by decide +kernel
abbrev cX1_init : ByteArray := prog_3_method_1_code
def yX1_init : MethodName := ⟨RX1, "<init>", "()V"⟩
abbrev cX1_add : ByteArray := prog_3_method_2_code
def yX1_add : MethodName := ⟨RX1, "add", "(LFrameClocks$State;)V"⟩
abbrev cX1_takeBack : ByteArray := prog_3_method_3_code
def yX1_takeBack : MethodName := ⟨RX1, "takeBack", "(LFrameClocks$State;)Z"⟩
def RX2 : String := "FrameClocks$Rates"
def TX2 : u_T := fun k => match k with
  | _ => ("", "", "", false)
def tyX2 : Nat → FieldType := fun k => match k with
  | _ => .int
theorem nmX2 : ∀ a, a < 0 → ∀ b, b < 0 → a ≠ b → (TX2 a).2.1 ≠ (TX2 b).2.1 := by decide +kernel
theorem tyX2_ok : ∀ k, k < 0 → parseFieldDescriptor (TX2 k).2.2.1 = some (tyX2 k) := by decide +kernel
abbrev cX2_framesASecond : ByteArray := prog_4_method_2_code
def yX2_framesASecond : MethodName := ⟨RX2, "framesASecond", "(I)I"⟩
abbrev cX2_dayOf : ByteArray := prog_4_method_3_code
def yX2_dayOf : MethodName := ⟨RX2, "dayOf", "(I)I"⟩
abbrev cX2_leftOutInDay : ByteArray := prog_4_method_4_code
def yX2_leftOutInDay : MethodName := ⟨RX2, "leftOutInDay", "(I)I"⟩
abbrev cX2_leftOutUpTo : ByteArray := prog_4_method_5_code
def yX2_leftOutUpTo : MethodName := ⟨RX2, "leftOutUpTo", "(II)I"⟩
abbrev cX2_numberOf : ByteArray := prog_4_method_6_code
def yX2_numberOf : MethodName := ⟨RX2, "numberOf", "(II)I"⟩
abbrev cX2_frameOf : ByteArray := prog_4_method_7_code
def yX2_frameOf : MethodName := ⟨RX2, "frameOf", "(II)I"⟩
def RX3 : String := "FrameClocks$Reader"
def TX3 : u_T := fun k => match k with
  | 0 => ("FrameClocks$Reader", "cell", "I", false)
  | 1 => ("FrameClocks$Reader", "waits", "I", false)
  | 2 => ("FrameClocks$Reader", "bits", "J", false)
  | 3 => ("FrameClocks$Reader", "held", "I", false)
  | 4 => ("FrameClocks$Reader", "readings", "I", false)
  | 5 => ("FrameClocks$Reader", "broken", "I", false)
  | 6 => ("FrameClocks$Reader", "errors", "I", false)
  | 7 => ("FrameClocks$Reader", "jumps", "I", false)
  | 8 => ("FrameClocks$Reader", "streak", "I", false)
  | 9 => ("FrameClocks$Reader", "frame", "I", false)
  | 10 => ("FrameClocks$Reader", "number", "I", false)
  | 11 => ("FrameClocks$Reader", "user", "I", false)
  | _ => ("FrameClocks$Reader", "course", "I", false)
def tyX3 : Nat → FieldType := fun k => match k with
  | 0 => .int
  | 1 => .int
  | 2 => .long
  | 3 => .int
  | 4 => .int
  | 5 => .int
  | 6 => .int
  | 7 => .int
  | 8 => .int
  | 9 => .int
  | 10 => .int
  | 11 => .int
  | _ => .int
theorem nmX3 : ∀ a, a < 13 → ∀ b, b < 13 → a ≠ b → (TX3 a).2.1 ≠ (TX3 b).2.1 := by decide +kernel
theorem tyX3_ok : ∀ k, k < 13 → parseFieldDescriptor (TX3 k).2.2.1 = some (tyX3 k) := by decide +kernel
abbrev cX3_init : ByteArray := prog_5_method_1_code
def yX3_init : MethodName := ⟨RX3, "<init>", "()V"⟩
abbrev cX3_isLocked : ByteArray := prog_5_method_2_code
def yX3_isLocked : MethodName := ⟨RX3, "isLocked", "()Z"⟩
abbrev cX3_hasRead : ByteArray := prog_5_method_3_code
def yX3_hasRead : MethodName := ⟨RX3, "hasRead", "()Z"⟩
abbrev cX3_take : ByteArray := prog_5_method_4_code
def yX3_take : MethodName := ⟨RX3, "take", "(I)I"⟩
abbrev cX3_adapt : ByteArray := prog_5_method_5_code
def yX3_adapt : MethodName := ⟨RX3, "adapt", "(I)V"⟩
abbrev cX3_tell : ByteArray := prog_5_method_6_code
def yX3_tell : MethodName := ⟨RX3, "tell", "(J)I"⟩
abbrev cX3_accept : ByteArray := prog_5_method_7_code
def yX3_accept : MethodName := ⟨RX3, "accept", "(II)Z"⟩
abbrev cX3_follow : ByteArray := prog_5_method_8_code
def yX3_follow : MethodName := ⟨RX3, "follow", "(III)V"⟩
abbrev cX3_letGo : ByteArray := prog_5_method_9_code
def yX3_letGo : MethodName := ⟨RX3, "letGo", "()V"⟩
abbrev cX3_startAnew : ByteArray := prog_5_method_10_code
def yX3_startAnew : MethodName := ⟨RX3, "startAnew", "()V"⟩
abbrev cX3_copy : ByteArray := prog_5_method_11_code
def yX3_copy : MethodName := ⟨RX3, "copy", "(LFrameClocks$Reader;)V"⟩
def RX4 : String := "FrameClocks$State"
def TX4 : u_T := fun k => match k with
  | 0 => ("FrameClocks$State", "rate", "I", false)
  | 1 => ("FrameClocks$State", "tape", "LFrameClocks$Tape;", true)
  | 2 => ("FrameClocks$State", "reader", "LFrameClocks$Reader;", true)
  | 3 => ("FrameClocks$State", "wheel", "LFrameClocks$Wheel;", true)
  | 4 => ("FrameClocks$State", "chaser0", "LFrameClocks$Chaser;", true)
  | 5 => ("FrameClocks$State", "chaser1", "LFrameClocks$Chaser;", true)
  | _ => ("FrameClocks$State", "chaser2", "LFrameClocks$Chaser;", true)
def tyX4 : Nat → FieldType := fun k => match k with
  | 0 => .int
  | 1 => .object "FrameClocks$Tape"
  | 2 => .object "FrameClocks$Reader"
  | 3 => .object "FrameClocks$Wheel"
  | 4 => .object "FrameClocks$Chaser"
  | 5 => .object "FrameClocks$Chaser"
  | _ => .object "FrameClocks$Chaser"
theorem nmX4 : ∀ a, a < 7 → ∀ b, b < 7 → a ≠ b → (TX4 a).2.1 ≠ (TX4 b).2.1 := by decide +kernel
theorem tyX4_ok : ∀ k, k < 7 → parseFieldDescriptor (TX4 k).2.2.1 = some (tyX4 k) := by decide +kernel
abbrev cX4_init : ByteArray := prog_6_method_1_code
def yX4_init : MethodName := ⟨RX4, "<init>", "()V"⟩
abbrev cX4_day : ByteArray := prog_6_method_2_code
def yX4_day : MethodName := ⟨RX4, "day", "()I"⟩
abbrev cX4_chaserOf : ByteArray := prog_6_method_3_code
def yX4_chaserOf : MethodName := ⟨RX4, "chaserOf", "(I)LFrameClocks$Chaser;"⟩
abbrev cX4_turnTo : ByteArray := prog_6_method_4_code
def yX4_turnTo : MethodName := ⟨RX4, "turnTo", "(I)V"⟩
abbrev cX4_play : ByteArray := prog_6_method_5_code
def yX4_play : MethodName := ⟨RX4, "play", "(IIIZ)V"⟩
abbrev cX4_hear : ByteArray := prog_6_method_6_code
def yX4_hear : MethodName := ⟨RX4, "hear", "(I)V"⟩
abbrev cX4_miss : ByteArray := prog_6_method_7_code
def yX4_miss : MethodName := ⟨RX4, "miss", "()V"⟩
abbrev cX4_copy : ByteArray := prog_6_method_8_code
def yX4_copy : MethodName := ⟨RX4, "copy", "(LFrameClocks$State;)V"⟩
def RX5 : String := "FrameClocks$Tape"
def TX5 : u_T := fun k => match k with
  | 0 => ("FrameClocks$Tape", "first", "[I", true)
  | 1 => ("FrameClocks$Tape", "length", "[I", true)
  | 2 => ("FrameClocks$Tape", "user", "[I", true)
  | 3 => ("FrameClocks$Tape", "segments", "I", false)
  | 4 => ("FrameClocks$Tape", "words", "I", false)
  | _ => ("FrameClocks$Tape", "head", "I", false)
def tyX5 : Nat → FieldType := fun k => match k with
  | 0 => .array .int
  | 1 => .array .int
  | 2 => .array .int
  | 3 => .int
  | 4 => .int
  | _ => .int
theorem nmX5 : ∀ a, a < 6 → ∀ b, b < 6 → a ≠ b → (TX5 a).2.1 ≠ (TX5 b).2.1 := by decide +kernel
theorem tyX5_ok : ∀ k, k < 6 → parseFieldDescriptor (TX5 k).2.2.1 = some (tyX5 k) := by decide +kernel
abbrev cX5_init : ByteArray := prog_7_method_1_code
def yX5_init : MethodName := ⟨RX5, "<init>", "()V"⟩
abbrev cX5_bitsInAll : ByteArray := prog_7_method_2_code
def yX5_bitsInAll : MethodName := ⟨RX5, "bitsInAll", "()I"⟩
abbrev cX5_append : ByteArray := prog_7_method_3_code
def yX5_append : MethodName := ⟨RX5, "append", "(III)V"⟩
abbrev cX5_wordAt : ByteArray := prog_7_method_4_code
def yX5_wordAt : MethodName := ⟨RX5, "wordAt", "(II)J"⟩
abbrev cX5_wrap : ByteArray := prog_7_method_5_code
def yX5_wrap : MethodName := ⟨RX5, "wrap", "(I)V"⟩
abbrev cX5_copy : ByteArray := prog_7_method_6_code
def yX5_copy : MethodName := ⟨RX5, "copy", "(LFrameClocks$Tape;)V"⟩
def RX6 : String := "FrameClocks$Wheel"
def TX6 : u_T := fun k => match k with
  | 0 => ("FrameClocks$Wheel", "frame", "I", false)
  | 1 => ("FrameClocks$Wheel", "course", "I", false)
  | 2 => ("FrameClocks$Wheel", "missed", "I", false)
  | _ => ("FrameClocks$Wheel", "hold", "I", false)
def tyX6 : Nat → FieldType := fun k => match k with
  | 0 => .int
  | 1 => .int
  | 2 => .int
  | _ => .int
theorem nmX6 : ∀ a, a < 4 → ∀ b, b < 4 → a ≠ b → (TX6 a).2.1 ≠ (TX6 b).2.1 := by decide +kernel
theorem tyX6_ok : ∀ k, k < 4 → parseFieldDescriptor (TX6 k).2.2.1 = some (tyX6 k) := by decide +kernel
abbrev cX6_init : ByteArray := prog_8_method_1_code
def yX6_init : MethodName := ⟨RX6, "<init>", "()V"⟩
abbrev cX6_standAt : ByteArray := prog_8_method_2_code
def yX6_standAt : MethodName := ⟨RX6, "standAt", "(II)V"⟩
abbrev cX6_coast : ByteArray := prog_8_method_3_code
def yX6_coast : MethodName := ⟨RX6, "coast", "(I)Z"⟩
abbrev cX6_copy : ByteArray := prog_8_method_4_code
def yX6_copy : MethodName := ⟨RX6, "copy", "(LFrameClocks$Wheel;)V"⟩
def RX7 : String := "FrameClocks$Words"
def TX7 : u_T := fun k => match k with
  | _ => ("", "", "", false)
def tyX7 : Nat → FieldType := fun k => match k with
  | _ => .int
theorem nmX7 : ∀ a, a < 0 → ∀ b, b < 0 → a ≠ b → (TX7 a).2.1 ≠ (TX7 b).2.1 := by decide +kernel
theorem tyX7_ok : ∀ k, k < 0 → parseFieldDescriptor (TX7 k).2.2.1 = some (tyX7 k) := by decide +kernel
abbrev cX7_bitOf : ByteArray := prog_9_method_2_code
def yX7_bitOf : MethodName := ⟨RX7, "bitOf", "(JI)I"⟩
abbrev cX7_wordOf : ByteArray := prog_9_method_3_code
def yX7_wordOf : MethodName := ⟨RX7, "wordOf", "(III)J"⟩
abbrev cX7_digits : ByteArray := prog_9_method_4_code
def yX7_digits : MethodName := ⟨RX7, "digits", "(I)I"⟩
abbrev cX7_numberIn : ByteArray := prog_9_method_5_code
def yX7_numberIn : MethodName := ⟨RX7, "numberIn", "(JI)I"⟩
abbrev cX7_userIn : ByteArray := prog_9_method_6_code
def yX7_userIn : MethodName := ⟨RX7, "userIn", "(J)I"⟩
abbrev cX7_turned : ByteArray := prog_9_method_7_code
def yX7_turned : MethodName := ⟨RX7, "turned", "(J)J"⟩
def RX8 : String := "FrameClocks"
def TX8 : u_T := fun k => match k with
  | 0 => ("FrameClocks", "now", "LFrameClocks$State;", true)
  | 1 => ("FrameClocks", "history", "LFrameClocks$History;", true)
  | 2 => ("FrameClocks", "images", "[LFrameClocks$State;", true)
  | 3 => ("FrameClocks", "probe", "LFrameClocks$Chaser;", true)
  | 4 => ("FrameClocks", "seenNumbers", "[I", true)
  | 5 => ("FrameClocks", "seenFrames", "[I", true)
  | _ => ("FrameClocks", "seen", "I", false)
def tyX8 : Nat → FieldType := fun k => match k with
  | 0 => .object "FrameClocks$State"
  | 1 => .object "FrameClocks$History"
  | 2 => .array (.object "FrameClocks$State")
  | 3 => .object "FrameClocks$Chaser"
  | 4 => .array .int
  | 5 => .array .int
  | _ => .int
theorem nmX8 : ∀ a, a < 7 → ∀ b, b < 7 → a ≠ b → (TX8 a).2.1 ≠ (TX8 b).2.1 := by decide +kernel
theorem tyX8_ok : ∀ k, k < 7 → parseFieldDescriptor (TX8 k).2.2.1 = some (tyX8 k) := by decide +kernel
abbrev cX8_init : ByteArray := prog_1_method_1_code
def yX8_init : MethodName := ⟨RX8, "<init>", "()V"⟩
abbrev cX8_rates : ByteArray := prog_1_method_2_code
def yX8_rates : MethodName := ⟨RX8, "rates", "(I)I"⟩
abbrev cX8_number : ByteArray := prog_1_method_3_code
def yX8_number : MethodName := ⟨RX8, "number", "(I)I"⟩
abbrev cX8_frame : ByteArray := prog_1_method_4_code
def yX8_frame : MethodName := ⟨RX8, "frame", "(I)I"⟩
abbrev cX8_dropped : ByteArray := prog_1_method_5_code
def yX8_dropped : MethodName := ⟨RX8, "dropped", "(II)I"⟩
abbrev cX8_lays : ByteArray := prog_1_method_6_code
def yX8_lays : MethodName := ⟨RX8, "lays", "(III)I"⟩
abbrev cX8_winds : ByteArray := prog_1_method_7_code
def yX8_winds : MethodName := ⟨RX8, "winds", "(I)I"⟩
abbrev cX8_bit : ByteArray := prog_1_method_8_code
def yX8_bit : MethodName := ⟨RX8, "bit", "(I)I"⟩
abbrev cX8_plays : ByteArray := prog_1_method_9_code
def yX8_plays : MethodName := ⟨RX8, "plays", "(IIII)I"⟩
abbrev cX8_edge : ByteArray := prog_1_method_10_code
def yX8_edge : MethodName := ⟨RX8, "edge", "(I)I"⟩
abbrev cX8_begins : ByteArray := prog_1_method_11_code
def yX8_begins : MethodName := ⟨RX8, "begins", "()I"⟩
abbrev cX8_reader : ByteArray := prog_1_method_12_code
def yX8_reader : MethodName := ⟨RX8, "reader", "(I)I"⟩
abbrev cX8_reading : ByteArray := prog_1_method_13_code
def yX8_reading : MethodName := ⟨RX8, "reading", "(I)I"⟩
abbrev cX8_misses : ByteArray := prog_1_method_14_code
def yX8_misses : MethodName := ⟨RX8, "misses", "()I"⟩
abbrev cX8_holds : ByteArray := prog_1_method_15_code
def yX8_holds : MethodName := ⟨RX8, "holds", "(I)I"⟩
abbrev cX8_wheel : ByteArray := prog_1_method_16_code
def yX8_wheel : MethodName := ⟨RX8, "wheel", "(I)I"⟩
abbrev cX8_offsets : ByteArray := prog_1_method_17_code
def yX8_offsets : MethodName := ⟨RX8, "offsets", "(II)I"⟩
abbrev cX8_chases : ByteArray := prog_1_method_18_code
def yX8_chases : MethodName := ⟨RX8, "chases", "(II)I"⟩
abbrev cX8_chaser : ByteArray := prog_1_method_19_code
def yX8_chaser : MethodName := ⟨RX8, "chaser", "(II)I"⟩
abbrev cX8_there : ByteArray := prog_1_method_20_code
def yX8_there : MethodName := ⟨RX8, "there", "(I)I"⟩
abbrev cX8_undo : ByteArray := prog_1_method_21_code
def yX8_undo : MethodName := ⟨RX8, "undo", "()I"⟩
abbrev cX8_sees : ByteArray := prog_1_method_22_code
def yX8_sees : MethodName := ⟨RX8, "sees", "(II)I"⟩
abbrev cX8_forget : ByteArray := prog_1_method_23_code
def yX8_forget : MethodName := ⟨RX8, "forget", "()I"⟩
abbrev cX8_unseen : ByteArray := prog_1_method_24_code
def yX8_unseen : MethodName := ⟨RX8, "unseen", "()I"⟩
abbrev cX8_keep : ByteArray := prog_1_method_25_code
def yX8_keep : MethodName := ⟨RX8, "keep", "(I)I"⟩
abbrev cX8_back : ByteArray := prog_1_method_26_code
def yX8_back : MethodName := ⟨RX8, "back", "(I)I"⟩
abbrev cX8_count : ByteArray := prog_1_method_27_code
def yX8_count : MethodName := ⟨RX8, "count", "(I)I"⟩
abbrev cX8_isFrame : ByteArray := prog_1_method_28_code
def yX8_isFrame : MethodName := ⟨RX8, "isFrame", "(I)Z"⟩
abbrev cX8_isNumber : ByteArray := prog_1_method_29_code
def yX8_isNumber : MethodName := ⟨RX8, "isNumber", "(I)Z"⟩
abbrev cX8_agrees : ByteArray := prog_1_method_30_code
def yX8_agrees : MethodName := ⟨RX8, "agrees", "(I)Z"⟩
def RX9 : String := "FrameClocksModel"
def TX9 : u_T := fun k => match k with
  | 0 => ("FrameClocksModel", "thrown", "I", false)
  | 1 => ("FrameClocksModel", "s", "[I", true)
  | 2 => ("FrameClocksModel", "past", "[I", true)
  | 3 => ("FrameClocksModel", "undos", "I", false)
  | 4 => ("FrameClocksModel", "kept", "[I", true)
  | 5 => ("FrameClocksModel", "isKept", "[Z", true)
  | 6 => ("FrameClocksModel", "seen", "I", false)
  | 7 => ("FrameClocksModel", "seenNumber", "[I", true)
  | _ => ("FrameClocksModel", "seenFrame", "[I", true)
def tyX9 : Nat → FieldType := fun k => match k with
  | 0 => .int
  | 1 => .array .int
  | 2 => .array .int
  | 3 => .int
  | 4 => .array .int
  | 5 => .array .boolean
  | 6 => .int
  | 7 => .array .int
  | _ => .array .int
theorem nmX9 : ∀ a, a < 9 → ∀ b, b < 9 → a ≠ b → (TX9 a).2.1 ≠ (TX9 b).2.1 := by decide +kernel
theorem tyX9_ok : ∀ k, k < 9 → parseFieldDescriptor (TX9 k).2.2.1 = some (tyX9 k) := by decide +kernel
abbrev cX9_init : ByteArray := prog_11_method_1_code
def yX9_init : MethodName := ⟨RX9, "<init>", "()V"⟩
abbrev cX9_in : ByteArray := prog_11_method_3_code
def yX9_in : MethodName := ⟨RX9, "in", "(III)Z"⟩
abbrev cX9_size : ByteArray := prog_11_method_4_code
def yX9_size : MethodName := ⟨RX9, "size", "(I)I"⟩
abbrev cX9_second : ByteArray := prog_11_method_5_code
def yX9_second : MethodName := ⟨RX9, "second", "(I)I"⟩
abbrev cX9_dayOf : ByteArray := prog_11_method_6_code
def yX9_dayOf : MethodName := ⟨RX9, "dayOf", "(I)I"⟩
abbrev cX9_day : ByteArray := prog_11_method_7_code
def yX9_day : MethodName := ⟨RX9, "day", "()I"⟩
abbrev cX9_around : ByteArray := prog_11_method_8_code
def yX9_around : MethodName := ⟨RX9, "around", "(I)I"⟩
abbrev cX9_isFrame : ByteArray := prog_11_method_9_code
def yX9_isFrame : MethodName := ⟨RX9, "isFrame", "(I)Z"⟩
abbrev cX9_rank : ByteArray := prog_11_method_10_code
def yX9_rank : MethodName := ⟨RX9, "rank", "(II)I"⟩
abbrev cX9_numberOf : ByteArray := prog_11_method_11_code
def yX9_numberOf : MethodName := ⟨RX9, "numberOf", "(II)I"⟩
abbrev cX9_frameOf : ByteArray := prog_11_method_12_code
def yX9_frameOf : MethodName := ⟨RX9, "frameOf", "(II)I"⟩
abbrev cX9_number : ByteArray := prog_11_method_13_code
def yX9_number : MethodName := ⟨RX9, "number", "(I)I"⟩
abbrev cX9_frame : ByteArray := prog_11_method_14_code
def yX9_frame : MethodName := ⟨RX9, "frame", "(I)I"⟩
abbrev cX9_dropped : ByteArray := prog_11_method_15_code
def yX9_dropped : MethodName := ⟨RX9, "dropped", "(II)I"⟩
abbrev cX9_notes : ByteArray := prog_11_method_16_code
def yX9_notes : MethodName := ⟨RX9, "notes", "()V"⟩
abbrev cX9_rates : ByteArray := prog_11_method_17_code
def yX9_rates : MethodName := ⟨RX9, "rates", "(I)I"⟩
abbrev cX9_tape : ByteArray := prog_11_method_18_code
def yX9_tape : MethodName := ⟨RX9, "tape", "()I"⟩
abbrev cX9_lays : ByteArray := prog_11_method_19_code
def yX9_lays : MethodName := ⟨RX9, "lays", "(III)I"⟩
abbrev cX9_winds : ByteArray := prog_11_method_20_code
def yX9_winds : MethodName := ⟨RX9, "winds", "(I)I"⟩
abbrev cX9_figures : ByteArray := prog_11_method_21_code
def yX9_figures : MethodName := ⟨RX9, "figures", "(I)I"⟩
abbrev cX9_wordOf : ByteArray := prog_11_method_22_code
def yX9_wordOf : MethodName := ⟨RX9, "wordOf", "(II)I"⟩
abbrev cX9_isEven : ByteArray := prog_11_method_23_code
def yX9_isEven : MethodName := ⟨RX9, "isEven", "(I)Z"⟩
abbrev cX9_sync : ByteArray := prog_11_method_24_code
def yX9_sync : MethodName := ⟨RX9, "sync", "(I)I"⟩
abbrev cX9_bitAt : ByteArray := prog_11_method_25_code
def yX9_bitAt : MethodName := ⟨RX9, "bitAt", "(I)I"⟩
abbrev cX9_bit : ByteArray := prog_11_method_26_code
def yX9_bit : MethodName := ⟨RX9, "bit", "(I)I"⟩
abbrev cX9_plays : ByteArray := prog_11_method_27_code
def yX9_plays : MethodName := ⟨RX9, "plays", "(IIII)I"⟩
abbrev cX9_cell : ByteArray := prog_11_method_28_code
def yX9_cell : MethodName := ⟨RX9, "cell", "(I)V"⟩
abbrev cX9_comes : ByteArray := prog_11_method_29_code
def yX9_comes : MethodName := ⟨RX9, "comes", "(I)V"⟩
abbrev cX9_isSync : ByteArray := prog_11_method_30_code
def yX9_isSync : MethodName := ⟨RX9, "isSync", "(IZ)Z"⟩
abbrev cX9_tells : ByteArray := prog_11_method_31_code
def yX9_tells : MethodName := ⟨RX9, "tells", "(I)V"⟩
abbrev cX9_areFigures : ByteArray := prog_11_method_32_code
def yX9_areFigures : MethodName := ⟨RX9, "areFigures", "(I)Z"⟩
abbrev cX9_two : ByteArray := prog_11_method_33_code
def yX9_two : MethodName := ⟨RX9, "two", "(III)I"⟩
abbrev cX9_finds : ByteArray := prog_11_method_34_code
def yX9_finds : MethodName := ⟨RX9, "finds", "(II)V"⟩
abbrev cX9_edge : ByteArray := prog_11_method_35_code
def yX9_edge : MethodName := ⟨RX9, "edge", "(I)I"⟩
abbrev cX9_begins : ByteArray := prog_11_method_36_code
def yX9_begins : MethodName := ⟨RX9, "begins", "()I"⟩
abbrev cX9_reader : ByteArray := prog_11_method_37_code
def yX9_reader : MethodName := ⟨RX9, "reader", "(I)I"⟩
abbrev cX9_reading : ByteArray := prog_11_method_38_code
def yX9_reading : MethodName := ⟨RX9, "reading", "(I)I"⟩
abbrev cX9_isLocked : ByteArray := prog_11_method_39_code
def yX9_isLocked : MethodName := ⟨RX9, "isLocked", "()Z"⟩
abbrev cX9_misses : ByteArray := prog_11_method_40_code
def yX9_misses : MethodName := ⟨RX9, "misses", "()I"⟩
abbrev cX9_holds : ByteArray := prog_11_method_41_code
def yX9_holds : MethodName := ⟨RX9, "holds", "(I)I"⟩
abbrev cX9_wheel : ByteArray := prog_11_method_42_code
def yX9_wheel : MethodName := ⟨RX9, "wheel", "(I)I"⟩
abbrev cX9_isChaser : ByteArray := prog_11_method_43_code
def yX9_isChaser : MethodName := ⟨RX9, "isChaser", "(I)Z"⟩
abbrev cX9_wayOf : ByteArray := prog_11_method_44_code
def yX9_wayOf : MethodName := ⟨RX9, "wayOf", "(I)I"⟩
abbrev cX9_isThere : ByteArray := prog_11_method_45_code
def yX9_isThere : MethodName := ⟨RX9, "isThere", "(I)Z"⟩
abbrev cX9_steps : ByteArray := prog_11_method_46_code
def yX9_steps : MethodName := ⟨RX9, "steps", "(I)V"⟩
abbrev cX9_offsets : ByteArray := prog_11_method_47_code
def yX9_offsets : MethodName := ⟨RX9, "offsets", "(II)I"⟩
abbrev cX9_chases : ByteArray := prog_11_method_48_code
def yX9_chases : MethodName := ⟨RX9, "chases", "(II)I"⟩
abbrev cX9_chaser : ByteArray := prog_11_method_49_code
def yX9_chaser : MethodName := ⟨RX9, "chaser", "(II)I"⟩
abbrev cX9_there : ByteArray := prog_11_method_50_code
def yX9_there : MethodName := ⟨RX9, "there", "(I)I"⟩
abbrev cX9_undo : ByteArray := prog_11_method_51_code
def yX9_undo : MethodName := ⟨RX9, "undo", "()I"⟩
abbrev cX9_sees : ByteArray := prog_11_method_52_code
def yX9_sees : MethodName := ⟨RX9, "sees", "(II)I"⟩
abbrev cX9_forget : ByteArray := prog_11_method_53_code
def yX9_forget : MethodName := ⟨RX9, "forget", "()I"⟩
abbrev cX9_unseen : ByteArray := prog_11_method_54_code
def yX9_unseen : MethodName := ⟨RX9, "unseen", "()I"⟩
abbrev cX9_keep : ByteArray := prog_11_method_55_code
def yX9_keep : MethodName := ⟨RX9, "keep", "(I)I"⟩
abbrev cX9_back : ByteArray := prog_11_method_56_code
def yX9_back : MethodName := ⟨RX9, "back", "(I)I"⟩
abbrev cX9_count : ByteArray := prog_11_method_57_code
def yX9_count : MethodName := ⟨RX9, "count", "(I)I"⟩
def RJ6 : String := "java/lang/Integer"
def TJ6 : u_T := fun k => match k with
  | _ => ("", "", "", false)
def tyJ6 : Nat → FieldType := fun k => match k with
  | _ => .int
theorem nmJ6 : ∀ a, a < 0 → ∀ b, b < 0 → a ≠ b → (TJ6 a).2.1 ≠ (TJ6 b).2.1 := by decide +kernel
theorem tyJ6_ok : ∀ k, k < 0 → parseFieldDescriptor (TJ6 k).2.2.1 = some (tyJ6 k) := by decide +kernel
abbrev cJ6_compare_7cf53 : ByteArray := prog_12_method_40_code
def yJ6_compare_7cf53 : MethodName := ⟨RJ6, "compare", "(II)I"⟩
abbrev cJ6_bitCount_0f7a4 : ByteArray := prog_12_method_49_code
def yJ6_bitCount_0f7a4 : MethodName := ⟨RJ6, "bitCount", "(I)I"⟩
def RJ9 : String := "java/lang/Math"
def TJ9 : u_T := fun k => match k with
  | _ => ("", "", "", false)
def tyJ9 : Nat → FieldType := fun k => match k with
  | _ => .int
theorem nmJ9 : ∀ a, a < 0 → ∀ b, b < 0 → a ≠ b → (TJ9 a).2.1 ≠ (TJ9 b).2.1 := by decide +kernel
theorem tyJ9_ok : ∀ k, k < 0 → parseFieldDescriptor (TJ9 k).2.2.1 = some (tyJ9 k) := by decide +kernel
abbrev cJ9_floorMod_7cf53 : ByteArray := prog_13_method_50_code
def yJ9_floorMod_7cf53 : MethodName := ⟨RJ9, "floorMod", "(II)I"⟩
abbrev cJ9_abs_0f7a4 : ByteArray := prog_13_method_59_code
def yJ9_abs_0f7a4 : MethodName := ⟨RJ9, "abs", "(I)I"⟩
abbrev cJ9_max_7cf53 : ByteArray := prog_13_method_65_code
def yJ9_max_7cf53 : MethodName := ⟨RJ9, "max", "(II)I"⟩
abbrev cJ9_min_7cf53 : ByteArray := prog_13_method_69_code
def yJ9_min_7cf53 : MethodName := ⟨RJ9, "min", "(II)I"⟩
def RJ10 : String := "java/lang/System"
def TJ10 : u_T := fun k => match k with
  | _ => ("", "", "", false)
def tyJ10 : Nat → FieldType := fun k => match k with
  | _ => .int
theorem nmJ10 : ∀ a, a < 0 → ∀ b, b < 0 → a ≠ b → (TJ10 a).2.1 ≠ (TJ10 b).2.1 := by decide +kernel
theorem tyJ10_ok : ∀ k, k < 0 → parseFieldDescriptor (TJ10 k).2.2.1 = some (tyJ10 k) := by decide +kernel
def RL : String := "FrameClocksLaw"
abbrev cL_law : ByteArray := code
def yL_law : MethodName := ⟨RL, "law", "([I)Z"⟩
abbrev vwCl : List vw_C := [(RX0, TX0, 3), (RX1, TX1, 3), (RX3, TX3, 13), (RX4, TX4, 7), (RX5, TX5, 6), (RX6, TX6, 4), (RX8, TX8, 7), (RX9, TX9, 9)]
/-- all the words that are good of every later state -/
def wB : List Cond := lw_tbl.filter goodWord
theorem wB_in {w : Cond} (i : Nat) (h : lw_tbl[i]? = some w) (hg : goodWord w = true) : w ∈ wB := List.mem_filter.mpr ⟨List.mem_of_getElem? h, hg⟩
theorem wB_good : ∀ w ∈ wB, w ∈ lw_tbl ∧ goodWord w = true := fun w h => List.mem_filter.mp h
theorem wq0 : Cond.selects RX8 yX8_isFrame yX8_isFrame ∈ wB := wB_in 0 (by decide +kernel) (by decide +kernel)
theorem wq1 : Cond.selects RX3 yX3_adapt yX3_adapt ∈ wB := wB_in 1 (by decide +kernel) (by decide +kernel)
theorem wq2 : Cond.selects RX3 yX3_tell yX3_tell ∈ wB := wB_in 2 (by decide +kernel) (by decide +kernel)
theorem wq3 : Cond.selects RX3 yX3_letGo yX3_letGo ∈ wB := wB_in 3 (by decide +kernel) (by decide +kernel)
theorem wq4 : Cond.selects RX3 yX3_follow yX3_follow ∈ wB := wB_in 4 (by decide +kernel) (by decide +kernel)
theorem wq5 : Cond.selects RX8 yX8_agrees yX8_agrees ∈ wB := wB_in 5 (by decide +kernel) (by decide +kernel)
theorem wq6 : Cond.selects RX9 yX9_isFrame yX9_isFrame ∈ wB := wB_in 6 (by decide +kernel) (by decide +kernel)
theorem wq7 : Cond.selects RX9 yX9_day yX9_day ∈ wB := wB_in 7 (by decide +kernel) (by decide +kernel)
theorem wq8 : Cond.selects RX9 yX9_notes yX9_notes ∈ wB := wB_in 8 (by decide +kernel) (by decide +kernel)
theorem wq9 : Cond.selects RX9 yX9_around yX9_around ∈ wB := wB_in 9 (by decide +kernel) (by decide +kernel)
theorem wq10 : Cond.selects RX9 yX9_tape yX9_tape ∈ wB := wB_in 10 (by decide +kernel) (by decide +kernel)
theorem wq11 : Cond.selects RX9 yX9_bitAt yX9_bitAt ∈ wB := wB_in 11 (by decide +kernel) (by decide +kernel)
theorem wq12 : Cond.selects RX9 yX9_wordOf yX9_wordOf ∈ wB := wB_in 12 (by decide +kernel) (by decide +kernel)
theorem wq13 : Cond.selects RX9 yX9_comes yX9_comes ∈ wB := wB_in 13 (by decide +kernel) (by decide +kernel)
theorem wq14 : Cond.selects RX9 yX9_cell yX9_cell ∈ wB := wB_in 14 (by decide +kernel) (by decide +kernel)
theorem wq15 : Cond.selects RX9 yX9_tells yX9_tells ∈ wB := wB_in 15 (by decide +kernel) (by decide +kernel)
theorem wq16 : Cond.selects RX9 yX9_isSync yX9_isSync ∈ wB := wB_in 16 (by decide +kernel) (by decide +kernel)
theorem wq17 : Cond.selects RX9 yX9_finds yX9_finds ∈ wB := wB_in 17 (by decide +kernel) (by decide +kernel)
theorem wq18 : Cond.selects RX9 yX9_isLocked yX9_isLocked ∈ wB := wB_in 18 (by decide +kernel) (by decide +kernel)
theorem wq19 : Cond.selects RX9 yX9_steps yX9_steps ∈ wB := wB_in 19 (by decide +kernel) (by decide +kernel)
theorem wq20 : Cond.selects RX9 yX9_wayOf yX9_wayOf ∈ wB := wB_in 20 (by decide +kernel) (by decide +kernel)
theorem wq21 : Cond.selects RX9 yX9_isThere yX9_isThere ∈ wB := wB_in 21 (by decide +kernel) (by decide +kernel)
theorem wq22 : Cond.initialized RL ∈ wB := wB_in 22 (by decide +kernel) (by decide +kernel)
theorem wq23 : Cond.initialized RX8 ∈ wB := wB_in 23 (by decide +kernel) (by decide +kernel)
theorem wq24 : Cond.initialized RX4 ∈ wB := wB_in 24 (by decide +kernel) (by decide +kernel)
theorem wq25 : Cond.initialized RX5 ∈ wB := wB_in 25 (by decide +kernel) (by decide +kernel)
theorem wq26 : Cond.initialized RX3 ∈ wB := wB_in 26 (by decide +kernel) (by decide +kernel)
theorem wq27 : Cond.initialized RX6 ∈ wB := wB_in 27 (by decide +kernel) (by decide +kernel)
theorem wq28 : Cond.initialized RX0 ∈ wB := wB_in 28 (by decide +kernel) (by decide +kernel)
theorem wq29 : Cond.initialized RX1 ∈ wB := wB_in 29 (by decide +kernel) (by decide +kernel)
theorem wq30 : Cond.initialized RX9 ∈ wB := wB_in 30 (by decide +kernel) (by decide +kernel)
theorem wq31 : Cond.initialized RJ9 ∈ wB := wB_in 31 (by decide +kernel) (by decide +kernel)
theorem wq32 : Cond.initialized RJ10 ∈ wB := wB_in 32 (by decide +kernel) (by decide +kernel)
theorem wq33 : Cond.initialized RX2 ∈ wB := wB_in 33 (by decide +kernel) (by decide +kernel)
theorem wq34 : Cond.initialized RX7 ∈ wB := wB_in 34 (by decide +kernel) (by decide +kernel)
theorem wq35 : Cond.initialized RJ6 ∈ wB := wB_in 35 (by decide +kernel) (by decide +kernel)
theorem wq36 : Cond.classLink RL 7 RX8 ∈ wB := wB_in 36 (by decide +kernel) (by decide +kernel)
theorem wq37 : Cond.instantiable RX8 7 ∈ wB := wB_in 37 (by decide +kernel) (by decide +kernel)
theorem wq38 : Cond.methodLink RL 9 yX8_init ∈ wB := wB_in 38 (by decide +kernel) (by decide +kernel)
theorem wq39 : Cond.instanceMethod yX8_init ∈ wB := wB_in 39 (by decide +kernel) (by decide +kernel)
theorem wq40 : Cond.code yX8_init cX8_init 1 none ∈ wB := wB_in 40 (by decide +kernel) (by decide +kernel)
theorem wq41 : Cond.methodLink RX8 1 objectInit ∈ wB := wB_in 41 (by decide +kernel) (by decide +kernel)
theorem wq42 : Cond.instanceMethod objectInit ∈ wB := wB_in 42 (by decide +kernel) (by decide +kernel)
theorem wq43 : Cond.code objectInit ⟨#[0xb1]⟩ 1 none ∈ wB := wB_in 43 (by decide +kernel) (by decide +kernel)
theorem wq44 : Cond.classLink RX8 7 RX4 ∈ wB := wB_in 44 (by decide +kernel) (by decide +kernel)
theorem wq45 : Cond.instantiable RX4 7 ∈ wB := wB_in 45 (by decide +kernel) (by decide +kernel)
theorem wq47 : Cond.instanceMethod yX4_init ∈ wB := wB_in 47 (by decide +kernel) (by decide +kernel)
theorem wq48 : Cond.code yX4_init cX4_init 1 none ∈ wB := wB_in 48 (by decide +kernel) (by decide +kernel)
theorem wq49 : Cond.methodLink RX4 1 objectInit ∈ wB := wB_in 49 (by decide +kernel) (by decide +kernel)
theorem wq50 : Cond.classLink RX4 13 RX5 ∈ wB := wB_in 50 (by decide +kernel) (by decide +kernel)
theorem wq51 : Cond.instantiable RX5 6 ∈ wB := wB_in 51 (by decide +kernel) (by decide +kernel)
theorem wq53 : Cond.instanceMethod yX5_init ∈ wB := wB_in 53 (by decide +kernel) (by decide +kernel)
theorem wq54 : Cond.code yX5_init cX5_init 1 none ∈ wB := wB_in 54 (by decide +kernel) (by decide +kernel)
theorem wq55 : Cond.methodLink RX5 1 objectInit ∈ wB := wB_in 55 (by decide +kernel) (by decide +kernel)
theorem wq56 : Cond.fieldLink RX5 9 "FrameClocks$Tape" "first" "[I" ∈ wB := wB_in 56 (by decide +kernel) (by decide +kernel)
theorem wq57 : Cond.fieldLink RX5 13 "FrameClocks$Tape" "length" "[I" ∈ wB := wB_in 57 (by decide +kernel) (by decide +kernel)
theorem wq58 : Cond.fieldLink RX5 16 "FrameClocks$Tape" "user" "[I" ∈ wB := wB_in 58 (by decide +kernel) (by decide +kernel)
theorem wq59 : Cond.fieldLink RX5 25 "FrameClocks$Tape" "segments" "I" ∈ wB := wB_in 59 (by decide +kernel) (by decide +kernel)
theorem wq60 : Cond.fieldLink RX8 82 "FrameClocks$Tape" "segments" "I" ∈ wB := wB_in 60 (by decide +kernel) (by decide +kernel)
theorem wq61 : Cond.fieldLink RX5 21 "FrameClocks$Tape" "words" "I" ∈ wB := wB_in 61 (by decide +kernel) (by decide +kernel)
theorem wq62 : Cond.fieldLink RX4 73 "FrameClocks$Tape" "head" "I" ∈ wB := wB_in 62 (by decide +kernel) (by decide +kernel)
theorem wq63 : Cond.fieldLink RX5 50 "FrameClocks$Tape" "head" "I" ∈ wB := wB_in 63 (by decide +kernel) (by decide +kernel)
theorem wq64 : Cond.fieldLink RX8 93 "FrameClocks$Tape" "head" "I" ∈ wB := wB_in 64 (by decide +kernel) (by decide +kernel)
theorem wq65 : Cond.laysFinal RX5 "FrameClocks$Tape" "first" "[I" ∈ wB := wB_in 65 (by decide +kernel) (by decide +kernel)
theorem wq67 : Cond.laysFinal RX5 "FrameClocks$Tape" "length" "[I" ∈ wB := wB_in 67 (by decide +kernel) (by decide +kernel)
theorem wq69 : Cond.laysFinal RX5 "FrameClocks$Tape" "user" "[I" ∈ wB := wB_in 69 (by decide +kernel) (by decide +kernel)
theorem wq71 : Cond.lays RX5 "FrameClocks$Tape" "segments" "I" ∈ wB := wB_in 71 (by decide +kernel) (by decide +kernel)
theorem wq73 : Cond.lays RX5 "FrameClocks$Tape" "words" "I" ∈ wB := wB_in 73 (by decide +kernel) (by decide +kernel)
theorem wq75 : Cond.lays RX5 "FrameClocks$Tape" "head" "I" ∈ wB := wB_in 75 (by decide +kernel) (by decide +kernel)
theorem wq78 : Cond.arrayClass .int ∈ wB := wB_in 78 (by decide +kernel) (by decide +kernel)
theorem wq79 : Cond.classLink RX4 20 RX3 ∈ wB := wB_in 79 (by decide +kernel) (by decide +kernel)
theorem wq80 : Cond.instantiable RX3 13 ∈ wB := wB_in 80 (by decide +kernel) (by decide +kernel)
theorem wq82 : Cond.instanceMethod yX3_init ∈ wB := wB_in 82 (by decide +kernel) (by decide +kernel)
theorem wq83 : Cond.code yX3_init cX3_init 1 none ∈ wB := wB_in 83 (by decide +kernel) (by decide +kernel)
theorem wq84 : Cond.methodLink RX3 3 objectInit ∈ wB := wB_in 84 (by decide +kernel) (by decide +kernel)
theorem wq85 : Cond.fieldLink RX3 11 "FrameClocks$Reader" "cell" "I" ∈ wB := wB_in 85 (by decide +kernel) (by decide +kernel)
theorem wq86 : Cond.fieldLink RX8 133 "FrameClocks$Reader" "cell" "I" ∈ wB := wB_in 86 (by decide +kernel) (by decide +kernel)
theorem wq87 : Cond.fieldLink RX3 21 "FrameClocks$Reader" "waits" "I" ∈ wB := wB_in 87 (by decide +kernel) (by decide +kernel)
theorem wq88 : Cond.fieldLink RX8 136 "FrameClocks$Reader" "waits" "I" ∈ wB := wB_in 88 (by decide +kernel) (by decide +kernel)
theorem wq89 : Cond.fieldLink RX3 41 "FrameClocks$Reader" "bits" "J" ∈ wB := wB_in 89 (by decide +kernel) (by decide +kernel)
theorem wq90 : Cond.fieldLink RX3 47 "FrameClocks$Reader" "held" "I" ∈ wB := wB_in 90 (by decide +kernel) (by decide +kernel)
theorem wq91 : Cond.fieldLink RX8 122 "FrameClocks$Reader" "held" "I" ∈ wB := wB_in 91 (by decide +kernel) (by decide +kernel)
theorem wq92 : Cond.fieldLink RX3 18 "FrameClocks$Reader" "readings" "I" ∈ wB := wB_in 92 (by decide +kernel) (by decide +kernel)
theorem wq93 : Cond.fieldLink RX8 127 "FrameClocks$Reader" "readings" "I" ∈ wB := wB_in 93 (by decide +kernel) (by decide +kernel)
theorem wq94 : Cond.fieldLink RX3 77 "FrameClocks$Reader" "broken" "I" ∈ wB := wB_in 94 (by decide +kernel) (by decide +kernel)
theorem wq95 : Cond.fieldLink RX8 139 "FrameClocks$Reader" "broken" "I" ∈ wB := wB_in 95 (by decide +kernel) (by decide +kernel)
theorem wq96 : Cond.fieldLink RX3 24 "FrameClocks$Reader" "errors" "I" ∈ wB := wB_in 96 (by decide +kernel) (by decide +kernel)
theorem wq97 : Cond.fieldLink RX8 142 "FrameClocks$Reader" "errors" "I" ∈ wB := wB_in 97 (by decide +kernel) (by decide +kernel)
theorem wq98 : Cond.fieldLink RX3 110 "FrameClocks$Reader" "jumps" "I" ∈ wB := wB_in 98 (by decide +kernel) (by decide +kernel)
theorem wq99 : Cond.fieldLink RX8 145 "FrameClocks$Reader" "jumps" "I" ∈ wB := wB_in 99 (by decide +kernel) (by decide +kernel)
theorem wq100 : Cond.fieldLink RX3 15 "FrameClocks$Reader" "streak" "I" ∈ wB := wB_in 100 (by decide +kernel) (by decide +kernel)
theorem wq101 : Cond.fieldLink RX4 112 "FrameClocks$Reader" "streak" "I" ∈ wB := wB_in 101 (by decide +kernel) (by decide +kernel)
theorem wq102 : Cond.fieldLink RX8 148 "FrameClocks$Reader" "streak" "I" ∈ wB := wB_in 102 (by decide +kernel) (by decide +kernel)
theorem wq103 : Cond.fieldLink RX4 100 "FrameClocks$Reader" "frame" "I" ∈ wB := wB_in 103 (by decide +kernel) (by decide +kernel)
theorem wq104 : Cond.fieldLink RX3 88 "FrameClocks$Reader" "frame" "I" ∈ wB := wB_in 104 (by decide +kernel) (by decide +kernel)
theorem wq105 : Cond.fieldLink RX8 156 "FrameClocks$Reader" "frame" "I" ∈ wB := wB_in 105 (by decide +kernel) (by decide +kernel)
theorem wq106 : Cond.fieldLink RX3 91 "FrameClocks$Reader" "number" "I" ∈ wB := wB_in 106 (by decide +kernel) (by decide +kernel)
theorem wq107 : Cond.fieldLink RX8 159 "FrameClocks$Reader" "number" "I" ∈ wB := wB_in 107 (by decide +kernel) (by decide +kernel)
theorem wq108 : Cond.fieldLink RX3 97 "FrameClocks$Reader" "user" "I" ∈ wB := wB_in 108 (by decide +kernel) (by decide +kernel)
theorem wq109 : Cond.fieldLink RX8 162 "FrameClocks$Reader" "user" "I" ∈ wB := wB_in 109 (by decide +kernel) (by decide +kernel)
theorem wq110 : Cond.fieldLink RX4 101 "FrameClocks$Reader" "course" "I" ∈ wB := wB_in 110 (by decide +kernel) (by decide +kernel)
theorem wq111 : Cond.fieldLink RX3 100 "FrameClocks$Reader" "course" "I" ∈ wB := wB_in 111 (by decide +kernel) (by decide +kernel)
theorem wq112 : Cond.fieldLink RX8 165 "FrameClocks$Reader" "course" "I" ∈ wB := wB_in 112 (by decide +kernel) (by decide +kernel)
theorem wq113 : Cond.lays RX3 "FrameClocks$Reader" "cell" "I" ∈ wB := wB_in 113 (by decide +kernel) (by decide +kernel)
theorem wq115 : Cond.lays RX3 "FrameClocks$Reader" "waits" "I" ∈ wB := wB_in 115 (by decide +kernel) (by decide +kernel)
theorem wq117 : Cond.lays RX3 "FrameClocks$Reader" "bits" "J" ∈ wB := wB_in 117 (by decide +kernel) (by decide +kernel)
theorem wq119 : Cond.lays RX3 "FrameClocks$Reader" "held" "I" ∈ wB := wB_in 119 (by decide +kernel) (by decide +kernel)
theorem wq121 : Cond.lays RX3 "FrameClocks$Reader" "readings" "I" ∈ wB := wB_in 121 (by decide +kernel) (by decide +kernel)
theorem wq123 : Cond.lays RX3 "FrameClocks$Reader" "broken" "I" ∈ wB := wB_in 123 (by decide +kernel) (by decide +kernel)
theorem wq125 : Cond.lays RX3 "FrameClocks$Reader" "errors" "I" ∈ wB := wB_in 125 (by decide +kernel) (by decide +kernel)
theorem wq127 : Cond.lays RX3 "FrameClocks$Reader" "jumps" "I" ∈ wB := wB_in 127 (by decide +kernel) (by decide +kernel)
theorem wq129 : Cond.lays RX3 "FrameClocks$Reader" "streak" "I" ∈ wB := wB_in 129 (by decide +kernel) (by decide +kernel)
theorem wq131 : Cond.lays RX3 "FrameClocks$Reader" "frame" "I" ∈ wB := wB_in 131 (by decide +kernel) (by decide +kernel)
theorem wq133 : Cond.lays RX3 "FrameClocks$Reader" "number" "I" ∈ wB := wB_in 133 (by decide +kernel) (by decide +kernel)
theorem wq135 : Cond.lays RX3 "FrameClocks$Reader" "user" "I" ∈ wB := wB_in 135 (by decide +kernel) (by decide +kernel)
theorem wq137 : Cond.lays RX3 "FrameClocks$Reader" "course" "I" ∈ wB := wB_in 137 (by decide +kernel) (by decide +kernel)
theorem wq140 : Cond.classLink RX4 27 RX6 ∈ wB := wB_in 140 (by decide +kernel) (by decide +kernel)
theorem wq141 : Cond.instantiable RX6 4 ∈ wB := wB_in 141 (by decide +kernel) (by decide +kernel)
theorem wq143 : Cond.instanceMethod yX6_init ∈ wB := wB_in 143 (by decide +kernel) (by decide +kernel)
theorem wq144 : Cond.code yX6_init cX6_init 1 none ∈ wB := wB_in 144 (by decide +kernel) (by decide +kernel)
theorem wq145 : Cond.methodLink RX6 1 objectInit ∈ wB := wB_in 145 (by decide +kernel) (by decide +kernel)
theorem wq146 : Cond.fieldLink RX6 16 "FrameClocks$Wheel" "frame" "I" ∈ wB := wB_in 146 (by decide +kernel) (by decide +kernel)
theorem wq147 : Cond.fieldLink RX4 61 "FrameClocks$Wheel" "frame" "I" ∈ wB := wB_in 147 (by decide +kernel) (by decide +kernel)
theorem wq148 : Cond.fieldLink RX8 175 "FrameClocks$Wheel" "frame" "I" ∈ wB := wB_in 148 (by decide +kernel) (by decide +kernel)
theorem wq149 : Cond.fieldLink RX6 7 "FrameClocks$Wheel" "course" "I" ∈ wB := wB_in 149 (by decide +kernel) (by decide +kernel)
theorem wq150 : Cond.fieldLink RX8 181 "FrameClocks$Wheel" "course" "I" ∈ wB := wB_in 150 (by decide +kernel) (by decide +kernel)
theorem wq151 : Cond.fieldLink RX6 19 "FrameClocks$Wheel" "missed" "I" ∈ wB := wB_in 151 (by decide +kernel) (by decide +kernel)
theorem wq152 : Cond.fieldLink RX8 182 "FrameClocks$Wheel" "missed" "I" ∈ wB := wB_in 152 (by decide +kernel) (by decide +kernel)
theorem wq153 : Cond.fieldLink RX6 13 "FrameClocks$Wheel" "hold" "I" ∈ wB := wB_in 153 (by decide +kernel) (by decide +kernel)
theorem wq154 : Cond.fieldLink RX8 178 "FrameClocks$Wheel" "hold" "I" ∈ wB := wB_in 154 (by decide +kernel) (by decide +kernel)
theorem wq155 : Cond.lays RX6 "FrameClocks$Wheel" "frame" "I" ∈ wB := wB_in 155 (by decide +kernel) (by decide +kernel)
theorem wq157 : Cond.lays RX6 "FrameClocks$Wheel" "course" "I" ∈ wB := wB_in 157 (by decide +kernel) (by decide +kernel)
theorem wq159 : Cond.lays RX6 "FrameClocks$Wheel" "missed" "I" ∈ wB := wB_in 159 (by decide +kernel) (by decide +kernel)
theorem wq161 : Cond.lays RX6 "FrameClocks$Wheel" "hold" "I" ∈ wB := wB_in 161 (by decide +kernel) (by decide +kernel)
theorem wq164 : Cond.classLink RX4 34 RX0 ∈ wB := wB_in 164 (by decide +kernel) (by decide +kernel)
theorem wq165 : Cond.instantiable RX0 3 ∈ wB := wB_in 165 (by decide +kernel) (by decide +kernel)
theorem wq167 : Cond.instanceMethod yX0_init ∈ wB := wB_in 167 (by decide +kernel) (by decide +kernel)
theorem wq168 : Cond.code yX0_init cX0_init 1 none ∈ wB := wB_in 168 (by decide +kernel) (by decide +kernel)
theorem wq169 : Cond.methodLink RX0 1 objectInit ∈ wB := wB_in 169 (by decide +kernel) (by decide +kernel)
theorem wq170 : Cond.fieldLink RX0 13 "FrameClocks$Chaser" "place" "I" ∈ wB := wB_in 170 (by decide +kernel) (by decide +kernel)
theorem wq171 : Cond.fieldLink RX4 70 "FrameClocks$Chaser" "place" "I" ∈ wB := wB_in 171 (by decide +kernel) (by decide +kernel)
theorem wq172 : Cond.fieldLink RX8 204 "FrameClocks$Chaser" "place" "I" ∈ wB := wB_in 172 (by decide +kernel) (by decide +kernel)
theorem wq173 : Cond.fieldLink RX0 22 "FrameClocks$Chaser" "speed" "I" ∈ wB := wB_in 173 (by decide +kernel) (by decide +kernel)
theorem wq174 : Cond.fieldLink RX8 207 "FrameClocks$Chaser" "speed" "I" ∈ wB := wB_in 174 (by decide +kernel) (by decide +kernel)
theorem wq175 : Cond.fieldLink RX0 7 "FrameClocks$Chaser" "offset" "I" ∈ wB := wB_in 175 (by decide +kernel) (by decide +kernel)
theorem wq176 : Cond.fieldLink RX8 194 "FrameClocks$Chaser" "offset" "I" ∈ wB := wB_in 176 (by decide +kernel) (by decide +kernel)
theorem wq177 : Cond.lays RX0 "FrameClocks$Chaser" "place" "I" ∈ wB := wB_in 177 (by decide +kernel) (by decide +kernel)
theorem wq179 : Cond.lays RX0 "FrameClocks$Chaser" "speed" "I" ∈ wB := wB_in 179 (by decide +kernel) (by decide +kernel)
theorem wq181 : Cond.lays RX0 "FrameClocks$Chaser" "offset" "I" ∈ wB := wB_in 181 (by decide +kernel) (by decide +kernel)
theorem wq184 : Cond.fieldLink RX4 7 "FrameClocks$State" "rate" "I" ∈ wB := wB_in 184 (by decide +kernel) (by decide +kernel)
theorem wq185 : Cond.fieldLink RX8 43 "FrameClocks$State" "rate" "I" ∈ wB := wB_in 185 (by decide +kernel) (by decide +kernel)
theorem wq186 : Cond.fieldLink RX4 16 "FrameClocks$State" "tape" "LFrameClocks$Tape;" ∈ wB := wB_in 186 (by decide +kernel) (by decide +kernel)
theorem wq187 : Cond.fieldLink RX8 78 "FrameClocks$State" "tape" "LFrameClocks$Tape;" ∈ wB := wB_in 187 (by decide +kernel) (by decide +kernel)
theorem wq188 : Cond.fieldLink RX4 23 "FrameClocks$State" "reader" "LFrameClocks$Reader;" ∈ wB := wB_in 188 (by decide +kernel) (by decide +kernel)
theorem wq189 : Cond.fieldLink RX8 118 "FrameClocks$State" "reader" "LFrameClocks$Reader;" ∈ wB := wB_in 189 (by decide +kernel) (by decide +kernel)
theorem wq190 : Cond.fieldLink RX4 30 "FrameClocks$State" "wheel" "LFrameClocks$Wheel;" ∈ wB := wB_in 190 (by decide +kernel) (by decide +kernel)
theorem wq191 : Cond.fieldLink RX8 171 "FrameClocks$State" "wheel" "LFrameClocks$Wheel;" ∈ wB := wB_in 191 (by decide +kernel) (by decide +kernel)
theorem wq192 : Cond.fieldLink RX4 37 "FrameClocks$State" "chaser0" "LFrameClocks$Chaser;" ∈ wB := wB_in 192 (by decide +kernel) (by decide +kernel)
theorem wq193 : Cond.fieldLink RX4 41 "FrameClocks$State" "chaser1" "LFrameClocks$Chaser;" ∈ wB := wB_in 193 (by decide +kernel) (by decide +kernel)
theorem wq194 : Cond.fieldLink RX4 44 "FrameClocks$State" "chaser2" "LFrameClocks$Chaser;" ∈ wB := wB_in 194 (by decide +kernel) (by decide +kernel)
theorem wq195 : Cond.lays RX4 "FrameClocks$State" "rate" "I" ∈ wB := wB_in 195 (by decide +kernel) (by decide +kernel)
theorem wq197 : Cond.laysFinal RX4 "FrameClocks$State" "tape" "LFrameClocks$Tape;" ∈ wB := wB_in 197 (by decide +kernel) (by decide +kernel)
theorem wq199 : Cond.laysFinal RX4 "FrameClocks$State" "reader" "LFrameClocks$Reader;" ∈ wB := wB_in 199 (by decide +kernel) (by decide +kernel)
theorem wq201 : Cond.laysFinal RX4 "FrameClocks$State" "wheel" "LFrameClocks$Wheel;" ∈ wB := wB_in 201 (by decide +kernel) (by decide +kernel)
theorem wq203 : Cond.laysFinal RX4 "FrameClocks$State" "chaser0" "LFrameClocks$Chaser;" ∈ wB := wB_in 203 (by decide +kernel) (by decide +kernel)
theorem wq205 : Cond.laysFinal RX4 "FrameClocks$State" "chaser1" "LFrameClocks$Chaser;" ∈ wB := wB_in 205 (by decide +kernel) (by decide +kernel)
theorem wq207 : Cond.laysFinal RX4 "FrameClocks$State" "chaser2" "LFrameClocks$Chaser;" ∈ wB := wB_in 207 (by decide +kernel) (by decide +kernel)
theorem wq210 : Cond.classLink RX8 16 RX1 ∈ wB := wB_in 210 (by decide +kernel) (by decide +kernel)
theorem wq211 : Cond.instantiable RX1 3 ∈ wB := wB_in 211 (by decide +kernel) (by decide +kernel)
theorem wq213 : Cond.instanceMethod yX1_init ∈ wB := wB_in 213 (by decide +kernel) (by decide +kernel)
theorem wq214 : Cond.code yX1_init cX1_init 1 none ∈ wB := wB_in 214 (by decide +kernel) (by decide +kernel)
theorem wq215 : Cond.methodLink RX1 1 objectInit ∈ wB := wB_in 215 (by decide +kernel) (by decide +kernel)
theorem wq216 : Cond.classLink RX1 9 RX4 ∈ wB := wB_in 216 (by decide +kernel) (by decide +kernel)
theorem wq218 : Cond.fieldLink RX1 11 "FrameClocks$History" "ring" "[LFrameClocks$State;" ∈ wB := wB_in 218 (by decide +kernel) (by decide +kernel)
theorem wq219 : Cond.fieldLink RX1 15 "FrameClocks$History" "next" "I" ∈ wB := wB_in 219 (by decide +kernel) (by decide +kernel)
theorem wq220 : Cond.fieldLink RX1 30 "FrameClocks$History" "known" "I" ∈ wB := wB_in 220 (by decide +kernel) (by decide +kernel)
theorem wq221 : Cond.fieldLink RX8 225 "FrameClocks$History" "known" "I" ∈ wB := wB_in 221 (by decide +kernel) (by decide +kernel)
theorem wq222 : Cond.laysFinal RX1 "FrameClocks$History" "ring" "[LFrameClocks$State;" ∈ wB := wB_in 222 (by decide +kernel) (by decide +kernel)
theorem wq224 : Cond.lays RX1 "FrameClocks$History" "next" "I" ∈ wB := wB_in 224 (by decide +kernel) (by decide +kernel)
theorem wq226 : Cond.lays RX1 "FrameClocks$History" "known" "I" ∈ wB := wB_in 226 (by decide +kernel) (by decide +kernel)
theorem wq229 : Cond.classLink RX8 27 RX0 ∈ wB := wB_in 229 (by decide +kernel) (by decide +kernel)
theorem wq231 : Cond.fieldLink RX8 10 "FrameClocks" "now" "LFrameClocks$State;" ∈ wB := wB_in 231 (by decide +kernel) (by decide +kernel)
theorem wq232 : Cond.fieldLink RX8 19 "FrameClocks" "history" "LFrameClocks$History;" ∈ wB := wB_in 232 (by decide +kernel) (by decide +kernel)
theorem wq233 : Cond.fieldLink RX8 23 "FrameClocks" "images" "[LFrameClocks$State;" ∈ wB := wB_in 233 (by decide +kernel) (by decide +kernel)
theorem wq234 : Cond.fieldLink RX8 30 "FrameClocks" "probe" "LFrameClocks$Chaser;" ∈ wB := wB_in 234 (by decide +kernel) (by decide +kernel)
theorem wq235 : Cond.fieldLink RX8 34 "FrameClocks" "seenNumbers" "[I" ∈ wB := wB_in 235 (by decide +kernel) (by decide +kernel)
theorem wq236 : Cond.fieldLink RX8 38 "FrameClocks" "seenFrames" "[I" ∈ wB := wB_in 236 (by decide +kernel) (by decide +kernel)
theorem wq237 : Cond.fieldLink RX8 228 "FrameClocks" "seen" "I" ∈ wB := wB_in 237 (by decide +kernel) (by decide +kernel)
theorem wq238 : Cond.laysFinal RX8 "FrameClocks" "now" "LFrameClocks$State;" ∈ wB := wB_in 238 (by decide +kernel) (by decide +kernel)
theorem wq240 : Cond.laysFinal RX8 "FrameClocks" "history" "LFrameClocks$History;" ∈ wB := wB_in 240 (by decide +kernel) (by decide +kernel)
theorem wq242 : Cond.laysFinal RX8 "FrameClocks" "images" "[LFrameClocks$State;" ∈ wB := wB_in 242 (by decide +kernel) (by decide +kernel)
theorem wq244 : Cond.laysFinal RX8 "FrameClocks" "probe" "LFrameClocks$Chaser;" ∈ wB := wB_in 244 (by decide +kernel) (by decide +kernel)
theorem wq246 : Cond.laysFinal RX8 "FrameClocks" "seenNumbers" "[I" ∈ wB := wB_in 246 (by decide +kernel) (by decide +kernel)
theorem wq248 : Cond.laysFinal RX8 "FrameClocks" "seenFrames" "[I" ∈ wB := wB_in 248 (by decide +kernel) (by decide +kernel)
theorem wq250 : Cond.lays RX8 "FrameClocks" "seen" "I" ∈ wB := wB_in 250 (by decide +kernel) (by decide +kernel)
theorem wq253 : Cond.methodLink RL 13 yX8_rates ∈ wB := wB_in 253 (by decide +kernel) (by decide +kernel)
theorem wq254 : Cond.instanceMethod yX8_rates ∈ wB := wB_in 254 (by decide +kernel) (by decide +kernel)
theorem wq255 : Cond.selects RX8 yX8_rates yX8_rates ∈ wB := wB_in 255 (by decide +kernel) (by decide +kernel)
theorem wq256 : Cond.code yX8_rates cX8_rates 3 (some .int) ∈ wB := wB_in 256 (by decide +kernel) (by decide +kernel)
theorem wq257 : Cond.methodLink RX8 47 yX1_add ∈ wB := wB_in 257 (by decide +kernel) (by decide +kernel)
theorem wq258 : Cond.instanceMethod yX1_add ∈ wB := wB_in 258 (by decide +kernel) (by decide +kernel)
theorem wq259 : Cond.selects RX1 yX1_add yX1_add ∈ wB := wB_in 259 (by decide +kernel) (by decide +kernel)
theorem wq260 : Cond.code yX1_add cX1_add 4 none ∈ wB := wB_in 260 (by decide +kernel) (by decide +kernel)
theorem wq261 : Cond.methodLink RX1 19 yJ9_floorMod_7cf53 ∈ wB := wB_in 261 (by decide +kernel) (by decide +kernel)
theorem wq262 : Cond.static yJ9_floorMod_7cf53 ∈ wB := wB_in 262 (by decide +kernel) (by decide +kernel)
theorem wq263 : Cond.code yJ9_floorMod_7cf53 cJ9_floorMod_7cf53 3 (some .int) ∈ wB := wB_in 263 (by decide +kernel) (by decide +kernel)
theorem wq265 : Cond.methodLink RX1 26 yX4_copy ∈ wB := wB_in 265 (by decide +kernel) (by decide +kernel)
theorem wq266 : Cond.instanceMethod yX4_copy ∈ wB := wB_in 266 (by decide +kernel) (by decide +kernel)
theorem wq267 : Cond.selects RX4 yX4_copy yX4_copy ∈ wB := wB_in 267 (by decide +kernel) (by decide +kernel)
theorem wq268 : Cond.code yX4_copy cX4_copy 2 none ∈ wB := wB_in 268 (by decide +kernel) (by decide +kernel)
theorem wq269 : Cond.methodLink RX4 115 yX5_copy ∈ wB := wB_in 269 (by decide +kernel) (by decide +kernel)
theorem wq270 : Cond.instanceMethod yX5_copy ∈ wB := wB_in 270 (by decide +kernel) (by decide +kernel)
theorem wq271 : Cond.selects RX5 yX5_copy yX5_copy ∈ wB := wB_in 271 (by decide +kernel) (by decide +kernel)
theorem wq272 : Cond.code yX5_copy cX5_copy 2 none ∈ wB := wB_in 272 (by decide +kernel) (by decide +kernel)
theorem wq273 : Cond.methodLink RX5 44 arraycopyName ∈ wB := wB_in 273 (by decide +kernel) (by decide +kernel)
theorem wq274 : Cond.static arraycopyName ∈ wB := wB_in 274 (by decide +kernel) (by decide +kernel)
theorem wq275 : Cond.native arraycopyName ∈ wB := wB_in 275 (by decide +kernel) (by decide +kernel)
theorem wq276 : Cond.methodLink RX4 119 yX3_copy ∈ wB := wB_in 276 (by decide +kernel) (by decide +kernel)
theorem wq277 : Cond.instanceMethod yX3_copy ∈ wB := wB_in 277 (by decide +kernel) (by decide +kernel)
theorem wq278 : Cond.selects RX3 yX3_copy yX3_copy ∈ wB := wB_in 278 (by decide +kernel) (by decide +kernel)
theorem wq279 : Cond.code yX3_copy cX3_copy 2 none ∈ wB := wB_in 279 (by decide +kernel) (by decide +kernel)
theorem wq280 : Cond.methodLink RX4 122 yX6_copy ∈ wB := wB_in 280 (by decide +kernel) (by decide +kernel)
theorem wq281 : Cond.instanceMethod yX6_copy ∈ wB := wB_in 281 (by decide +kernel) (by decide +kernel)
theorem wq282 : Cond.selects RX6 yX6_copy yX6_copy ∈ wB := wB_in 282 (by decide +kernel) (by decide +kernel)
theorem wq283 : Cond.code yX6_copy cX6_copy 2 none ∈ wB := wB_in 283 (by decide +kernel) (by decide +kernel)
theorem wq284 : Cond.methodLink RX4 125 yX0_copy ∈ wB := wB_in 284 (by decide +kernel) (by decide +kernel)
theorem wq285 : Cond.instanceMethod yX0_copy ∈ wB := wB_in 285 (by decide +kernel) (by decide +kernel)
theorem wq286 : Cond.selects RX0 yX0_copy yX0_copy ∈ wB := wB_in 286 (by decide +kernel) (by decide +kernel)
theorem wq287 : Cond.code yX0_copy cX0_copy 2 none ∈ wB := wB_in 287 (by decide +kernel) (by decide +kernel)
theorem wq288 : Cond.methodLink RX1 33 Lib.Math.min.name ∈ wB := wB_in 288 (by decide +kernel) (by decide +kernel)
theorem wq289 : Cond.static Lib.Math.min.name ∈ wB := wB_in 289 (by decide +kernel) (by decide +kernel)
theorem wq290 : Cond.code Lib.Math.min.name Lib.Math.min.code 2 (some .int) ∈ wB := wB_in 290 (by decide +kernel) (by decide +kernel)
theorem wq291 : Cond.methodLink RX8 51 yX4_turnTo ∈ wB := wB_in 291 (by decide +kernel) (by decide +kernel)
theorem wq292 : Cond.instanceMethod yX4_turnTo ∈ wB := wB_in 292 (by decide +kernel) (by decide +kernel)
theorem wq293 : Cond.selects RX4 yX4_turnTo yX4_turnTo ∈ wB := wB_in 293 (by decide +kernel) (by decide +kernel)
theorem wq294 : Cond.code yX4_turnTo cX4_turnTo 3 none ∈ wB := wB_in 294 (by decide +kernel) (by decide +kernel)
theorem wq295 : Cond.methodLink RX4 53 yX4_day ∈ wB := wB_in 295 (by decide +kernel) (by decide +kernel)
theorem wq296 : Cond.instanceMethod yX4_day ∈ wB := wB_in 296 (by decide +kernel) (by decide +kernel)
theorem wq297 : Cond.selects RX4 yX4_day yX4_day ∈ wB := wB_in 297 (by decide +kernel) (by decide +kernel)
theorem wq298 : Cond.code yX4_day cX4_day 1 (some .int) ∈ wB := wB_in 298 (by decide +kernel) (by decide +kernel)
theorem wq299 : Cond.methodLink RX4 47 yX2_dayOf ∈ wB := wB_in 299 (by decide +kernel) (by decide +kernel)
theorem wq300 : Cond.static yX2_dayOf ∈ wB := wB_in 300 (by decide +kernel) (by decide +kernel)
theorem wq301 : Cond.code yX2_dayOf cX2_dayOf 1 (some .int) ∈ wB := wB_in 301 (by decide +kernel) (by decide +kernel)
theorem wq302 : Cond.constant RX2 9 (2073600) ∈ wB := wB_in 302 (by decide +kernel) (by decide +kernel)
theorem wq303 : Cond.constant RX2 10 (2160000) ∈ wB := wB_in 303 (by decide +kernel) (by decide +kernel)
theorem wq304 : Cond.constant RX2 11 (2592000) ∈ wB := wB_in 304 (by decide +kernel) (by decide +kernel)
theorem wq305 : Cond.constant RX2 12 (2589408) ∈ wB := wB_in 305 (by decide +kernel) (by decide +kernel)
theorem wq306 : Cond.methodLink RX4 57 yX5_wrap ∈ wB := wB_in 306 (by decide +kernel) (by decide +kernel)
theorem wq307 : Cond.instanceMethod yX5_wrap ∈ wB := wB_in 307 (by decide +kernel) (by decide +kernel)
theorem wq308 : Cond.selects RX5 yX5_wrap yX5_wrap ∈ wB := wB_in 308 (by decide +kernel) (by decide +kernel)
theorem wq309 : Cond.code yX5_wrap cX5_wrap 3 none ∈ wB := wB_in 309 (by decide +kernel) (by decide +kernel)
theorem wq310 : Cond.methodLink RX5 34 yJ9_floorMod_7cf53 ∈ wB := wB_in 310 (by decide +kernel) (by decide +kernel)
theorem wq311 : Cond.methodLink RX4 64 yJ9_floorMod_7cf53 ∈ wB := wB_in 311 (by decide +kernel) (by decide +kernel)
theorem wq312 : Cond.methodLink RL 18 yX8_number ∈ wB := wB_in 312 (by decide +kernel) (by decide +kernel)
theorem wq313 : Cond.instanceMethod yX8_number ∈ wB := wB_in 313 (by decide +kernel) (by decide +kernel)
theorem wq314 : Cond.selects RX8 yX8_number yX8_number ∈ wB := wB_in 314 (by decide +kernel) (by decide +kernel)
theorem wq315 : Cond.code yX8_number cX8_number 2 (some .int) ∈ wB := wB_in 315 (by decide +kernel) (by decide +kernel)
theorem wq316 : Cond.methodLink RX8 55 yX8_isFrame ∈ wB := wB_in 316 (by decide +kernel) (by decide +kernel)
theorem wq318 : Cond.instanceMethod yX8_isFrame ∈ wB := wB_in 318 (by decide +kernel) (by decide +kernel)
theorem wq319 : Cond.code yX8_isFrame cX8_isFrame 2 (some .boolean) ∈ wB := wB_in 319 (by decide +kernel) (by decide +kernel)
theorem wq320 : Cond.methodLink RX8 197 yX4_day ∈ wB := wB_in 320 (by decide +kernel) (by decide +kernel)
theorem wq321 : Cond.methodLink RX8 59 yX2_numberOf ∈ wB := wB_in 321 (by decide +kernel) (by decide +kernel)
theorem wq322 : Cond.static yX2_numberOf ∈ wB := wB_in 322 (by decide +kernel) (by decide +kernel)
theorem wq323 : Cond.code yX2_numberOf cX2_numberOf 6 (some .int) ∈ wB := wB_in 323 (by decide +kernel) (by decide +kernel)
theorem wq324 : Cond.methodLink RX2 15 yX2_framesASecond ∈ wB := wB_in 324 (by decide +kernel) (by decide +kernel)
theorem wq325 : Cond.static yX2_framesASecond ∈ wB := wB_in 325 (by decide +kernel) (by decide +kernel)
theorem wq326 : Cond.code yX2_framesASecond cX2_framesASecond 1 (some .int) ∈ wB := wB_in 326 (by decide +kernel) (by decide +kernel)
theorem wq327 : Cond.methodLink RX2 19 yX2_leftOutUpTo ∈ wB := wB_in 327 (by decide +kernel) (by decide +kernel)
theorem wq328 : Cond.static yX2_leftOutUpTo ∈ wB := wB_in 328 (by decide +kernel) (by decide +kernel)
theorem wq329 : Cond.code yX2_leftOutUpTo cX2_leftOutUpTo 5 (some .int) ∈ wB := wB_in 329 (by decide +kernel) (by decide +kernel)
theorem wq330 : Cond.constant RX2 23 (1000000) ∈ wB := wB_in 330 (by decide +kernel) (by decide +kernel)
theorem wq331 : Cond.methodLink RL 22 yX8_frame ∈ wB := wB_in 331 (by decide +kernel) (by decide +kernel)
theorem wq332 : Cond.instanceMethod yX8_frame ∈ wB := wB_in 332 (by decide +kernel) (by decide +kernel)
theorem wq333 : Cond.selects RX8 yX8_frame yX8_frame ∈ wB := wB_in 333 (by decide +kernel) (by decide +kernel)
theorem wq334 : Cond.code yX8_frame cX8_frame 2 (some .int) ∈ wB := wB_in 334 (by decide +kernel) (by decide +kernel)
theorem wq335 : Cond.methodLink RX8 63 yX8_isNumber ∈ wB := wB_in 335 (by decide +kernel) (by decide +kernel)
theorem wq336 : Cond.static yX8_isNumber ∈ wB := wB_in 336 (by decide +kernel) (by decide +kernel)
theorem wq337 : Cond.code yX8_isNumber cX8_isNumber 1 (some .boolean) ∈ wB := wB_in 337 (by decide +kernel) (by decide +kernel)
theorem wq338 : Cond.constant RX8 236 (23595999) ∈ wB := wB_in 338 (by decide +kernel) (by decide +kernel)
theorem wq339 : Cond.methodLink RX8 66 yX2_frameOf ∈ wB := wB_in 339 (by decide +kernel) (by decide +kernel)
theorem wq340 : Cond.static yX2_frameOf ∈ wB := wB_in 340 (by decide +kernel) (by decide +kernel)
theorem wq341 : Cond.code yX2_frameOf cX2_frameOf 9 (some .int) ∈ wB := wB_in 341 (by decide +kernel) (by decide +kernel)
theorem wq342 : Cond.methodLink RL 26 yX8_dropped ∈ wB := wB_in 342 (by decide +kernel) (by decide +kernel)
theorem wq343 : Cond.instanceMethod yX8_dropped ∈ wB := wB_in 343 (by decide +kernel) (by decide +kernel)
theorem wq344 : Cond.selects RX8 yX8_dropped yX8_dropped ∈ wB := wB_in 344 (by decide +kernel) (by decide +kernel)
theorem wq345 : Cond.code yX8_dropped cX8_dropped 4 (some .int) ∈ wB := wB_in 345 (by decide +kernel) (by decide +kernel)
theorem wq346 : Cond.methodLink RX8 69 yX2_leftOutUpTo ∈ wB := wB_in 346 (by decide +kernel) (by decide +kernel)
theorem wq347 : Cond.methodLink RX8 72 yX2_leftOutInDay ∈ wB := wB_in 347 (by decide +kernel) (by decide +kernel)
theorem wq348 : Cond.static yX2_leftOutInDay ∈ wB := wB_in 348 (by decide +kernel) (by decide +kernel)
theorem wq349 : Cond.code yX2_leftOutInDay cX2_leftOutInDay 1 (some .int) ∈ wB := wB_in 349 (by decide +kernel) (by decide +kernel)
theorem wq350 : Cond.methodLink RL 31 yX8_lays ∈ wB := wB_in 350 (by decide +kernel) (by decide +kernel)
theorem wq351 : Cond.instanceMethod yX8_lays ∈ wB := wB_in 351 (by decide +kernel) (by decide +kernel)
theorem wq352 : Cond.selects RX8 yX8_lays yX8_lays ∈ wB := wB_in 352 (by decide +kernel) (by decide +kernel)
theorem wq353 : Cond.code yX8_lays cX8_lays 4 (some .int) ∈ wB := wB_in 353 (by decide +kernel) (by decide +kernel)
theorem wq354 : Cond.methodLink RX8 85 yX5_append ∈ wB := wB_in 354 (by decide +kernel) (by decide +kernel)
theorem wq355 : Cond.instanceMethod yX5_append ∈ wB := wB_in 355 (by decide +kernel) (by decide +kernel)
theorem wq356 : Cond.selects RX5 yX5_append yX5_append ∈ wB := wB_in 356 (by decide +kernel) (by decide +kernel)
theorem wq357 : Cond.code yX5_append cX5_append 4 none ∈ wB := wB_in 357 (by decide +kernel) (by decide +kernel)
theorem wq358 : Cond.methodLink RL 36 yX8_winds ∈ wB := wB_in 358 (by decide +kernel) (by decide +kernel)
theorem wq359 : Cond.instanceMethod yX8_winds ∈ wB := wB_in 359 (by decide +kernel) (by decide +kernel)
theorem wq360 : Cond.selects RX8 yX8_winds yX8_winds ∈ wB := wB_in 360 (by decide +kernel) (by decide +kernel)
theorem wq361 : Cond.code yX8_winds cX8_winds 3 (some .int) ∈ wB := wB_in 361 (by decide +kernel) (by decide +kernel)
theorem wq362 : Cond.methodLink RX8 89 yX5_bitsInAll ∈ wB := wB_in 362 (by decide +kernel) (by decide +kernel)
theorem wq363 : Cond.instanceMethod yX5_bitsInAll ∈ wB := wB_in 363 (by decide +kernel) (by decide +kernel)
theorem wq364 : Cond.selects RX5 yX5_bitsInAll yX5_bitsInAll ∈ wB := wB_in 364 (by decide +kernel) (by decide +kernel)
theorem wq365 : Cond.code yX5_bitsInAll cX5_bitsInAll 1 (some .int) ∈ wB := wB_in 365 (by decide +kernel) (by decide +kernel)
theorem wq366 : Cond.methodLink RL 40 yX8_bit ∈ wB := wB_in 366 (by decide +kernel) (by decide +kernel)
theorem wq367 : Cond.instanceMethod yX8_bit ∈ wB := wB_in 367 (by decide +kernel) (by decide +kernel)
theorem wq368 : Cond.selects RX8 yX8_bit yX8_bit ∈ wB := wB_in 368 (by decide +kernel) (by decide +kernel)
theorem wq369 : Cond.code yX8_bit cX8_bit 2 (some .int) ∈ wB := wB_in 369 (by decide +kernel) (by decide +kernel)
theorem wq370 : Cond.methodLink RX8 98 yX5_wordAt ∈ wB := wB_in 370 (by decide +kernel) (by decide +kernel)
theorem wq371 : Cond.instanceMethod yX5_wordAt ∈ wB := wB_in 371 (by decide +kernel) (by decide +kernel)
theorem wq372 : Cond.selects RX5 yX5_wordAt yX5_wordAt ∈ wB := wB_in 372 (by decide +kernel) (by decide +kernel)
theorem wq373 : Cond.code yX5_wordAt cX5_wordAt 5 (some .long) ∈ wB := wB_in 373 (by decide +kernel) (by decide +kernel)
theorem wq374 : Cond.methodLink RX5 28 yX2_dayOf ∈ wB := wB_in 374 (by decide +kernel) (by decide +kernel)
theorem wq375 : Cond.methodLink RX5 40 yX7_wordOf ∈ wB := wB_in 375 (by decide +kernel) (by decide +kernel)
theorem wq376 : Cond.static yX7_wordOf ∈ wB := wB_in 376 (by decide +kernel) (by decide +kernel)
theorem wq377 : Cond.code yX7_wordOf cX7_wordOf 6 (some .long) ∈ wB := wB_in 377 (by decide +kernel) (by decide +kernel)
theorem wq378 : Cond.methodLink RX7 9 yX2_numberOf ∈ wB := wB_in 378 (by decide +kernel) (by decide +kernel)
theorem wq379 : Cond.methodLink RX7 15 yX7_digits ∈ wB := wB_in 379 (by decide +kernel) (by decide +kernel)
theorem wq380 : Cond.static yX7_digits ∈ wB := wB_in 380 (by decide +kernel) (by decide +kernel)
theorem wq381 : Cond.code yX7_digits cX7_digits 1 (some .int) ∈ wB := wB_in 381 (by decide +kernel) (by decide +kernel)
theorem wq382 : Cond.constant RX7 21 (1000000) ∈ wB := wB_in 382 (by decide +kernel) (by decide +kernel)
theorem wq383 : Cond.constant RX7 22 (67108864) ∈ wB := wB_in 383 (by decide +kernel) (by decide +kernel)
theorem wq384 : Cond.methodLink RX7 23 yJ6_bitCount_0f7a4 ∈ wB := wB_in 384 (by decide +kernel) (by decide +kernel)
theorem wq385 : Cond.static yJ6_bitCount_0f7a4 ∈ wB := wB_in 385 (by decide +kernel) (by decide +kernel)
theorem wq386 : Cond.code yJ6_bitCount_0f7a4 cJ6_bitCount_0f7a4 1 (some .int) ∈ wB := wB_in 386 (by decide +kernel) (by decide +kernel)
theorem wq387 : Cond.constant RJ6 265 (1431655765) ∈ wB := wB_in 387 (by decide +kernel) (by decide +kernel)
theorem wq388 : Cond.constant RJ6 266 (858993459) ∈ wB := wB_in 388 (by decide +kernel) (by decide +kernel)
theorem wq389 : Cond.constant RJ6 267 (252645135) ∈ wB := wB_in 389 (by decide +kernel) (by decide +kernel)
theorem wq390 : Cond.constantLong RX7 28 (4294967295) ∈ wB := wB_in 390 (by decide +kernel) (by decide +kernel)
theorem wq391 : Cond.constantLong RX7 30 (211089052663808) ∈ wB := wB_in 391 (by decide +kernel) (by decide +kernel)
theorem wq392 : Cond.methodLink RX8 102 yX7_bitOf ∈ wB := wB_in 392 (by decide +kernel) (by decide +kernel)
theorem wq393 : Cond.static yX7_bitOf ∈ wB := wB_in 393 (by decide +kernel) (by decide +kernel)
theorem wq394 : Cond.code yX7_bitOf cX7_bitOf 3 (some .int) ∈ wB := wB_in 394 (by decide +kernel) (by decide +kernel)
theorem wq395 : Cond.methodLink RL 44 yX8_plays ∈ wB := wB_in 395 (by decide +kernel) (by decide +kernel)
theorem wq396 : Cond.instanceMethod yX8_plays ∈ wB := wB_in 396 (by decide +kernel) (by decide +kernel)
theorem wq397 : Cond.selects RX8 yX8_plays yX8_plays ∈ wB := wB_in 397 (by decide +kernel) (by decide +kernel)
theorem wq398 : Cond.code yX8_plays cX8_plays 7 (some .int) ∈ wB := wB_in 398 (by decide +kernel) (by decide +kernel)
theorem wq399 : Cond.methodLink RX8 106 Lib.Math.min.name ∈ wB := wB_in 399 (by decide +kernel) (by decide +kernel)
theorem wq400 : Cond.methodLink RX8 111 yX4_play ∈ wB := wB_in 400 (by decide +kernel) (by decide +kernel)
theorem wq401 : Cond.instanceMethod yX4_play ∈ wB := wB_in 401 (by decide +kernel) (by decide +kernel)
theorem wq402 : Cond.selects RX4 yX4_play yX4_play ∈ wB := wB_in 402 (by decide +kernel) (by decide +kernel)
theorem wq403 : Cond.code yX4_play cX4_play 11 none ∈ wB := wB_in 403 (by decide +kernel) (by decide +kernel)
theorem wq404 : Cond.methodLink RX4 78 yX5_wordAt ∈ wB := wB_in 404 (by decide +kernel) (by decide +kernel)
theorem wq405 : Cond.methodLink RX4 82 yX7_bitOf ∈ wB := wB_in 405 (by decide +kernel) (by decide +kernel)
theorem wq406 : Cond.methodLink RX4 86 yX4_hear ∈ wB := wB_in 406 (by decide +kernel) (by decide +kernel)
theorem wq407 : Cond.instanceMethod yX4_hear ∈ wB := wB_in 407 (by decide +kernel) (by decide +kernel)
theorem wq408 : Cond.selects RX4 yX4_hear yX4_hear ∈ wB := wB_in 408 (by decide +kernel) (by decide +kernel)
theorem wq409 : Cond.code yX4_hear cX4_hear 3 none ∈ wB := wB_in 409 (by decide +kernel) (by decide +kernel)
theorem wq410 : Cond.methodLink RX4 89 yX3_take ∈ wB := wB_in 410 (by decide +kernel) (by decide +kernel)
theorem wq411 : Cond.instanceMethod yX3_take ∈ wB := wB_in 411 (by decide +kernel) (by decide +kernel)
theorem wq412 : Cond.selects RX3 yX3_take yX3_take ∈ wB := wB_in 412 (by decide +kernel) (by decide +kernel)
theorem wq413 : Cond.code yX3_take cX3_take 2 (some .int) ∈ wB := wB_in 413 (by decide +kernel) (by decide +kernel)
theorem wq414 : Cond.methodLink RX3 27 yX3_adapt ∈ wB := wB_in 414 (by decide +kernel) (by decide +kernel)
theorem wq416 : Cond.instanceMethod yX3_adapt ∈ wB := wB_in 416 (by decide +kernel) (by decide +kernel)
theorem wq417 : Cond.code yX3_adapt cX3_adapt 2 none ∈ wB := wB_in 417 (by decide +kernel) (by decide +kernel)
theorem wq418 : Cond.methodLink RX3 35 Lib.Math.max.name ∈ wB := wB_in 418 (by decide +kernel) (by decide +kernel)
theorem wq419 : Cond.static Lib.Math.max.name ∈ wB := wB_in 419 (by decide +kernel) (by decide +kernel)
theorem wq420 : Cond.code Lib.Math.max.name Lib.Math.max.code 2 (some .int) ∈ wB := wB_in 420 (by decide +kernel) (by decide +kernel)
theorem wq421 : Cond.methodLink RX3 31 yX3_tell ∈ wB := wB_in 421 (by decide +kernel) (by decide +kernel)
theorem wq423 : Cond.instanceMethod yX3_tell ∈ wB := wB_in 423 (by decide +kernel) (by decide +kernel)
theorem wq424 : Cond.code yX3_tell cX3_tell 3 (some .int) ∈ wB := wB_in 424 (by decide +kernel) (by decide +kernel)
theorem wq425 : Cond.methodLink RX3 50 Lib.Math.min.name ∈ wB := wB_in 425 (by decide +kernel) (by decide +kernel)
theorem wq426 : Cond.constantLong RX3 53 (49148) ∈ wB := wB_in 426 (by decide +kernel) (by decide +kernel)
theorem wq427 : Cond.constantLong RX3 55 (65535) ∈ wB := wB_in 427 (by decide +kernel) (by decide +kernel)
theorem wq428 : Cond.constantLong RX3 57 (16381) ∈ wB := wB_in 428 (by decide +kernel) (by decide +kernel)
theorem wq429 : Cond.methodLink RX4 92 yX3_accept ∈ wB := wB_in 429 (by decide +kernel) (by decide +kernel)
theorem wq430 : Cond.instanceMethod yX3_accept ∈ wB := wB_in 430 (by decide +kernel) (by decide +kernel)
theorem wq431 : Cond.selects RX3 yX3_accept yX3_accept ∈ wB := wB_in 431 (by decide +kernel) (by decide +kernel)
theorem wq432 : Cond.code yX3_accept cX3_accept 7 (some .boolean) ∈ wB := wB_in 432 (by decide +kernel) (by decide +kernel)
theorem wq433 : Cond.constantLong RX3 59 (4294967295) ∈ wB := wB_in 433 (by decide +kernel) (by decide +kernel)
theorem wq434 : Cond.methodLink RX3 61 yX7_turned ∈ wB := wB_in 434 (by decide +kernel) (by decide +kernel)
theorem wq435 : Cond.static yX7_turned ∈ wB := wB_in 435 (by decide +kernel) (by decide +kernel)
theorem wq436 : Cond.code yX7_turned cX7_turned 5 (some .long) ∈ wB := wB_in 436 (by decide +kernel) (by decide +kernel)
theorem wq437 : Cond.methodLink RX3 65 yX3_letGo ∈ wB := wB_in 437 (by decide +kernel) (by decide +kernel)
theorem wq439 : Cond.instanceMethod yX3_letGo ∈ wB := wB_in 439 (by decide +kernel) (by decide +kernel)
theorem wq440 : Cond.code yX3_letGo cX3_letGo 1 none ∈ wB := wB_in 440 (by decide +kernel) (by decide +kernel)
theorem wq441 : Cond.methodLink RX3 68 yX7_numberIn ∈ wB := wB_in 441 (by decide +kernel) (by decide +kernel)
theorem wq442 : Cond.static yX7_numberIn ∈ wB := wB_in 442 (by decide +kernel) (by decide +kernel)
theorem wq443 : Cond.code yX7_numberIn cX7_numberIn 8 (some .int) ∈ wB := wB_in 443 (by decide +kernel) (by decide +kernel)
theorem wq444 : Cond.methodLink RX3 72 yX2_frameOf ∈ wB := wB_in 444 (by decide +kernel) (by decide +kernel)
theorem wq445 : Cond.methodLink RX3 80 yX2_dayOf ∈ wB := wB_in 445 (by decide +kernel) (by decide +kernel)
theorem wq446 : Cond.methodLink RX3 84 yX3_follow ∈ wB := wB_in 446 (by decide +kernel) (by decide +kernel)
theorem wq448 : Cond.instanceMethod yX3_follow ∈ wB := wB_in 448 (by decide +kernel) (by decide +kernel)
theorem wq449 : Cond.code yX3_follow cX3_follow 5 none ∈ wB := wB_in 449 (by decide +kernel) (by decide +kernel)
theorem wq450 : Cond.methodLink RX3 103 yX3_hasRead ∈ wB := wB_in 450 (by decide +kernel) (by decide +kernel)
theorem wq451 : Cond.instanceMethod yX3_hasRead ∈ wB := wB_in 451 (by decide +kernel) (by decide +kernel)
theorem wq452 : Cond.selects RX3 yX3_hasRead yX3_hasRead ∈ wB := wB_in 452 (by decide +kernel) (by decide +kernel)
theorem wq453 : Cond.code yX3_hasRead cX3_hasRead 1 (some .boolean) ∈ wB := wB_in 453 (by decide +kernel) (by decide +kernel)
theorem wq454 : Cond.methodLink RX3 107 yJ9_floorMod_7cf53 ∈ wB := wB_in 454 (by decide +kernel) (by decide +kernel)
theorem wq455 : Cond.methodLink RX3 94 yX7_userIn ∈ wB := wB_in 455 (by decide +kernel) (by decide +kernel)
theorem wq456 : Cond.static yX7_userIn ∈ wB := wB_in 456 (by decide +kernel) (by decide +kernel)
theorem wq457 : Cond.code yX7_userIn cX7_userIn 2 (some .int) ∈ wB := wB_in 457 (by decide +kernel) (by decide +kernel)
theorem wq458 : Cond.methodLink RX4 96 yX3_isLocked ∈ wB := wB_in 458 (by decide +kernel) (by decide +kernel)
theorem wq459 : Cond.instanceMethod yX3_isLocked ∈ wB := wB_in 459 (by decide +kernel) (by decide +kernel)
theorem wq460 : Cond.selects RX3 yX3_isLocked yX3_isLocked ∈ wB := wB_in 460 (by decide +kernel) (by decide +kernel)
theorem wq461 : Cond.code yX3_isLocked cX3_isLocked 1 (some .boolean) ∈ wB := wB_in 461 (by decide +kernel) (by decide +kernel)
theorem wq462 : Cond.methodLink RX4 104 yX6_standAt ∈ wB := wB_in 462 (by decide +kernel) (by decide +kernel)
theorem wq463 : Cond.instanceMethod yX6_standAt ∈ wB := wB_in 463 (by decide +kernel) (by decide +kernel)
theorem wq464 : Cond.selects RX6 yX6_standAt yX6_standAt ∈ wB := wB_in 464 (by decide +kernel) (by decide +kernel)
theorem wq465 : Cond.code yX6_standAt cX6_standAt 3 none ∈ wB := wB_in 465 (by decide +kernel) (by decide +kernel)
theorem wq466 : Cond.methodLink RL 49 yX8_edge ∈ wB := wB_in 466 (by decide +kernel) (by decide +kernel)
theorem wq467 : Cond.instanceMethod yX8_edge ∈ wB := wB_in 467 (by decide +kernel) (by decide +kernel)
theorem wq468 : Cond.selects RX8 yX8_edge yX8_edge ∈ wB := wB_in 468 (by decide +kernel) (by decide +kernel)
theorem wq469 : Cond.code yX8_edge cX8_edge 2 (some .int) ∈ wB := wB_in 469 (by decide +kernel) (by decide +kernel)
theorem wq470 : Cond.methodLink RX8 115 yX4_hear ∈ wB := wB_in 470 (by decide +kernel) (by decide +kernel)
theorem wq471 : Cond.methodLink RL 53 yX8_begins ∈ wB := wB_in 471 (by decide +kernel) (by decide +kernel)
theorem wq472 : Cond.instanceMethod yX8_begins ∈ wB := wB_in 472 (by decide +kernel) (by decide +kernel)
theorem wq473 : Cond.selects RX8 yX8_begins yX8_begins ∈ wB := wB_in 473 (by decide +kernel) (by decide +kernel)
theorem wq474 : Cond.code yX8_begins cX8_begins 2 (some .int) ∈ wB := wB_in 474 (by decide +kernel) (by decide +kernel)
theorem wq475 : Cond.methodLink RX8 130 yX3_startAnew ∈ wB := wB_in 475 (by decide +kernel) (by decide +kernel)
theorem wq476 : Cond.instanceMethod yX3_startAnew ∈ wB := wB_in 476 (by decide +kernel) (by decide +kernel)
theorem wq477 : Cond.selects RX3 yX3_startAnew yX3_startAnew ∈ wB := wB_in 477 (by decide +kernel) (by decide +kernel)
theorem wq478 : Cond.code yX3_startAnew cX3_startAnew 1 none ∈ wB := wB_in 478 (by decide +kernel) (by decide +kernel)
theorem wq479 : Cond.methodLink RL 58 yX8_reader ∈ wB := wB_in 479 (by decide +kernel) (by decide +kernel)
theorem wq480 : Cond.instanceMethod yX8_reader ∈ wB := wB_in 480 (by decide +kernel) (by decide +kernel)
theorem wq481 : Cond.selects RX8 yX8_reader yX8_reader ∈ wB := wB_in 481 (by decide +kernel) (by decide +kernel)
theorem wq482 : Cond.code yX8_reader cX8_reader 3 (some .int) ∈ wB := wB_in 482 (by decide +kernel) (by decide +kernel)
theorem wq483 : Cond.methodLink RL 62 yX8_reading ∈ wB := wB_in 483 (by decide +kernel) (by decide +kernel)
theorem wq484 : Cond.instanceMethod yX8_reading ∈ wB := wB_in 484 (by decide +kernel) (by decide +kernel)
theorem wq485 : Cond.selects RX8 yX8_reading yX8_reading ∈ wB := wB_in 485 (by decide +kernel) (by decide +kernel)
theorem wq486 : Cond.code yX8_reading cX8_reading 3 (some .int) ∈ wB := wB_in 486 (by decide +kernel) (by decide +kernel)
theorem wq487 : Cond.constant RX8 151 (-2147483647) ∈ wB := wB_in 487 (by decide +kernel) (by decide +kernel)
theorem wq488 : Cond.methodLink RX8 152 yX3_hasRead ∈ wB := wB_in 488 (by decide +kernel) (by decide +kernel)
theorem wq489 : Cond.methodLink RL 66 yX8_misses ∈ wB := wB_in 489 (by decide +kernel) (by decide +kernel)
theorem wq490 : Cond.instanceMethod yX8_misses ∈ wB := wB_in 490 (by decide +kernel) (by decide +kernel)
theorem wq491 : Cond.selects RX8 yX8_misses yX8_misses ∈ wB := wB_in 491 (by decide +kernel) (by decide +kernel)
theorem wq492 : Cond.code yX8_misses cX8_misses 1 (some .int) ∈ wB := wB_in 492 (by decide +kernel) (by decide +kernel)
theorem wq493 : Cond.methodLink RX8 168 yX4_miss ∈ wB := wB_in 493 (by decide +kernel) (by decide +kernel)
theorem wq494 : Cond.instanceMethod yX4_miss ∈ wB := wB_in 494 (by decide +kernel) (by decide +kernel)
theorem wq495 : Cond.selects RX4 yX4_miss yX4_miss ∈ wB := wB_in 495 (by decide +kernel) (by decide +kernel)
theorem wq496 : Cond.code yX4_miss cX4_miss 1 none ∈ wB := wB_in 496 (by decide +kernel) (by decide +kernel)
theorem wq497 : Cond.methodLink RX4 108 yX6_coast ∈ wB := wB_in 497 (by decide +kernel) (by decide +kernel)
theorem wq498 : Cond.instanceMethod yX6_coast ∈ wB := wB_in 498 (by decide +kernel) (by decide +kernel)
theorem wq499 : Cond.selects RX6 yX6_coast yX6_coast ∈ wB := wB_in 499 (by decide +kernel) (by decide +kernel)
theorem wq500 : Cond.code yX6_coast cX6_coast 2 (some .boolean) ∈ wB := wB_in 500 (by decide +kernel) (by decide +kernel)
theorem wq501 : Cond.methodLink RX6 22 yJ9_floorMod_7cf53 ∈ wB := wB_in 501 (by decide +kernel) (by decide +kernel)
theorem wq502 : Cond.methodLink RL 70 yX8_holds ∈ wB := wB_in 502 (by decide +kernel) (by decide +kernel)
theorem wq503 : Cond.instanceMethod yX8_holds ∈ wB := wB_in 503 (by decide +kernel) (by decide +kernel)
theorem wq504 : Cond.selects RX8 yX8_holds yX8_holds ∈ wB := wB_in 504 (by decide +kernel) (by decide +kernel)
theorem wq505 : Cond.code yX8_holds cX8_holds 3 (some .int) ∈ wB := wB_in 505 (by decide +kernel) (by decide +kernel)
theorem wq506 : Cond.methodLink RL 74 yX8_wheel ∈ wB := wB_in 506 (by decide +kernel) (by decide +kernel)
theorem wq507 : Cond.instanceMethod yX8_wheel ∈ wB := wB_in 507 (by decide +kernel) (by decide +kernel)
theorem wq508 : Cond.selects RX8 yX8_wheel yX8_wheel ∈ wB := wB_in 508 (by decide +kernel) (by decide +kernel)
theorem wq509 : Cond.code yX8_wheel cX8_wheel 3 (some .int) ∈ wB := wB_in 509 (by decide +kernel) (by decide +kernel)
theorem wq510 : Cond.methodLink RX8 185 yX3_isLocked ∈ wB := wB_in 510 (by decide +kernel) (by decide +kernel)
theorem wq511 : Cond.methodLink RL 78 yX8_offsets ∈ wB := wB_in 511 (by decide +kernel) (by decide +kernel)
theorem wq512 : Cond.instanceMethod yX8_offsets ∈ wB := wB_in 512 (by decide +kernel) (by decide +kernel)
theorem wq513 : Cond.selects RX8 yX8_offsets yX8_offsets ∈ wB := wB_in 513 (by decide +kernel) (by decide +kernel)
theorem wq514 : Cond.code yX8_offsets cX8_offsets 4 (some .int) ∈ wB := wB_in 514 (by decide +kernel) (by decide +kernel)
theorem wq515 : Cond.methodLink RX8 188 yX4_chaserOf ∈ wB := wB_in 515 (by decide +kernel) (by decide +kernel)
theorem wq516 : Cond.instanceMethod yX4_chaserOf ∈ wB := wB_in 516 (by decide +kernel) (by decide +kernel)
theorem wq517 : Cond.selects RX4 yX4_chaserOf yX4_chaserOf ∈ wB := wB_in 517 (by decide +kernel) (by decide +kernel)
theorem wq518 : Cond.code yX4_chaserOf cX4_chaserOf 2 (some (.object "FrameClocks$Chaser")) ∈ wB := wB_in 518 (by decide +kernel) (by decide +kernel)
theorem wq519 : Cond.constant RX8 192 (-99999) ∈ wB := wB_in 519 (by decide +kernel) (by decide +kernel)
theorem wq520 : Cond.constant RX8 193 (99999) ∈ wB := wB_in 520 (by decide +kernel) (by decide +kernel)
theorem wq521 : Cond.methodLink RL 82 yX8_chases ∈ wB := wB_in 521 (by decide +kernel) (by decide +kernel)
theorem wq522 : Cond.instanceMethod yX8_chases ∈ wB := wB_in 522 (by decide +kernel) (by decide +kernel)
theorem wq523 : Cond.selects RX8 yX8_chases yX8_chases ∈ wB := wB_in 523 (by decide +kernel) (by decide +kernel)
theorem wq524 : Cond.code yX8_chases cX8_chases 5 (some .int) ∈ wB := wB_in 524 (by decide +kernel) (by decide +kernel)
theorem wq525 : Cond.methodLink RX8 200 yX0_step ∈ wB := wB_in 525 (by decide +kernel) (by decide +kernel)
theorem wq526 : Cond.instanceMethod yX0_step ∈ wB := wB_in 526 (by decide +kernel) (by decide +kernel)
theorem wq527 : Cond.selects RX0 yX0_step yX0_step ∈ wB := wB_in 527 (by decide +kernel) (by decide +kernel)
theorem wq528 : Cond.code yX0_step cX0_step 4 none ∈ wB := wB_in 528 (by decide +kernel) (by decide +kernel)
theorem wq529 : Cond.methodLink RX0 25 yX0_wayTo ∈ wB := wB_in 529 (by decide +kernel) (by decide +kernel)
theorem wq530 : Cond.instanceMethod yX0_wayTo ∈ wB := wB_in 530 (by decide +kernel) (by decide +kernel)
theorem wq531 : Cond.selects RX0 yX0_wayTo yX0_wayTo ∈ wB := wB_in 531 (by decide +kernel) (by decide +kernel)
theorem wq532 : Cond.code yX0_wayTo cX0_wayTo 4 (some .int) ∈ wB := wB_in 532 (by decide +kernel) (by decide +kernel)
theorem wq533 : Cond.methodLink RX0 16 yJ9_floorMod_7cf53 ∈ wB := wB_in 533 (by decide +kernel) (by decide +kernel)
theorem wq534 : Cond.methodLink RX0 28 yX0_wantedFor ∈ wB := wB_in 534 (by decide +kernel) (by decide +kernel)
theorem wq535 : Cond.static yX0_wantedFor ∈ wB := wB_in 535 (by decide +kernel) (by decide +kernel)
theorem wq536 : Cond.code yX0_wantedFor cX0_wantedFor 5 (some .int) ∈ wB := wB_in 536 (by decide +kernel) (by decide +kernel)
theorem wq537 : Cond.methodLink RX0 37 Lib.Math.abs.name ∈ wB := wB_in 537 (by decide +kernel) (by decide +kernel)
theorem wq538 : Cond.static Lib.Math.abs.name ∈ wB := wB_in 538 (by decide +kernel) (by decide +kernel)
theorem wq539 : Cond.code Lib.Math.abs.name Lib.Math.abs.code 1 (some .int) ∈ wB := wB_in 539 (by decide +kernel) (by decide +kernel)
theorem wq540 : Cond.methodLink RX0 32 yJ6_compare_7cf53 ∈ wB := wB_in 540 (by decide +kernel) (by decide +kernel)
theorem wq541 : Cond.static yJ6_compare_7cf53 ∈ wB := wB_in 541 (by decide +kernel) (by decide +kernel)
theorem wq542 : Cond.code yJ6_compare_7cf53 cJ6_compare_7cf53 2 (some .int) ∈ wB := wB_in 542 (by decide +kernel) (by decide +kernel)
theorem wq543 : Cond.methodLink RL 86 yX8_chaser ∈ wB := wB_in 543 (by decide +kernel) (by decide +kernel)
theorem wq544 : Cond.instanceMethod yX8_chaser ∈ wB := wB_in 544 (by decide +kernel) (by decide +kernel)
theorem wq545 : Cond.selects RX8 yX8_chaser yX8_chaser ∈ wB := wB_in 545 (by decide +kernel) (by decide +kernel)
theorem wq546 : Cond.code yX8_chaser cX8_chaser 4 (some .int) ∈ wB := wB_in 546 (by decide +kernel) (by decide +kernel)
theorem wq547 : Cond.methodLink RX8 210 yX0_wayTo ∈ wB := wB_in 547 (by decide +kernel) (by decide +kernel)
theorem wq548 : Cond.methodLink RL 90 yX8_there ∈ wB := wB_in 548 (by decide +kernel) (by decide +kernel)
theorem wq549 : Cond.instanceMethod yX8_there ∈ wB := wB_in 549 (by decide +kernel) (by decide +kernel)
theorem wq550 : Cond.selects RX8 yX8_there yX8_there ∈ wB := wB_in 550 (by decide +kernel) (by decide +kernel)
theorem wq551 : Cond.code yX8_there cX8_there 4 (some .int) ∈ wB := wB_in 551 (by decide +kernel) (by decide +kernel)
theorem wq552 : Cond.methodLink RX8 213 yX0_copy ∈ wB := wB_in 552 (by decide +kernel) (by decide +kernel)
theorem wq553 : Cond.methodLink RX8 217 yX0_isAt ∈ wB := wB_in 553 (by decide +kernel) (by decide +kernel)
theorem wq554 : Cond.instanceMethod yX0_isAt ∈ wB := wB_in 554 (by decide +kernel) (by decide +kernel)
theorem wq555 : Cond.selects RX0 yX0_isAt yX0_isAt ∈ wB := wB_in 555 (by decide +kernel) (by decide +kernel)
theorem wq556 : Cond.code yX0_isAt cX0_isAt 3 (some .boolean) ∈ wB := wB_in 556 (by decide +kernel) (by decide +kernel)
theorem wq557 : Cond.methodLink RL 94 yX8_undo ∈ wB := wB_in 557 (by decide +kernel) (by decide +kernel)
theorem wq558 : Cond.instanceMethod yX8_undo ∈ wB := wB_in 558 (by decide +kernel) (by decide +kernel)
theorem wq559 : Cond.selects RX8 yX8_undo yX8_undo ∈ wB := wB_in 559 (by decide +kernel) (by decide +kernel)
theorem wq560 : Cond.code yX8_undo cX8_undo 1 (some .int) ∈ wB := wB_in 560 (by decide +kernel) (by decide +kernel)
theorem wq561 : Cond.methodLink RX8 221 yX1_takeBack ∈ wB := wB_in 561 (by decide +kernel) (by decide +kernel)
theorem wq562 : Cond.instanceMethod yX1_takeBack ∈ wB := wB_in 562 (by decide +kernel) (by decide +kernel)
theorem wq563 : Cond.selects RX1 yX1_takeBack yX1_takeBack ∈ wB := wB_in 563 (by decide +kernel) (by decide +kernel)
theorem wq564 : Cond.code yX1_takeBack cX1_takeBack 4 (some .boolean) ∈ wB := wB_in 564 (by decide +kernel) (by decide +kernel)
theorem wq565 : Cond.methodLink RL 98 yX8_sees ∈ wB := wB_in 565 (by decide +kernel) (by decide +kernel)
theorem wq566 : Cond.instanceMethod yX8_sees ∈ wB := wB_in 566 (by decide +kernel) (by decide +kernel)
theorem wq567 : Cond.selects RX8 yX8_sees yX8_sees ∈ wB := wB_in 567 (by decide +kernel) (by decide +kernel)
theorem wq568 : Cond.code yX8_sees cX8_sees 3 (some .int) ∈ wB := wB_in 568 (by decide +kernel) (by decide +kernel)
theorem wq569 : Cond.methodLink RL 102 yX8_forget ∈ wB := wB_in 569 (by decide +kernel) (by decide +kernel)
theorem wq570 : Cond.instanceMethod yX8_forget ∈ wB := wB_in 570 (by decide +kernel) (by decide +kernel)
theorem wq571 : Cond.selects RX8 yX8_forget yX8_forget ∈ wB := wB_in 571 (by decide +kernel) (by decide +kernel)
theorem wq572 : Cond.code yX8_forget cX8_forget 2 (some .int) ∈ wB := wB_in 572 (by decide +kernel) (by decide +kernel)
theorem wq573 : Cond.methodLink RL 106 yX8_unseen ∈ wB := wB_in 573 (by decide +kernel) (by decide +kernel)
theorem wq574 : Cond.instanceMethod yX8_unseen ∈ wB := wB_in 574 (by decide +kernel) (by decide +kernel)
theorem wq575 : Cond.selects RX8 yX8_unseen yX8_unseen ∈ wB := wB_in 575 (by decide +kernel) (by decide +kernel)
theorem wq576 : Cond.code yX8_unseen cX8_unseen 3 (some .int) ∈ wB := wB_in 576 (by decide +kernel) (by decide +kernel)
theorem wq577 : Cond.methodLink RX8 231 yX8_agrees ∈ wB := wB_in 577 (by decide +kernel) (by decide +kernel)
theorem wq579 : Cond.instanceMethod yX8_agrees ∈ wB := wB_in 579 (by decide +kernel) (by decide +kernel)
theorem wq580 : Cond.code yX8_agrees cX8_agrees 3 (some .boolean) ∈ wB := wB_in 580 (by decide +kernel) (by decide +kernel)
theorem wq581 : Cond.methodLink RL 110 yX8_keep ∈ wB := wB_in 581 (by decide +kernel) (by decide +kernel)
theorem wq582 : Cond.instanceMethod yX8_keep ∈ wB := wB_in 582 (by decide +kernel) (by decide +kernel)
theorem wq583 : Cond.selects RX8 yX8_keep yX8_keep ∈ wB := wB_in 583 (by decide +kernel) (by decide +kernel)
theorem wq584 : Cond.code yX8_keep cX8_keep 3 (some .int) ∈ wB := wB_in 584 (by decide +kernel) (by decide +kernel)
theorem wq585 : Cond.methodLink RX8 234 yX4_copy ∈ wB := wB_in 585 (by decide +kernel) (by decide +kernel)
theorem wq586 : Cond.methodLink RL 114 yX8_back ∈ wB := wB_in 586 (by decide +kernel) (by decide +kernel)
theorem wq587 : Cond.instanceMethod yX8_back ∈ wB := wB_in 587 (by decide +kernel) (by decide +kernel)
theorem wq588 : Cond.selects RX8 yX8_back yX8_back ∈ wB := wB_in 588 (by decide +kernel) (by decide +kernel)
theorem wq589 : Cond.code yX8_back cX8_back 3 (some .int) ∈ wB := wB_in 589 (by decide +kernel) (by decide +kernel)
theorem wq590 : Cond.methodLink RL 118 yX8_count ∈ wB := wB_in 590 (by decide +kernel) (by decide +kernel)
theorem wq591 : Cond.instanceMethod yX8_count ∈ wB := wB_in 591 (by decide +kernel) (by decide +kernel)
theorem wq592 : Cond.selects RX8 yX8_count yX8_count ∈ wB := wB_in 592 (by decide +kernel) (by decide +kernel)
theorem wq593 : Cond.code yX8_count cX8_count 2 (some .int) ∈ wB := wB_in 593 (by decide +kernel) (by decide +kernel)
theorem wq594 : Cond.classLink RL 10 RX9 ∈ wB := wB_in 594 (by decide +kernel) (by decide +kernel)
theorem wq595 : Cond.instantiable RX9 9 ∈ wB := wB_in 595 (by decide +kernel) (by decide +kernel)
theorem wq596 : Cond.methodLink RL 12 yX9_init ∈ wB := wB_in 596 (by decide +kernel) (by decide +kernel)
theorem wq597 : Cond.instanceMethod yX9_init ∈ wB := wB_in 597 (by decide +kernel) (by decide +kernel)
theorem wq598 : Cond.code yX9_init cX9_init 1 none ∈ wB := wB_in 598 (by decide +kernel) (by decide +kernel)
theorem wq599 : Cond.methodLink RX9 1 objectInit ∈ wB := wB_in 599 (by decide +kernel) (by decide +kernel)
theorem wq600 : Cond.fieldLink RX9 29 "FrameClocksModel" "thrown" "I" ∈ wB := wB_in 600 (by decide +kernel) (by decide +kernel)
theorem wq601 : Cond.fieldLink RX9 7 "FrameClocksModel" "s" "[I" ∈ wB := wB_in 601 (by decide +kernel) (by decide +kernel)
theorem wq602 : Cond.fieldLink RX9 13 "FrameClocksModel" "past" "[I" ∈ wB := wB_in 602 (by decide +kernel) (by decide +kernel)
theorem wq603 : Cond.fieldLink RX9 66 "FrameClocksModel" "undos" "I" ∈ wB := wB_in 603 (by decide +kernel) (by decide +kernel)
theorem wq604 : Cond.fieldLink RX9 16 "FrameClocksModel" "kept" "[I" ∈ wB := wB_in 604 (by decide +kernel) (by decide +kernel)
theorem wq605 : Cond.fieldLink RX9 19 "FrameClocksModel" "isKept" "[Z" ∈ wB := wB_in 605 (by decide +kernel) (by decide +kernel)
theorem wq606 : Cond.fieldLink RX9 142 "FrameClocksModel" "seen" "I" ∈ wB := wB_in 606 (by decide +kernel) (by decide +kernel)
theorem wq607 : Cond.fieldLink RX9 23 "FrameClocksModel" "seenNumber" "[I" ∈ wB := wB_in 607 (by decide +kernel) (by decide +kernel)
theorem wq608 : Cond.fieldLink RX9 26 "FrameClocksModel" "seenFrame" "[I" ∈ wB := wB_in 608 (by decide +kernel) (by decide +kernel)
theorem wq609 : Cond.lays RX9 "FrameClocksModel" "thrown" "I" ∈ wB := wB_in 609 (by decide +kernel) (by decide +kernel)
theorem wq611 : Cond.laysFinal RX9 "FrameClocksModel" "s" "[I" ∈ wB := wB_in 611 (by decide +kernel) (by decide +kernel)
theorem wq613 : Cond.laysFinal RX9 "FrameClocksModel" "past" "[I" ∈ wB := wB_in 613 (by decide +kernel) (by decide +kernel)
theorem wq615 : Cond.lays RX9 "FrameClocksModel" "undos" "I" ∈ wB := wB_in 615 (by decide +kernel) (by decide +kernel)
theorem wq617 : Cond.laysFinal RX9 "FrameClocksModel" "kept" "[I" ∈ wB := wB_in 617 (by decide +kernel) (by decide +kernel)
theorem wq619 : Cond.laysFinal RX9 "FrameClocksModel" "isKept" "[Z" ∈ wB := wB_in 619 (by decide +kernel) (by decide +kernel)
theorem wq621 : Cond.lays RX9 "FrameClocksModel" "seen" "I" ∈ wB := wB_in 621 (by decide +kernel) (by decide +kernel)
theorem wq623 : Cond.laysFinal RX9 "FrameClocksModel" "seenNumber" "[I" ∈ wB := wB_in 623 (by decide +kernel) (by decide +kernel)
theorem wq625 : Cond.laysFinal RX9 "FrameClocksModel" "seenFrame" "[I" ∈ wB := wB_in 625 (by decide +kernel) (by decide +kernel)
theorem wq628 : Cond.arrayClass .boolean ∈ wB := wB_in 628 (by decide +kernel) (by decide +kernel)
theorem wq629 : Cond.methodLink RL 21 yX9_number ∈ wB := wB_in 629 (by decide +kernel) (by decide +kernel)
theorem wq630 : Cond.instanceMethod yX9_number ∈ wB := wB_in 630 (by decide +kernel) (by decide +kernel)
theorem wq631 : Cond.selects RX9 yX9_number yX9_number ∈ wB := wB_in 631 (by decide +kernel) (by decide +kernel)
theorem wq632 : Cond.code yX9_number cX9_number 2 (some .int) ∈ wB := wB_in 632 (by decide +kernel) (by decide +kernel)
theorem wq633 : Cond.methodLink RX9 55 yX9_isFrame ∈ wB := wB_in 633 (by decide +kernel) (by decide +kernel)
theorem wq635 : Cond.instanceMethod yX9_isFrame ∈ wB := wB_in 635 (by decide +kernel) (by decide +kernel)
theorem wq636 : Cond.code yX9_isFrame cX9_isFrame 2 (some .boolean) ∈ wB := wB_in 636 (by decide +kernel) (by decide +kernel)
theorem wq637 : Cond.methodLink RX9 42 yX9_day ∈ wB := wB_in 637 (by decide +kernel) (by decide +kernel)
theorem wq639 : Cond.instanceMethod yX9_day ∈ wB := wB_in 639 (by decide +kernel) (by decide +kernel)
theorem wq640 : Cond.code yX9_day cX9_day 1 (some .int) ∈ wB := wB_in 640 (by decide +kernel) (by decide +kernel)
theorem wq641 : Cond.methodLink RX9 39 yX9_dayOf ∈ wB := wB_in 641 (by decide +kernel) (by decide +kernel)
theorem wq642 : Cond.static yX9_dayOf ∈ wB := wB_in 642 (by decide +kernel) (by decide +kernel)
theorem wq643 : Cond.code yX9_dayOf cX9_dayOf 1 (some .int) ∈ wB := wB_in 643 (by decide +kernel) (by decide +kernel)
theorem wq644 : Cond.constant RX9 33 (2589408) ∈ wB := wB_in 644 (by decide +kernel) (by decide +kernel)
theorem wq645 : Cond.constant RX9 34 (86400) ∈ wB := wB_in 645 (by decide +kernel) (by decide +kernel)
theorem wq646 : Cond.methodLink RX9 35 yX9_second ∈ wB := wB_in 646 (by decide +kernel) (by decide +kernel)
theorem wq647 : Cond.static yX9_second ∈ wB := wB_in 647 (by decide +kernel) (by decide +kernel)
theorem wq648 : Cond.code yX9_second cX9_second 1 (some .int) ∈ wB := wB_in 648 (by decide +kernel) (by decide +kernel)
theorem wq649 : Cond.methodLink RX9 46 yX9_in ∈ wB := wB_in 649 (by decide +kernel) (by decide +kernel)
theorem wq650 : Cond.static yX9_in ∈ wB := wB_in 650 (by decide +kernel) (by decide +kernel)
theorem wq651 : Cond.code yX9_in cX9_in 3 (some .boolean) ∈ wB := wB_in 651 (by decide +kernel) (by decide +kernel)
theorem wq652 : Cond.methodLink RX9 59 yX9_numberOf ∈ wB := wB_in 652 (by decide +kernel) (by decide +kernel)
theorem wq653 : Cond.static yX9_numberOf ∈ wB := wB_in 653 (by decide +kernel) (by decide +kernel)
theorem wq654 : Cond.code yX9_numberOf cX9_numberOf 5 (some .int) ∈ wB := wB_in 654 (by decide +kernel) (by decide +kernel)
theorem wq655 : Cond.methodLink RX9 50 yX9_rank ∈ wB := wB_in 655 (by decide +kernel) (by decide +kernel)
theorem wq656 : Cond.static yX9_rank ∈ wB := wB_in 656 (by decide +kernel) (by decide +kernel)
theorem wq657 : Cond.code yX9_rank cX9_rank 4 (some .int) ∈ wB := wB_in 657 (by decide +kernel) (by decide +kernel)
theorem wq658 : Cond.constant RX9 54 (1000000) ∈ wB := wB_in 658 (by decide +kernel) (by decide +kernel)
theorem wq659 : Cond.methodLink RL 25 yX9_frame ∈ wB := wB_in 659 (by decide +kernel) (by decide +kernel)
theorem wq660 : Cond.instanceMethod yX9_frame ∈ wB := wB_in 660 (by decide +kernel) (by decide +kernel)
theorem wq661 : Cond.selects RX9 yX9_frame yX9_frame ∈ wB := wB_in 661 (by decide +kernel) (by decide +kernel)
theorem wq662 : Cond.code yX9_frame cX9_frame 2 (some .int) ∈ wB := wB_in 662 (by decide +kernel) (by decide +kernel)
theorem wq663 : Cond.constant RX9 62 (23595999) ∈ wB := wB_in 663 (by decide +kernel) (by decide +kernel)
theorem wq664 : Cond.methodLink RX9 63 yX9_frameOf ∈ wB := wB_in 664 (by decide +kernel) (by decide +kernel)
theorem wq665 : Cond.static yX9_frameOf ∈ wB := wB_in 665 (by decide +kernel) (by decide +kernel)
theorem wq666 : Cond.code yX9_frameOf cX9_frameOf 8 (some .int) ∈ wB := wB_in 666 (by decide +kernel) (by decide +kernel)
theorem wq667 : Cond.methodLink RL 30 yX9_dropped ∈ wB := wB_in 667 (by decide +kernel) (by decide +kernel)
theorem wq668 : Cond.instanceMethod yX9_dropped ∈ wB := wB_in 668 (by decide +kernel) (by decide +kernel)
theorem wq669 : Cond.selects RX9 yX9_dropped yX9_dropped ∈ wB := wB_in 669 (by decide +kernel) (by decide +kernel)
theorem wq670 : Cond.code yX9_dropped cX9_dropped 4 (some .int) ∈ wB := wB_in 670 (by decide +kernel) (by decide +kernel)
theorem wq671 : Cond.methodLink RL 17 yX9_rates ∈ wB := wB_in 671 (by decide +kernel) (by decide +kernel)
theorem wq672 : Cond.instanceMethod yX9_rates ∈ wB := wB_in 672 (by decide +kernel) (by decide +kernel)
theorem wq673 : Cond.selects RX9 yX9_rates yX9_rates ∈ wB := wB_in 673 (by decide +kernel) (by decide +kernel)
theorem wq674 : Cond.code yX9_rates cX9_rates 4 (some .int) ∈ wB := wB_in 674 (by decide +kernel) (by decide +kernel)
theorem wq675 : Cond.methodLink RX9 69 yX9_notes ∈ wB := wB_in 675 (by decide +kernel) (by decide +kernel)
theorem wq677 : Cond.instanceMethod yX9_notes ∈ wB := wB_in 677 (by decide +kernel) (by decide +kernel)
theorem wq678 : Cond.code yX9_notes cX9_notes 2 none ∈ wB := wB_in 678 (by decide +kernel) (by decide +kernel)
theorem wq679 : Cond.methodLink RX9 72 yX9_around ∈ wB := wB_in 679 (by decide +kernel) (by decide +kernel)
theorem wq681 : Cond.instanceMethod yX9_around ∈ wB := wB_in 681 (by decide +kernel) (by decide +kernel)
theorem wq682 : Cond.code yX9_around cX9_around 3 (some .int) ∈ wB := wB_in 682 (by decide +kernel) (by decide +kernel)
theorem wq683 : Cond.methodLink RL 35 yX9_lays ∈ wB := wB_in 683 (by decide +kernel) (by decide +kernel)
theorem wq684 : Cond.instanceMethod yX9_lays ∈ wB := wB_in 684 (by decide +kernel) (by decide +kernel)
theorem wq685 : Cond.selects RX9 yX9_lays yX9_lays ∈ wB := wB_in 685 (by decide +kernel) (by decide +kernel)
theorem wq686 : Cond.code yX9_lays cX9_lays 5 (some .int) ∈ wB := wB_in 686 (by decide +kernel) (by decide +kernel)
theorem wq687 : Cond.methodLink RL 39 yX9_winds ∈ wB := wB_in 687 (by decide +kernel) (by decide +kernel)
theorem wq688 : Cond.instanceMethod yX9_winds ∈ wB := wB_in 688 (by decide +kernel) (by decide +kernel)
theorem wq689 : Cond.selects RX9 yX9_winds yX9_winds ∈ wB := wB_in 689 (by decide +kernel) (by decide +kernel)
theorem wq690 : Cond.code yX9_winds cX9_winds 3 (some .int) ∈ wB := wB_in 690 (by decide +kernel) (by decide +kernel)
theorem wq691 : Cond.methodLink RX9 75 yX9_tape ∈ wB := wB_in 691 (by decide +kernel) (by decide +kernel)
theorem wq693 : Cond.instanceMethod yX9_tape ∈ wB := wB_in 693 (by decide +kernel) (by decide +kernel)
theorem wq694 : Cond.code yX9_tape cX9_tape 3 (some .int) ∈ wB := wB_in 694 (by decide +kernel) (by decide +kernel)
theorem wq695 : Cond.methodLink RL 43 yX9_bit ∈ wB := wB_in 695 (by decide +kernel) (by decide +kernel)
theorem wq696 : Cond.instanceMethod yX9_bit ∈ wB := wB_in 696 (by decide +kernel) (by decide +kernel)
theorem wq697 : Cond.selects RX9 yX9_bit yX9_bit ∈ wB := wB_in 697 (by decide +kernel) (by decide +kernel)
theorem wq698 : Cond.code yX9_bit cX9_bit 2 (some .int) ∈ wB := wB_in 698 (by decide +kernel) (by decide +kernel)
theorem wq699 : Cond.methodLink RX9 92 yX9_bitAt ∈ wB := wB_in 699 (by decide +kernel) (by decide +kernel)
theorem wq701 : Cond.instanceMethod yX9_bitAt ∈ wB := wB_in 701 (by decide +kernel) (by decide +kernel)
theorem wq702 : Cond.code yX9_bitAt cX9_bitAt 6 (some .int) ∈ wB := wB_in 702 (by decide +kernel) (by decide +kernel)
theorem wq703 : Cond.methodLink RX9 86 yX9_wordOf ∈ wB := wB_in 703 (by decide +kernel) (by decide +kernel)
theorem wq705 : Cond.instanceMethod yX9_wordOf ∈ wB := wB_in 705 (by decide +kernel) (by decide +kernel)
theorem wq706 : Cond.code yX9_wordOf cX9_wordOf 5 (some .int) ∈ wB := wB_in 706 (by decide +kernel) (by decide +kernel)
theorem wq707 : Cond.methodLink RX9 78 yX9_figures ∈ wB := wB_in 707 (by decide +kernel) (by decide +kernel)
theorem wq708 : Cond.static yX9_figures ∈ wB := wB_in 708 (by decide +kernel) (by decide +kernel)
theorem wq709 : Cond.code yX9_figures cX9_figures 1 (some .int) ∈ wB := wB_in 709 (by decide +kernel) (by decide +kernel)
theorem wq710 : Cond.constant RX9 81 (67108864) ∈ wB := wB_in 710 (by decide +kernel) (by decide +kernel)
theorem wq711 : Cond.methodLink RX9 82 yX9_isEven ∈ wB := wB_in 711 (by decide +kernel) (by decide +kernel)
theorem wq712 : Cond.static yX9_isEven ∈ wB := wB_in 712 (by decide +kernel) (by decide +kernel)
theorem wq713 : Cond.code yX9_isEven cX9_isEven 3 (some .boolean) ∈ wB := wB_in 713 (by decide +kernel) (by decide +kernel)
theorem wq714 : Cond.constant RX9 85 (134217728) ∈ wB := wB_in 714 (by decide +kernel) (by decide +kernel)
theorem wq715 : Cond.methodLink RX9 89 yX9_sync ∈ wB := wB_in 715 (by decide +kernel) (by decide +kernel)
theorem wq716 : Cond.static yX9_sync ∈ wB := wB_in 716 (by decide +kernel) (by decide +kernel)
theorem wq717 : Cond.code yX9_sync cX9_sync 1 (some .int) ∈ wB := wB_in 717 (by decide +kernel) (by decide +kernel)
theorem wq718 : Cond.methodLink RL 48 yX9_plays ∈ wB := wB_in 718 (by decide +kernel) (by decide +kernel)
theorem wq719 : Cond.instanceMethod yX9_plays ∈ wB := wB_in 719 (by decide +kernel) (by decide +kernel)
theorem wq720 : Cond.selects RX9 yX9_plays yX9_plays ∈ wB := wB_in 720 (by decide +kernel) (by decide +kernel)
theorem wq721 : Cond.code yX9_plays cX9_plays 10 (some .int) ∈ wB := wB_in 721 (by decide +kernel) (by decide +kernel)
theorem wq722 : Cond.methodLink RX9 95 yX9_comes ∈ wB := wB_in 722 (by decide +kernel) (by decide +kernel)
theorem wq724 : Cond.instanceMethod yX9_comes ∈ wB := wB_in 724 (by decide +kernel) (by decide +kernel)
theorem wq725 : Cond.code yX9_comes cX9_comes 3 none ∈ wB := wB_in 725 (by decide +kernel) (by decide +kernel)
theorem wq726 : Cond.methodLink RX9 99 yX9_cell ∈ wB := wB_in 726 (by decide +kernel) (by decide +kernel)
theorem wq728 : Cond.instanceMethod yX9_cell ∈ wB := wB_in 728 (by decide +kernel) (by decide +kernel)
theorem wq729 : Cond.code yX9_cell cX9_cell 2 none ∈ wB := wB_in 729 (by decide +kernel) (by decide +kernel)
theorem wq730 : Cond.methodLink RX9 102 yX9_tells ∈ wB := wB_in 730 (by decide +kernel) (by decide +kernel)
theorem wq732 : Cond.instanceMethod yX9_tells ∈ wB := wB_in 732 (by decide +kernel) (by decide +kernel)
theorem wq733 : Cond.code yX9_tells cX9_tells 5 none ∈ wB := wB_in 733 (by decide +kernel) (by decide +kernel)
theorem wq734 : Cond.methodLink RX9 105 yX9_isSync ∈ wB := wB_in 734 (by decide +kernel) (by decide +kernel)
theorem wq736 : Cond.instanceMethod yX9_isSync ∈ wB := wB_in 736 (by decide +kernel) (by decide +kernel)
theorem wq737 : Cond.code yX9_isSync cX9_isSync 5 (some .boolean) ∈ wB := wB_in 737 (by decide +kernel) (by decide +kernel)
theorem wq738 : Cond.methodLink RX9 109 yX9_finds ∈ wB := wB_in 738 (by decide +kernel) (by decide +kernel)
theorem wq740 : Cond.instanceMethod yX9_finds ∈ wB := wB_in 740 (by decide +kernel) (by decide +kernel)
theorem wq741 : Cond.code yX9_finds cX9_finds 7 none ∈ wB := wB_in 741 (by decide +kernel) (by decide +kernel)
theorem wq742 : Cond.methodLink RX9 113 yX9_two ∈ wB := wB_in 742 (by decide +kernel) (by decide +kernel)
theorem wq743 : Cond.static yX9_two ∈ wB := wB_in 743 (by decide +kernel) (by decide +kernel)
theorem wq744 : Cond.code yX9_two cX9_two 3 (some .int) ∈ wB := wB_in 744 (by decide +kernel) (by decide +kernel)
theorem wq745 : Cond.methodLink RX9 117 yX9_areFigures ∈ wB := wB_in 745 (by decide +kernel) (by decide +kernel)
theorem wq746 : Cond.static yX9_areFigures ∈ wB := wB_in 746 (by decide +kernel) (by decide +kernel)
theorem wq747 : Cond.code yX9_areFigures cX9_areFigures 1 (some .boolean) ∈ wB := wB_in 747 (by decide +kernel) (by decide +kernel)
theorem wq748 : Cond.methodLink RL 52 yX9_edge ∈ wB := wB_in 748 (by decide +kernel) (by decide +kernel)
theorem wq749 : Cond.instanceMethod yX9_edge ∈ wB := wB_in 749 (by decide +kernel) (by decide +kernel)
theorem wq750 : Cond.selects RX9 yX9_edge yX9_edge ∈ wB := wB_in 750 (by decide +kernel) (by decide +kernel)
theorem wq751 : Cond.code yX9_edge cX9_edge 2 (some .int) ∈ wB := wB_in 751 (by decide +kernel) (by decide +kernel)
theorem wq752 : Cond.methodLink RL 57 yX9_begins ∈ wB := wB_in 752 (by decide +kernel) (by decide +kernel)
theorem wq753 : Cond.instanceMethod yX9_begins ∈ wB := wB_in 753 (by decide +kernel) (by decide +kernel)
theorem wq754 : Cond.selects RX9 yX9_begins yX9_begins ∈ wB := wB_in 754 (by decide +kernel) (by decide +kernel)
theorem wq755 : Cond.code yX9_begins cX9_begins 3 (some .int) ∈ wB := wB_in 755 (by decide +kernel) (by decide +kernel)
theorem wq756 : Cond.methodLink RL 61 yX9_reader ∈ wB := wB_in 756 (by decide +kernel) (by decide +kernel)
theorem wq757 : Cond.instanceMethod yX9_reader ∈ wB := wB_in 757 (by decide +kernel) (by decide +kernel)
theorem wq758 : Cond.selects RX9 yX9_reader yX9_reader ∈ wB := wB_in 758 (by decide +kernel) (by decide +kernel)
theorem wq759 : Cond.code yX9_reader cX9_reader 2 (some .int) ∈ wB := wB_in 759 (by decide +kernel) (by decide +kernel)
theorem wq760 : Cond.methodLink RL 65 yX9_reading ∈ wB := wB_in 760 (by decide +kernel) (by decide +kernel)
theorem wq761 : Cond.instanceMethod yX9_reading ∈ wB := wB_in 761 (by decide +kernel) (by decide +kernel)
theorem wq762 : Cond.selects RX9 yX9_reading yX9_reading ∈ wB := wB_in 762 (by decide +kernel) (by decide +kernel)
theorem wq763 : Cond.code yX9_reading cX9_reading 2 (some .int) ∈ wB := wB_in 763 (by decide +kernel) (by decide +kernel)
theorem wq764 : Cond.constant RX9 120 (-2147483647) ∈ wB := wB_in 764 (by decide +kernel) (by decide +kernel)
theorem wq765 : Cond.methodLink RL 69 yX9_misses ∈ wB := wB_in 765 (by decide +kernel) (by decide +kernel)
theorem wq766 : Cond.instanceMethod yX9_misses ∈ wB := wB_in 766 (by decide +kernel) (by decide +kernel)
theorem wq767 : Cond.selects RX9 yX9_misses yX9_misses ∈ wB := wB_in 767 (by decide +kernel) (by decide +kernel)
theorem wq768 : Cond.code yX9_misses cX9_misses 1 (some .int) ∈ wB := wB_in 768 (by decide +kernel) (by decide +kernel)
theorem wq769 : Cond.methodLink RX9 121 yX9_isLocked ∈ wB := wB_in 769 (by decide +kernel) (by decide +kernel)
theorem wq771 : Cond.instanceMethod yX9_isLocked ∈ wB := wB_in 771 (by decide +kernel) (by decide +kernel)
theorem wq772 : Cond.code yX9_isLocked cX9_isLocked 1 (some .boolean) ∈ wB := wB_in 772 (by decide +kernel) (by decide +kernel)
theorem wq773 : Cond.methodLink RL 73 yX9_holds ∈ wB := wB_in 773 (by decide +kernel) (by decide +kernel)
theorem wq774 : Cond.instanceMethod yX9_holds ∈ wB := wB_in 774 (by decide +kernel) (by decide +kernel)
theorem wq775 : Cond.selects RX9 yX9_holds yX9_holds ∈ wB := wB_in 775 (by decide +kernel) (by decide +kernel)
theorem wq776 : Cond.code yX9_holds cX9_holds 3 (some .int) ∈ wB := wB_in 776 (by decide +kernel) (by decide +kernel)
theorem wq777 : Cond.methodLink RL 77 yX9_wheel ∈ wB := wB_in 777 (by decide +kernel) (by decide +kernel)
theorem wq778 : Cond.instanceMethod yX9_wheel ∈ wB := wB_in 778 (by decide +kernel) (by decide +kernel)
theorem wq779 : Cond.selects RX9 yX9_wheel yX9_wheel ∈ wB := wB_in 779 (by decide +kernel) (by decide +kernel)
theorem wq780 : Cond.code yX9_wheel cX9_wheel 2 (some .int) ∈ wB := wB_in 780 (by decide +kernel) (by decide +kernel)
theorem wq781 : Cond.methodLink RL 81 yX9_offsets ∈ wB := wB_in 781 (by decide +kernel) (by decide +kernel)
theorem wq782 : Cond.instanceMethod yX9_offsets ∈ wB := wB_in 782 (by decide +kernel) (by decide +kernel)
theorem wq783 : Cond.selects RX9 yX9_offsets yX9_offsets ∈ wB := wB_in 783 (by decide +kernel) (by decide +kernel)
theorem wq784 : Cond.code yX9_offsets cX9_offsets 3 (some .int) ∈ wB := wB_in 784 (by decide +kernel) (by decide +kernel)
theorem wq785 : Cond.methodLink RX9 131 yX9_isChaser ∈ wB := wB_in 785 (by decide +kernel) (by decide +kernel)
theorem wq786 : Cond.static yX9_isChaser ∈ wB := wB_in 786 (by decide +kernel) (by decide +kernel)
theorem wq787 : Cond.code yX9_isChaser cX9_isChaser 1 (some .boolean) ∈ wB := wB_in 787 (by decide +kernel) (by decide +kernel)
theorem wq788 : Cond.constant RX9 134 (-99999) ∈ wB := wB_in 788 (by decide +kernel) (by decide +kernel)
theorem wq789 : Cond.constant RX9 135 (99999) ∈ wB := wB_in 789 (by decide +kernel) (by decide +kernel)
theorem wq790 : Cond.methodLink RL 85 yX9_chases ∈ wB := wB_in 790 (by decide +kernel) (by decide +kernel)
theorem wq791 : Cond.instanceMethod yX9_chases ∈ wB := wB_in 791 (by decide +kernel) (by decide +kernel)
theorem wq792 : Cond.selects RX9 yX9_chases yX9_chases ∈ wB := wB_in 792 (by decide +kernel) (by decide +kernel)
theorem wq793 : Cond.code yX9_chases cX9_chases 4 (some .int) ∈ wB := wB_in 793 (by decide +kernel) (by decide +kernel)
theorem wq794 : Cond.methodLink RX9 136 yX9_steps ∈ wB := wB_in 794 (by decide +kernel) (by decide +kernel)
theorem wq796 : Cond.instanceMethod yX9_steps ∈ wB := wB_in 796 (by decide +kernel) (by decide +kernel)
theorem wq797 : Cond.code yX9_steps cX9_steps 6 none ∈ wB := wB_in 797 (by decide +kernel) (by decide +kernel)
theorem wq798 : Cond.methodLink RX9 125 yX9_wayOf ∈ wB := wB_in 798 (by decide +kernel) (by decide +kernel)
theorem wq800 : Cond.instanceMethod yX9_wayOf ∈ wB := wB_in 800 (by decide +kernel) (by decide +kernel)
theorem wq801 : Cond.code yX9_wayOf cX9_wayOf 3 (some .int) ∈ wB := wB_in 801 (by decide +kernel) (by decide +kernel)
theorem wq802 : Cond.methodLink RX9 128 yX9_size ∈ wB := wB_in 802 (by decide +kernel) (by decide +kernel)
theorem wq803 : Cond.static yX9_size ∈ wB := wB_in 803 (by decide +kernel) (by decide +kernel)
theorem wq804 : Cond.code yX9_size cX9_size 1 (some .int) ∈ wB := wB_in 804 (by decide +kernel) (by decide +kernel)
theorem wq805 : Cond.methodLink RL 89 yX9_chaser ∈ wB := wB_in 805 (by decide +kernel) (by decide +kernel)
theorem wq806 : Cond.instanceMethod yX9_chaser ∈ wB := wB_in 806 (by decide +kernel) (by decide +kernel)
theorem wq807 : Cond.selects RX9 yX9_chaser yX9_chaser ∈ wB := wB_in 807 (by decide +kernel) (by decide +kernel)
theorem wq808 : Cond.code yX9_chaser cX9_chaser 3 (some .int) ∈ wB := wB_in 808 (by decide +kernel) (by decide +kernel)
theorem wq809 : Cond.methodLink RL 93 yX9_there ∈ wB := wB_in 809 (by decide +kernel) (by decide +kernel)
theorem wq810 : Cond.instanceMethod yX9_there ∈ wB := wB_in 810 (by decide +kernel) (by decide +kernel)
theorem wq811 : Cond.selects RX9 yX9_there yX9_there ∈ wB := wB_in 811 (by decide +kernel) (by decide +kernel)
theorem wq812 : Cond.code yX9_there cX9_there 6 (some .int) ∈ wB := wB_in 812 (by decide +kernel) (by decide +kernel)
theorem wq813 : Cond.methodLink RX9 139 yX9_isThere ∈ wB := wB_in 813 (by decide +kernel) (by decide +kernel)
theorem wq815 : Cond.instanceMethod yX9_isThere ∈ wB := wB_in 815 (by decide +kernel) (by decide +kernel)
theorem wq816 : Cond.code yX9_isThere cX9_isThere 2 (some .boolean) ∈ wB := wB_in 816 (by decide +kernel) (by decide +kernel)
theorem wq817 : Cond.methodLink RL 97 yX9_undo ∈ wB := wB_in 817 (by decide +kernel) (by decide +kernel)
theorem wq818 : Cond.instanceMethod yX9_undo ∈ wB := wB_in 818 (by decide +kernel) (by decide +kernel)
theorem wq819 : Cond.selects RX9 yX9_undo yX9_undo ∈ wB := wB_in 819 (by decide +kernel) (by decide +kernel)
theorem wq820 : Cond.code yX9_undo cX9_undo 2 (some .int) ∈ wB := wB_in 820 (by decide +kernel) (by decide +kernel)
theorem wq821 : Cond.methodLink RL 101 yX9_sees ∈ wB := wB_in 821 (by decide +kernel) (by decide +kernel)
theorem wq822 : Cond.instanceMethod yX9_sees ∈ wB := wB_in 822 (by decide +kernel) (by decide +kernel)
theorem wq823 : Cond.selects RX9 yX9_sees yX9_sees ∈ wB := wB_in 823 (by decide +kernel) (by decide +kernel)
theorem wq824 : Cond.code yX9_sees cX9_sees 3 (some .int) ∈ wB := wB_in 824 (by decide +kernel) (by decide +kernel)
theorem wq825 : Cond.methodLink RL 105 yX9_forget ∈ wB := wB_in 825 (by decide +kernel) (by decide +kernel)
theorem wq826 : Cond.instanceMethod yX9_forget ∈ wB := wB_in 826 (by decide +kernel) (by decide +kernel)
theorem wq827 : Cond.selects RX9 yX9_forget yX9_forget ∈ wB := wB_in 827 (by decide +kernel) (by decide +kernel)
theorem wq828 : Cond.code yX9_forget cX9_forget 2 (some .int) ∈ wB := wB_in 828 (by decide +kernel) (by decide +kernel)
theorem wq829 : Cond.methodLink RL 109 yX9_unseen ∈ wB := wB_in 829 (by decide +kernel) (by decide +kernel)
theorem wq830 : Cond.instanceMethod yX9_unseen ∈ wB := wB_in 830 (by decide +kernel) (by decide +kernel)
theorem wq831 : Cond.selects RX9 yX9_unseen yX9_unseen ∈ wB := wB_in 831 (by decide +kernel) (by decide +kernel)
theorem wq832 : Cond.code yX9_unseen cX9_unseen 5 (some .int) ∈ wB := wB_in 832 (by decide +kernel) (by decide +kernel)
theorem wq833 : Cond.methodLink RL 113 yX9_keep ∈ wB := wB_in 833 (by decide +kernel) (by decide +kernel)
theorem wq834 : Cond.instanceMethod yX9_keep ∈ wB := wB_in 834 (by decide +kernel) (by decide +kernel)
theorem wq835 : Cond.selects RX9 yX9_keep yX9_keep ∈ wB := wB_in 835 (by decide +kernel) (by decide +kernel)
theorem wq836 : Cond.code yX9_keep cX9_keep 3 (some .int) ∈ wB := wB_in 836 (by decide +kernel) (by decide +kernel)
theorem wq837 : Cond.methodLink RL 117 yX9_back ∈ wB := wB_in 837 (by decide +kernel) (by decide +kernel)
theorem wq838 : Cond.instanceMethod yX9_back ∈ wB := wB_in 838 (by decide +kernel) (by decide +kernel)
theorem wq839 : Cond.selects RX9 yX9_back yX9_back ∈ wB := wB_in 839 (by decide +kernel) (by decide +kernel)
theorem wq840 : Cond.code yX9_back cX9_back 3 (some .int) ∈ wB := wB_in 840 (by decide +kernel) (by decide +kernel)
theorem wq841 : Cond.methodLink RL 121 yX9_count ∈ wB := wB_in 841 (by decide +kernel) (by decide +kernel)
theorem wq842 : Cond.instanceMethod yX9_count ∈ wB := wB_in 842 (by decide +kernel) (by decide +kernel)
theorem wq843 : Cond.selects RX9 yX9_count yX9_count ∈ wB := wB_in 843 (by decide +kernel) (by decide +kernel)
theorem wq844 : Cond.code yX9_count cX9_count 2 (some .int) ∈ wB := wB_in 844 (by decide +kernel) (by decide +kernel)
theorem inB_X0 : ∀ w ∈ u_ws RX0 TX0 3, w ∈ wB := by
  intro w hw
  obtain ⟨k, hk, rfl⟩ := List.mem_map.mp hw
  have hk := List.mem_range.mp hk
  match k, hk with
  | 0, _ => exact wq177
  | 1, _ => exact wq179
  | 2, _ => exact wq181
  | n + 3, h => exact absurd h (by omega)
theorem inB_X1 : ∀ w ∈ u_ws RX1 TX1 3, w ∈ wB := by
  intro w hw
  obtain ⟨k, hk, rfl⟩ := List.mem_map.mp hw
  have hk := List.mem_range.mp hk
  match k, hk with
  | 0, _ => exact wq222
  | 1, _ => exact wq224
  | 2, _ => exact wq226
  | n + 3, h => exact absurd h (by omega)
theorem inB_X3 : ∀ w ∈ u_ws RX3 TX3 13, w ∈ wB := by
  intro w hw
  obtain ⟨k, hk, rfl⟩ := List.mem_map.mp hw
  have hk := List.mem_range.mp hk
  match k, hk with
  | 0, _ => exact wq113
  | 1, _ => exact wq115
  | 2, _ => exact wq117
  | 3, _ => exact wq119
  | 4, _ => exact wq121
  | 5, _ => exact wq123
  | 6, _ => exact wq125
  | 7, _ => exact wq127
  | 8, _ => exact wq129
  | 9, _ => exact wq131
  | 10, _ => exact wq133
  | 11, _ => exact wq135
  | 12, _ => exact wq137
  | n + 13, h => exact absurd h (by omega)
theorem inB_X4 : ∀ w ∈ u_ws RX4 TX4 7, w ∈ wB := by
  intro w hw
  obtain ⟨k, hk, rfl⟩ := List.mem_map.mp hw
  have hk := List.mem_range.mp hk
  match k, hk with
  | 0, _ => exact wq195
  | 1, _ => exact wq197
  | 2, _ => exact wq199
  | 3, _ => exact wq201
  | 4, _ => exact wq203
  | 5, _ => exact wq205
  | 6, _ => exact wq207
  | n + 7, h => exact absurd h (by omega)
theorem inB_X5 : ∀ w ∈ u_ws RX5 TX5 6, w ∈ wB := by
  intro w hw
  obtain ⟨k, hk, rfl⟩ := List.mem_map.mp hw
  have hk := List.mem_range.mp hk
  match k, hk with
  | 0, _ => exact wq65
  | 1, _ => exact wq67
  | 2, _ => exact wq69
  | 3, _ => exact wq71
  | 4, _ => exact wq73
  | 5, _ => exact wq75
  | n + 6, h => exact absurd h (by omega)
theorem inB_X6 : ∀ w ∈ u_ws RX6 TX6 4, w ∈ wB := by
  intro w hw
  obtain ⟨k, hk, rfl⟩ := List.mem_map.mp hw
  have hk := List.mem_range.mp hk
  match k, hk with
  | 0, _ => exact wq155
  | 1, _ => exact wq157
  | 2, _ => exact wq159
  | 3, _ => exact wq161
  | n + 4, h => exact absurd h (by omega)
theorem inB_X8 : ∀ w ∈ u_ws RX8 TX8 7, w ∈ wB := by
  intro w hw
  obtain ⟨k, hk, rfl⟩ := List.mem_map.mp hw
  have hk := List.mem_range.mp hk
  match k, hk with
  | 0, _ => exact wq238
  | 1, _ => exact wq240
  | 2, _ => exact wq242
  | 3, _ => exact wq244
  | 4, _ => exact wq246
  | 5, _ => exact wq248
  | 6, _ => exact wq250
  | n + 7, h => exact absurd h (by omega)
theorem inB_X9 : ∀ w ∈ u_ws RX9 TX9 9, w ∈ wB := by
  intro w hw
  obtain ⟨k, hk, rfl⟩ := List.mem_map.mp hw
  have hk := List.mem_range.mp hk
  match k, hk with
  | 0, _ => exact wq609
  | 1, _ => exact wq611
  | 2, _ => exact wq613
  | 3, _ => exact wq615
  | 4, _ => exact wq617
  | 5, _ => exact wq619
  | 6, _ => exact wq621
  | 7, _ => exact wq623
  | 8, _ => exact wq625
  | n + 9, h => exact absurd h (by omega)
end
section
theorem dX0_init_0 : decode cX0_init 0 = .ok (.aload_n 0, 1) := by decide +kernel
theorem dX0_init_1 : decode cX0_init 1 = .ok (.invokespecial 1, 3) := by decide +kernel
theorem dX0_init_4 : decode cX0_init 4 = .ok (.return_, 1) := by decide +kernel
theorem dX0_wayTo_0 : decode cX0_wayTo 0 = .ok (.iload_n 1, 1) := by decide +kernel
theorem dX0_wayTo_1 : decode cX0_wayTo 1 = .ok (.aload_n 0, 1) := by decide +kernel
theorem dX0_wayTo_2 : decode cX0_wayTo 2 = .ok (.getfield 7, 3) := by decide +kernel
theorem dX0_wayTo_5 : decode cX0_wayTo 5 = .ok (.iadd, 1) := by decide +kernel
theorem dX0_wayTo_6 : decode cX0_wayTo 6 = .ok (.aload_n 0, 1) := by decide +kernel
theorem dX0_wayTo_7 : decode cX0_wayTo 7 = .ok (.getfield 13, 3) := by decide +kernel
theorem dX0_wayTo_10 : decode cX0_wayTo 10 = .ok (.isub, 1) := by decide +kernel
theorem dX0_wayTo_11 : decode cX0_wayTo 11 = .ok (.iload_n 2, 1) := by decide +kernel
theorem dX0_wayTo_12 : decode cX0_wayTo 12 = .ok (.invokestatic 16, 3) := by decide +kernel
theorem dX0_wayTo_15 : decode cX0_wayTo 15 = .ok (.istore_n 3, 1) := by decide +kernel
theorem dX0_wayTo_16 : decode cX0_wayTo 16 = .ok (.iconst 2, 1) := by decide +kernel
theorem dX0_wayTo_17 : decode cX0_wayTo 17 = .ok (.iload_n 3, 1) := by decide +kernel
theorem dX0_wayTo_18 : decode cX0_wayTo 18 = .ok (.imul, 1) := by decide +kernel
theorem dX0_wayTo_19 : decode cX0_wayTo 19 = .ok (.iload_n 2, 1) := by decide +kernel
theorem dX0_wayTo_20 : decode cX0_wayTo 20 = .ok (.if_icmp .le 9, 3) := by decide +kernel
theorem dX0_wayTo_23 : decode cX0_wayTo 23 = .ok (.iload_n 3, 1) := by decide +kernel
theorem dX0_wayTo_24 : decode cX0_wayTo 24 = .ok (.iload_n 2, 1) := by decide +kernel
theorem dX0_wayTo_25 : decode cX0_wayTo 25 = .ok (.isub, 1) := by decide +kernel
theorem dX0_wayTo_26 : decode cX0_wayTo 26 = .ok (.goto 4, 3) := by decide +kernel
theorem dX0_wayTo_29 : decode cX0_wayTo 29 = .ok (.iload_n 3, 1) := by decide +kernel
theorem dX0_wayTo_30 : decode cX0_wayTo 30 = .ok (.ireturn, 1) := by decide +kernel
theorem dX0_isAt_0 : decode cX0_isAt 0 = .ok (.aload_n 0, 1) := by decide +kernel
theorem dX0_isAt_1 : decode cX0_isAt 1 = .ok (.getfield 22, 3) := by decide +kernel
theorem dX0_isAt_4 : decode cX0_isAt 4 = .ok (.ifCond .ne 16, 3) := by decide +kernel
theorem dX0_isAt_7 : decode cX0_isAt 7 = .ok (.aload_n 0, 1) := by decide +kernel
theorem dX0_isAt_8 : decode cX0_isAt 8 = .ok (.iload_n 1, 1) := by decide +kernel
theorem dX0_isAt_9 : decode cX0_isAt 9 = .ok (.iload_n 2, 1) := by decide +kernel
theorem dX0_isAt_10 : decode cX0_isAt 10 = .ok (.invokevirtual 25, 3) := by decide +kernel
theorem dX0_isAt_13 : decode cX0_isAt 13 = .ok (.ifCond .ne 7, 3) := by decide +kernel
theorem dX0_isAt_16 : decode cX0_isAt 16 = .ok (.iconst 1, 1) := by decide +kernel
theorem dX0_isAt_17 : decode cX0_isAt 17 = .ok (.goto 4, 3) := by decide +kernel
theorem dX0_isAt_20 : decode cX0_isAt 20 = .ok (.iconst 0, 1) := by decide +kernel
theorem dX0_isAt_21 : decode cX0_isAt 21 = .ok (.ireturn, 1) := by decide +kernel
theorem dX0_step_0 : decode cX0_step 0 = .ok (.aload_n 0, 1) := by decide +kernel
theorem dX0_step_1 : decode cX0_step 1 = .ok (.iload_n 1, 1) := by decide +kernel
theorem dX0_step_2 : decode cX0_step 2 = .ok (.iload_n 2, 1) := by decide +kernel
theorem dX0_step_3 : decode cX0_step 3 = .ok (.invokevirtual 25, 3) := by decide +kernel
theorem dX0_step_6 : decode cX0_step 6 = .ok (.invokestatic 28, 3) := by decide +kernel
theorem dX0_step_9 : decode cX0_step 9 = .ok (.istore_n 3, 1) := by decide +kernel
theorem dX0_step_10 : decode cX0_step 10 = .ok (.aload_n 0, 1) := by decide +kernel
theorem dX0_step_11 : decode cX0_step 11 = .ok (.dup, 1) := by decide +kernel
theorem dX0_step_12 : decode cX0_step 12 = .ok (.getfield 22, 3) := by decide +kernel
theorem dX0_step_15 : decode cX0_step 15 = .ok (.iload_n 3, 1) := by decide +kernel
theorem dX0_step_16 : decode cX0_step 16 = .ok (.aload_n 0, 1) := by decide +kernel
theorem dX0_step_17 : decode cX0_step 17 = .ok (.getfield 22, 3) := by decide +kernel
theorem dX0_step_20 : decode cX0_step 20 = .ok (.invokestatic 32, 3) := by decide +kernel
theorem dX0_step_23 : decode cX0_step 23 = .ok (.iadd, 1) := by decide +kernel
theorem dX0_step_24 : decode cX0_step 24 = .ok (.putfield 22, 3) := by decide +kernel
theorem dX0_step_27 : decode cX0_step 27 = .ok (.aload_n 0, 1) := by decide +kernel
theorem dX0_step_28 : decode cX0_step 28 = .ok (.aload_n 0, 1) := by decide +kernel
theorem dX0_step_29 : decode cX0_step 29 = .ok (.getfield 13, 3) := by decide +kernel
theorem dX0_step_32 : decode cX0_step 32 = .ok (.aload_n 0, 1) := by decide +kernel
theorem dX0_step_33 : decode cX0_step 33 = .ok (.getfield 22, 3) := by decide +kernel
theorem dX0_step_36 : decode cX0_step 36 = .ok (.iadd, 1) := by decide +kernel
theorem dX0_step_37 : decode cX0_step 37 = .ok (.iload_n 2, 1) := by decide +kernel
theorem dX0_step_38 : decode cX0_step 38 = .ok (.invokestatic 16, 3) := by decide +kernel
theorem dX0_step_41 : decode cX0_step 41 = .ok (.putfield 13, 3) := by decide +kernel
theorem dX0_step_44 : decode cX0_step 44 = .ok (.return_, 1) := by decide +kernel
theorem dX0_wantedFor_0 : decode cX0_wantedFor 0 = .ok (.iload_n 0, 1) := by decide +kernel
theorem dX0_wantedFor_1 : decode cX0_wantedFor 1 = .ok (.invokestatic 37, 3) := by decide +kernel
theorem dX0_wantedFor_4 : decode cX0_wantedFor 4 = .ok (.istore_n 1, 1) := by decide +kernel
theorem dX0_wantedFor_5 : decode cX0_wantedFor 5 = .ok (.iconst 0, 1) := by decide +kernel
theorem dX0_wantedFor_6 : decode cX0_wantedFor 6 = .ok (.istore_n 2, 1) := by decide +kernel
theorem dX0_wantedFor_7 : decode cX0_wantedFor 7 = .ok (.bipush 64, 2) := by decide +kernel
theorem dX0_wantedFor_9 : decode cX0_wantedFor 9 = .ok (.istore_n 3, 1) := by decide +kernel
theorem dX0_wantedFor_10 : decode cX0_wantedFor 10 = .ok (.iload_n 3, 1) := by decide +kernel
theorem dX0_wantedFor_11 : decode cX0_wantedFor 11 = .ok (.ifCond .le 38, 3) := by decide +kernel
theorem dX0_wantedFor_14 : decode cX0_wantedFor 14 = .ok (.iload_n 2, 1) := by decide +kernel
theorem dX0_wantedFor_15 : decode cX0_wantedFor 15 = .ok (.iload_n 3, 1) := by decide +kernel
theorem dX0_wantedFor_16 : decode cX0_wantedFor 16 = .ok (.iadd, 1) := by decide +kernel
theorem dX0_wantedFor_17 : decode cX0_wantedFor 17 = .ok (.istore 4, 2) := by decide +kernel
theorem dX0_wantedFor_19 : decode cX0_wantedFor 19 = .ok (.iload 4, 2) := by decide +kernel
theorem dX0_wantedFor_21 : decode cX0_wantedFor 21 = .ok (.bipush 99, 2) := by decide +kernel
theorem dX0_wantedFor_23 : decode cX0_wantedFor 23 = .ok (.if_icmp .gt 19, 3) := by decide +kernel
theorem dX0_wantedFor_26 : decode cX0_wantedFor 26 = .ok (.iload 4, 2) := by decide +kernel
theorem dX0_wantedFor_28 : decode cX0_wantedFor 28 = .ok (.iload 4, 2) := by decide +kernel
theorem dX0_wantedFor_30 : decode cX0_wantedFor 30 = .ok (.iconst 1, 1) := by decide +kernel
theorem dX0_wantedFor_31 : decode cX0_wantedFor 31 = .ok (.iadd, 1) := by decide +kernel
theorem dX0_wantedFor_32 : decode cX0_wantedFor 32 = .ok (.imul, 1) := by decide +kernel
theorem dX0_wantedFor_33 : decode cX0_wantedFor 33 = .ok (.iconst 2, 1) := by decide +kernel
theorem dX0_wantedFor_34 : decode cX0_wantedFor 34 = .ok (.idiv, 1) := by decide +kernel
theorem dX0_wantedFor_35 : decode cX0_wantedFor 35 = .ok (.iload_n 1, 1) := by decide +kernel
theorem dX0_wantedFor_36 : decode cX0_wantedFor 36 = .ok (.if_icmp .gt 6, 3) := by decide +kernel
theorem dX0_wantedFor_39 : decode cX0_wantedFor 39 = .ok (.iload 4, 2) := by decide +kernel
theorem dX0_wantedFor_41 : decode cX0_wantedFor 41 = .ok (.istore_n 2, 1) := by decide +kernel
theorem dX0_wantedFor_42 : decode cX0_wantedFor 42 = .ok (.iload_n 3, 1) := by decide +kernel
theorem dX0_wantedFor_43 : decode cX0_wantedFor 43 = .ok (.iconst 2, 1) := by decide +kernel
theorem dX0_wantedFor_44 : decode cX0_wantedFor 44 = .ok (.idiv, 1) := by decide +kernel
theorem dX0_wantedFor_45 : decode cX0_wantedFor 45 = .ok (.istore_n 3, 1) := by decide +kernel
theorem dX0_wantedFor_46 : decode cX0_wantedFor 46 = .ok (.goto (-36), 3) := by decide +kernel
theorem dX0_wantedFor_49 : decode cX0_wantedFor 49 = .ok (.iload_n 0, 1) := by decide +kernel
theorem dX0_wantedFor_50 : decode cX0_wantedFor 50 = .ok (.ifCond .ge 8, 3) := by decide +kernel
theorem dX0_wantedFor_53 : decode cX0_wantedFor 53 = .ok (.iload_n 2, 1) := by decide +kernel
theorem dX0_wantedFor_54 : decode cX0_wantedFor 54 = .ok (.ineg, 1) := by decide +kernel
theorem dX0_wantedFor_55 : decode cX0_wantedFor 55 = .ok (.goto 4, 3) := by decide +kernel
theorem dX0_wantedFor_58 : decode cX0_wantedFor 58 = .ok (.iload_n 2, 1) := by decide +kernel
theorem dX0_wantedFor_59 : decode cX0_wantedFor 59 = .ok (.ireturn, 1) := by decide +kernel
theorem dX0_copy_0 : decode cX0_copy 0 = .ok (.aload_n 0, 1) := by decide +kernel
theorem dX0_copy_1 : decode cX0_copy 1 = .ok (.aload_n 1, 1) := by decide +kernel
theorem dX0_copy_2 : decode cX0_copy 2 = .ok (.getfield 13, 3) := by decide +kernel
theorem dX0_copy_5 : decode cX0_copy 5 = .ok (.putfield 13, 3) := by decide +kernel
theorem dX0_copy_8 : decode cX0_copy 8 = .ok (.aload_n 0, 1) := by decide +kernel
theorem dX0_copy_9 : decode cX0_copy 9 = .ok (.aload_n 1, 1) := by decide +kernel
theorem dX0_copy_10 : decode cX0_copy 10 = .ok (.getfield 22, 3) := by decide +kernel
theorem dX0_copy_13 : decode cX0_copy 13 = .ok (.putfield 22, 3) := by decide +kernel
theorem dX0_copy_16 : decode cX0_copy 16 = .ok (.aload_n 0, 1) := by decide +kernel
theorem dX0_copy_17 : decode cX0_copy 17 = .ok (.aload_n 1, 1) := by decide +kernel
theorem dX0_copy_18 : decode cX0_copy 18 = .ok (.getfield 7, 3) := by decide +kernel
theorem dX0_copy_21 : decode cX0_copy 21 = .ok (.putfield 7, 3) := by decide +kernel
theorem dX0_copy_24 : decode cX0_copy 24 = .ok (.return_, 1) := by decide +kernel
theorem dX1_init_0 : decode cX1_init 0 = .ok (.aload_n 0, 1) := by decide +kernel
theorem dX1_init_1 : decode cX1_init 1 = .ok (.invokespecial 1, 3) := by decide +kernel
theorem dX1_init_4 : decode cX1_init 4 = .ok (.aload_n 0, 1) := by decide +kernel
theorem dX1_init_5 : decode cX1_init 5 = .ok (.bipush 8, 2) := by decide +kernel
theorem dX1_init_7 : decode cX1_init 7 = .ok (.anewarray 9, 3) := by decide +kernel
theorem dX1_init_10 : decode cX1_init 10 = .ok (.putfield 11, 3) := by decide +kernel
theorem dX1_init_13 : decode cX1_init 13 = .ok (.return_, 1) := by decide +kernel
theorem dX1_add_0 : decode cX1_add 0 = .ok (.aload_n 0, 1) := by decide +kernel
theorem dX1_add_1 : decode cX1_add 1 = .ok (.getfield 15, 3) := by decide +kernel
theorem dX1_add_4 : decode cX1_add 4 = .ok (.bipush 8, 2) := by decide +kernel
theorem dX1_add_6 : decode cX1_add 6 = .ok (.invokestatic 19, 3) := by decide +kernel
theorem dX1_add_9 : decode cX1_add 9 = .ok (.istore_n 2, 1) := by decide +kernel
theorem dX1_add_10 : decode cX1_add 10 = .ok (.aload_n 0, 1) := by decide +kernel
theorem dX1_add_11 : decode cX1_add 11 = .ok (.getfield 11, 3) := by decide +kernel
theorem dX1_add_14 : decode cX1_add 14 = .ok (.iload_n 2, 1) := by decide +kernel
theorem dX1_add_15 : decode cX1_add 15 = .ok (.aaload, 1) := by decide +kernel
theorem dX1_add_16 : decode cX1_add 16 = .ok (.astore_n 3, 1) := by decide +kernel
theorem dX1_add_17 : decode cX1_add 17 = .ok (.aload_n 3, 1) := by decide +kernel
theorem dX1_add_18 : decode cX1_add 18 = .ok (.ifnonnull 18, 3) := by decide +kernel
theorem dX1_add_21 : decode cX1_add 21 = .ok (.new 9, 3) := by decide +kernel
theorem dX1_add_24 : decode cX1_add 24 = .ok (.dup, 1) := by decide +kernel
theorem dX1_add_25 : decode cX1_add 25 = .ok (.invokespecial 25, 3) := by decide +kernel
theorem dX1_add_28 : decode cX1_add 28 = .ok (.astore_n 3, 1) := by decide +kernel
theorem dX1_add_29 : decode cX1_add 29 = .ok (.aload_n 0, 1) := by decide +kernel
theorem dX1_add_30 : decode cX1_add 30 = .ok (.getfield 11, 3) := by decide +kernel
theorem dX1_add_33 : decode cX1_add 33 = .ok (.iload_n 2, 1) := by decide +kernel
theorem dX1_add_34 : decode cX1_add 34 = .ok (.aload_n 3, 1) := by decide +kernel
theorem dX1_add_35 : decode cX1_add 35 = .ok (.aastore, 1) := by decide +kernel
theorem dX1_add_36 : decode cX1_add 36 = .ok (.aload_n 3, 1) := by decide +kernel
theorem dX1_add_37 : decode cX1_add 37 = .ok (.aload_n 1, 1) := by decide +kernel
theorem dX1_add_38 : decode cX1_add 38 = .ok (.invokevirtual 26, 3) := by decide +kernel
theorem dX1_add_41 : decode cX1_add 41 = .ok (.aload_n 0, 1) := by decide +kernel
theorem dX1_add_42 : decode cX1_add 42 = .ok (.iload_n 2, 1) := by decide +kernel
theorem dX1_add_43 : decode cX1_add 43 = .ok (.iconst 1, 1) := by decide +kernel
theorem dX1_add_44 : decode cX1_add 44 = .ok (.iadd, 1) := by decide +kernel
theorem dX1_add_45 : decode cX1_add 45 = .ok (.putfield 15, 3) := by decide +kernel
theorem dX1_add_48 : decode cX1_add 48 = .ok (.aload_n 0, 1) := by decide +kernel
theorem dX1_add_49 : decode cX1_add 49 = .ok (.aload_n 0, 1) := by decide +kernel
theorem dX1_add_50 : decode cX1_add 50 = .ok (.getfield 30, 3) := by decide +kernel
theorem dX1_add_53 : decode cX1_add 53 = .ok (.iconst 1, 1) := by decide +kernel
theorem dX1_add_54 : decode cX1_add 54 = .ok (.iadd, 1) := by decide +kernel
theorem dX1_add_55 : decode cX1_add 55 = .ok (.bipush 8, 2) := by decide +kernel
theorem dX1_add_57 : decode cX1_add 57 = .ok (.invokestatic 33, 3) := by decide +kernel
theorem dX1_add_60 : decode cX1_add 60 = .ok (.putfield 30, 3) := by decide +kernel
theorem dX1_add_63 : decode cX1_add 63 = .ok (.return_, 1) := by decide +kernel
theorem dX1_takeBack_0 : decode cX1_takeBack 0 = .ok (.aload_n 0, 1) := by decide +kernel
theorem dX1_takeBack_1 : decode cX1_takeBack 1 = .ok (.getfield 15, 3) := by decide +kernel
theorem dX1_takeBack_4 : decode cX1_takeBack 4 = .ok (.iconst 1, 1) := by decide +kernel
theorem dX1_takeBack_5 : decode cX1_takeBack 5 = .ok (.isub, 1) := by decide +kernel
theorem dX1_takeBack_6 : decode cX1_takeBack 6 = .ok (.bipush 8, 2) := by decide +kernel
theorem dX1_takeBack_8 : decode cX1_takeBack 8 = .ok (.invokestatic 19, 3) := by decide +kernel
theorem dX1_takeBack_11 : decode cX1_takeBack 11 = .ok (.istore_n 2, 1) := by decide +kernel
theorem dX1_takeBack_12 : decode cX1_takeBack 12 = .ok (.aload_n 0, 1) := by decide +kernel
theorem dX1_takeBack_13 : decode cX1_takeBack 13 = .ok (.getfield 11, 3) := by decide +kernel
theorem dX1_takeBack_16 : decode cX1_takeBack 16 = .ok (.iload_n 2, 1) := by decide +kernel
theorem dX1_takeBack_17 : decode cX1_takeBack 17 = .ok (.aaload, 1) := by decide +kernel
theorem dX1_takeBack_18 : decode cX1_takeBack 18 = .ok (.astore_n 3, 1) := by decide +kernel
theorem dX1_takeBack_19 : decode cX1_takeBack 19 = .ok (.aload_n 0, 1) := by decide +kernel
theorem dX1_takeBack_20 : decode cX1_takeBack 20 = .ok (.getfield 30, 3) := by decide +kernel
theorem dX1_takeBack_23 : decode cX1_takeBack 23 = .ok (.iconst 1, 1) := by decide +kernel
theorem dX1_takeBack_24 : decode cX1_takeBack 24 = .ok (.if_icmp .lt 7, 3) := by decide +kernel
theorem dX1_takeBack_27 : decode cX1_takeBack 27 = .ok (.aload_n 3, 1) := by decide +kernel
theorem dX1_takeBack_28 : decode cX1_takeBack 28 = .ok (.ifnonnull 5, 3) := by decide +kernel
theorem dX1_takeBack_31 : decode cX1_takeBack 31 = .ok (.iconst 0, 1) := by decide +kernel
theorem dX1_takeBack_32 : decode cX1_takeBack 32 = .ok (.ireturn, 1) := by decide +kernel
theorem dX1_takeBack_33 : decode cX1_takeBack 33 = .ok (.aload_n 1, 1) := by decide +kernel
theorem dX1_takeBack_34 : decode cX1_takeBack 34 = .ok (.aload_n 3, 1) := by decide +kernel
theorem dX1_takeBack_35 : decode cX1_takeBack 35 = .ok (.invokevirtual 26, 3) := by decide +kernel
theorem dX1_takeBack_38 : decode cX1_takeBack 38 = .ok (.aload_n 0, 1) := by decide +kernel
theorem dX1_takeBack_39 : decode cX1_takeBack 39 = .ok (.iload_n 2, 1) := by decide +kernel
theorem dX1_takeBack_40 : decode cX1_takeBack 40 = .ok (.putfield 15, 3) := by decide +kernel
theorem dX1_takeBack_43 : decode cX1_takeBack 43 = .ok (.aload_n 0, 1) := by decide +kernel
theorem dX1_takeBack_44 : decode cX1_takeBack 44 = .ok (.dup, 1) := by decide +kernel
theorem dX1_takeBack_45 : decode cX1_takeBack 45 = .ok (.getfield 30, 3) := by decide +kernel
theorem dX1_takeBack_48 : decode cX1_takeBack 48 = .ok (.iconst 1, 1) := by decide +kernel
theorem dX1_takeBack_49 : decode cX1_takeBack 49 = .ok (.isub, 1) := by decide +kernel
theorem dX1_takeBack_50 : decode cX1_takeBack 50 = .ok (.putfield 30, 3) := by decide +kernel
theorem dX1_takeBack_53 : decode cX1_takeBack 53 = .ok (.iconst 1, 1) := by decide +kernel
theorem dX1_takeBack_54 : decode cX1_takeBack 54 = .ok (.ireturn, 1) := by decide +kernel
theorem dX2_framesASecond_0 : decode cX2_framesASecond 0 = .ok (.iload_n 0, 1) := by decide +kernel
theorem dX2_framesASecond_1 : decode cX2_framesASecond 1 = .ok (.lookupswitch 33 #[(0, 27), (1, 30)], 27) := by decide +kernel
theorem dX2_framesASecond_28 : decode cX2_framesASecond 28 = .ok (.bipush 24, 2) := by decide +kernel
theorem dX2_framesASecond_30 : decode cX2_framesASecond 30 = .ok (.ireturn, 1) := by decide +kernel
theorem dX2_framesASecond_31 : decode cX2_framesASecond 31 = .ok (.bipush 25, 2) := by decide +kernel
theorem dX2_framesASecond_33 : decode cX2_framesASecond 33 = .ok (.ireturn, 1) := by decide +kernel
theorem dX2_framesASecond_34 : decode cX2_framesASecond 34 = .ok (.bipush 30, 2) := by decide +kernel
theorem dX2_framesASecond_36 : decode cX2_framesASecond 36 = .ok (.ireturn, 1) := by decide +kernel
theorem dX2_dayOf_0 : decode cX2_dayOf 0 = .ok (.iload_n 0, 1) := by decide +kernel
theorem dX2_dayOf_1 : decode cX2_dayOf 1 = .ok (.tableswitch 36 0 2 #[27, 30, 33], 27) := by decide +kernel
theorem dX2_dayOf_28 : decode cX2_dayOf 28 = .ok (.ldc 9, 2) := by decide +kernel
theorem dX2_dayOf_30 : decode cX2_dayOf 30 = .ok (.ireturn, 1) := by decide +kernel
theorem dX2_dayOf_31 : decode cX2_dayOf 31 = .ok (.ldc 10, 2) := by decide +kernel
theorem dX2_dayOf_33 : decode cX2_dayOf 33 = .ok (.ireturn, 1) := by decide +kernel
theorem dX2_dayOf_34 : decode cX2_dayOf 34 = .ok (.ldc 11, 2) := by decide +kernel
theorem dX2_dayOf_36 : decode cX2_dayOf 36 = .ok (.ireturn, 1) := by decide +kernel
theorem dX2_dayOf_37 : decode cX2_dayOf 37 = .ok (.ldc 12, 2) := by decide +kernel
theorem dX2_dayOf_39 : decode cX2_dayOf 39 = .ok (.ireturn, 1) := by decide +kernel
theorem dX2_leftOutInDay_0 : decode cX2_leftOutInDay 0 = .ok (.iload_n 0, 1) := by decide +kernel
theorem dX2_leftOutInDay_1 : decode cX2_leftOutInDay 1 = .ok (.iconst 3, 1) := by decide +kernel
theorem dX2_leftOutInDay_2 : decode cX2_leftOutInDay 2 = .ok (.if_icmp .ne 9, 3) := by decide +kernel
theorem dX2_leftOutInDay_5 : decode cX2_leftOutInDay 5 = .ok (.sipush 2592, 3) := by decide +kernel
theorem dX2_leftOutInDay_8 : decode cX2_leftOutInDay 8 = .ok (.goto 4, 3) := by decide +kernel
theorem dX2_leftOutInDay_11 : decode cX2_leftOutInDay 11 = .ok (.iconst 0, 1) := by decide +kernel
theorem dX2_leftOutInDay_12 : decode cX2_leftOutInDay 12 = .ok (.ireturn, 1) := by decide +kernel
theorem dX2_leftOutUpTo_0 : decode cX2_leftOutUpTo 0 = .ok (.iload_n 0, 1) := by decide +kernel
theorem dX2_leftOutUpTo_1 : decode cX2_leftOutUpTo 1 = .ok (.iconst 3, 1) := by decide +kernel
theorem dX2_leftOutUpTo_2 : decode cX2_leftOutUpTo 2 = .ok (.if_icmp .eq 5, 3) := by decide +kernel
theorem dX2_leftOutUpTo_5 : decode cX2_leftOutUpTo 5 = .ok (.iconst 0, 1) := by decide +kernel
theorem dX2_leftOutUpTo_6 : decode cX2_leftOutUpTo 6 = .ok (.ireturn, 1) := by decide +kernel
theorem dX2_leftOutUpTo_7 : decode cX2_leftOutUpTo 7 = .ok (.iload_n 1, 1) := by decide +kernel
theorem dX2_leftOutUpTo_8 : decode cX2_leftOutUpTo 8 = .ok (.sipush 17982, 3) := by decide +kernel
theorem dX2_leftOutUpTo_11 : decode cX2_leftOutUpTo 11 = .ok (.idiv, 1) := by decide +kernel
theorem dX2_leftOutUpTo_12 : decode cX2_leftOutUpTo 12 = .ok (.istore_n 2, 1) := by decide +kernel
theorem dX2_leftOutUpTo_13 : decode cX2_leftOutUpTo 13 = .ok (.iload_n 1, 1) := by decide +kernel
theorem dX2_leftOutUpTo_14 : decode cX2_leftOutUpTo 14 = .ok (.sipush 17982, 3) := by decide +kernel
theorem dX2_leftOutUpTo_17 : decode cX2_leftOutUpTo 17 = .ok (.irem, 1) := by decide +kernel
theorem dX2_leftOutUpTo_18 : decode cX2_leftOutUpTo 18 = .ok (.istore_n 3, 1) := by decide +kernel
theorem dX2_leftOutUpTo_19 : decode cX2_leftOutUpTo 19 = .ok (.iload_n 3, 1) := by decide +kernel
theorem dX2_leftOutUpTo_20 : decode cX2_leftOutUpTo 20 = .ok (.sipush 1800, 3) := by decide +kernel
theorem dX2_leftOutUpTo_23 : decode cX2_leftOutUpTo 23 = .ok (.if_icmp .ge 7, 3) := by decide +kernel
theorem dX2_leftOutUpTo_26 : decode cX2_leftOutUpTo 26 = .ok (.iconst 0, 1) := by decide +kernel
theorem dX2_leftOutUpTo_27 : decode cX2_leftOutUpTo 27 = .ok (.goto 14, 3) := by decide +kernel
theorem dX2_leftOutUpTo_30 : decode cX2_leftOutUpTo 30 = .ok (.iload_n 3, 1) := by decide +kernel
theorem dX2_leftOutUpTo_31 : decode cX2_leftOutUpTo 31 = .ok (.sipush 1800, 3) := by decide +kernel
theorem dX2_leftOutUpTo_34 : decode cX2_leftOutUpTo 34 = .ok (.isub, 1) := by decide +kernel
theorem dX2_leftOutUpTo_35 : decode cX2_leftOutUpTo 35 = .ok (.sipush 1798, 3) := by decide +kernel
theorem dX2_leftOutUpTo_38 : decode cX2_leftOutUpTo 38 = .ok (.idiv, 1) := by decide +kernel
theorem dX2_leftOutUpTo_39 : decode cX2_leftOutUpTo 39 = .ok (.iconst 1, 1) := by decide +kernel
theorem dX2_leftOutUpTo_40 : decode cX2_leftOutUpTo 40 = .ok (.iadd, 1) := by decide +kernel
theorem dX2_leftOutUpTo_41 : decode cX2_leftOutUpTo 41 = .ok (.istore 4, 2) := by decide +kernel
theorem dX2_leftOutUpTo_43 : decode cX2_leftOutUpTo 43 = .ok (.bipush 18, 2) := by decide +kernel
theorem dX2_leftOutUpTo_45 : decode cX2_leftOutUpTo 45 = .ok (.iload_n 2, 1) := by decide +kernel
theorem dX2_leftOutUpTo_46 : decode cX2_leftOutUpTo 46 = .ok (.imul, 1) := by decide +kernel
theorem dX2_leftOutUpTo_47 : decode cX2_leftOutUpTo 47 = .ok (.iconst 2, 1) := by decide +kernel
theorem dX2_leftOutUpTo_48 : decode cX2_leftOutUpTo 48 = .ok (.iload 4, 2) := by decide +kernel
theorem dX2_leftOutUpTo_50 : decode cX2_leftOutUpTo 50 = .ok (.imul, 1) := by decide +kernel
theorem dX2_leftOutUpTo_51 : decode cX2_leftOutUpTo 51 = .ok (.iadd, 1) := by decide +kernel
theorem dX2_leftOutUpTo_52 : decode cX2_leftOutUpTo 52 = .ok (.ireturn, 1) := by decide +kernel
theorem dX2_numberOf_0 : decode cX2_numberOf 0 = .ok (.iload_n 0, 1) := by decide +kernel
theorem dX2_numberOf_1 : decode cX2_numberOf 1 = .ok (.invokestatic 15, 3) := by decide +kernel
theorem dX2_numberOf_4 : decode cX2_numberOf 4 = .ok (.istore_n 2, 1) := by decide +kernel
theorem dX2_numberOf_5 : decode cX2_numberOf 5 = .ok (.iload_n 1, 1) := by decide +kernel
theorem dX2_numberOf_6 : decode cX2_numberOf 6 = .ok (.iload_n 0, 1) := by decide +kernel
theorem dX2_numberOf_7 : decode cX2_numberOf 7 = .ok (.iload_n 1, 1) := by decide +kernel
theorem dX2_numberOf_8 : decode cX2_numberOf 8 = .ok (.invokestatic 19, 3) := by decide +kernel
theorem dX2_numberOf_11 : decode cX2_numberOf 11 = .ok (.iadd, 1) := by decide +kernel
theorem dX2_numberOf_12 : decode cX2_numberOf 12 = .ok (.istore_n 3, 1) := by decide +kernel
theorem dX2_numberOf_13 : decode cX2_numberOf 13 = .ok (.iload_n 3, 1) := by decide +kernel
theorem dX2_numberOf_14 : decode cX2_numberOf 14 = .ok (.iload_n 2, 1) := by decide +kernel
theorem dX2_numberOf_15 : decode cX2_numberOf 15 = .ok (.idiv, 1) := by decide +kernel
theorem dX2_numberOf_16 : decode cX2_numberOf 16 = .ok (.istore 4, 2) := by decide +kernel
theorem dX2_numberOf_18 : decode cX2_numberOf 18 = .ok (.iload 4, 2) := by decide +kernel
theorem dX2_numberOf_20 : decode cX2_numberOf 20 = .ok (.bipush 60, 2) := by decide +kernel
theorem dX2_numberOf_22 : decode cX2_numberOf 22 = .ok (.idiv, 1) := by decide +kernel
theorem dX2_numberOf_23 : decode cX2_numberOf 23 = .ok (.istore 5, 2) := by decide +kernel
theorem dX2_numberOf_25 : decode cX2_numberOf 25 = .ok (.iload 5, 2) := by decide +kernel
theorem dX2_numberOf_27 : decode cX2_numberOf 27 = .ok (.bipush 60, 2) := by decide +kernel
theorem dX2_numberOf_29 : decode cX2_numberOf 29 = .ok (.idiv, 1) := by decide +kernel
theorem dX2_numberOf_30 : decode cX2_numberOf 30 = .ok (.ldc 23, 2) := by decide +kernel
theorem dX2_numberOf_32 : decode cX2_numberOf 32 = .ok (.imul, 1) := by decide +kernel
theorem dX2_numberOf_33 : decode cX2_numberOf 33 = .ok (.iload 5, 2) := by decide +kernel
theorem dX2_numberOf_35 : decode cX2_numberOf 35 = .ok (.bipush 60, 2) := by decide +kernel
theorem dX2_numberOf_37 : decode cX2_numberOf 37 = .ok (.irem, 1) := by decide +kernel
theorem dX2_numberOf_38 : decode cX2_numberOf 38 = .ok (.sipush 10000, 3) := by decide +kernel
theorem dX2_numberOf_41 : decode cX2_numberOf 41 = .ok (.imul, 1) := by decide +kernel
theorem dX2_numberOf_42 : decode cX2_numberOf 42 = .ok (.iadd, 1) := by decide +kernel
theorem dX2_numberOf_43 : decode cX2_numberOf 43 = .ok (.iload 4, 2) := by decide +kernel
theorem dX2_numberOf_45 : decode cX2_numberOf 45 = .ok (.bipush 60, 2) := by decide +kernel
theorem dX2_numberOf_47 : decode cX2_numberOf 47 = .ok (.irem, 1) := by decide +kernel
theorem dX2_numberOf_48 : decode cX2_numberOf 48 = .ok (.bipush 100, 2) := by decide +kernel
theorem dX2_numberOf_50 : decode cX2_numberOf 50 = .ok (.imul, 1) := by decide +kernel
theorem dX2_numberOf_51 : decode cX2_numberOf 51 = .ok (.iadd, 1) := by decide +kernel
theorem dX2_numberOf_52 : decode cX2_numberOf 52 = .ok (.iload_n 3, 1) := by decide +kernel
theorem dX2_numberOf_53 : decode cX2_numberOf 53 = .ok (.iload_n 2, 1) := by decide +kernel
theorem dX2_numberOf_54 : decode cX2_numberOf 54 = .ok (.irem, 1) := by decide +kernel
theorem dX2_numberOf_55 : decode cX2_numberOf 55 = .ok (.iadd, 1) := by decide +kernel
theorem dX2_numberOf_56 : decode cX2_numberOf 56 = .ok (.ireturn, 1) := by decide +kernel
theorem dX2_frameOf_0 : decode cX2_frameOf 0 = .ok (.iload_n 0, 1) := by decide +kernel
theorem dX2_frameOf_1 : decode cX2_frameOf 1 = .ok (.invokestatic 15, 3) := by decide +kernel
theorem dX2_frameOf_4 : decode cX2_frameOf 4 = .ok (.istore_n 2, 1) := by decide +kernel
theorem dX2_frameOf_5 : decode cX2_frameOf 5 = .ok (.iload_n 1, 1) := by decide +kernel
theorem dX2_frameOf_6 : decode cX2_frameOf 6 = .ok (.bipush 100, 2) := by decide +kernel
theorem dX2_frameOf_8 : decode cX2_frameOf 8 = .ok (.irem, 1) := by decide +kernel
theorem dX2_frameOf_9 : decode cX2_frameOf 9 = .ok (.istore_n 3, 1) := by decide +kernel
theorem dX2_frameOf_10 : decode cX2_frameOf 10 = .ok (.iload_n 1, 1) := by decide +kernel
theorem dX2_frameOf_11 : decode cX2_frameOf 11 = .ok (.bipush 100, 2) := by decide +kernel
theorem dX2_frameOf_13 : decode cX2_frameOf 13 = .ok (.idiv, 1) := by decide +kernel
theorem dX2_frameOf_14 : decode cX2_frameOf 14 = .ok (.bipush 100, 2) := by decide +kernel
theorem dX2_frameOf_16 : decode cX2_frameOf 16 = .ok (.irem, 1) := by decide +kernel
theorem dX2_frameOf_17 : decode cX2_frameOf 17 = .ok (.istore 4, 2) := by decide +kernel
theorem dX2_frameOf_19 : decode cX2_frameOf 19 = .ok (.iload_n 1, 1) := by decide +kernel
theorem dX2_frameOf_20 : decode cX2_frameOf 20 = .ok (.sipush 10000, 3) := by decide +kernel
theorem dX2_frameOf_23 : decode cX2_frameOf 23 = .ok (.idiv, 1) := by decide +kernel
theorem dX2_frameOf_24 : decode cX2_frameOf 24 = .ok (.bipush 100, 2) := by decide +kernel
theorem dX2_frameOf_26 : decode cX2_frameOf 26 = .ok (.irem, 1) := by decide +kernel
theorem dX2_frameOf_27 : decode cX2_frameOf 27 = .ok (.istore 5, 2) := by decide +kernel
theorem dX2_frameOf_29 : decode cX2_frameOf 29 = .ok (.iload_n 1, 1) := by decide +kernel
theorem dX2_frameOf_30 : decode cX2_frameOf 30 = .ok (.ldc 23, 2) := by decide +kernel
theorem dX2_frameOf_32 : decode cX2_frameOf 32 = .ok (.idiv, 1) := by decide +kernel
theorem dX2_frameOf_33 : decode cX2_frameOf 33 = .ok (.istore 6, 2) := by decide +kernel
theorem dX2_frameOf_35 : decode cX2_frameOf 35 = .ok (.iload_n 1, 1) := by decide +kernel
theorem dX2_frameOf_36 : decode cX2_frameOf 36 = .ok (.ifCond .lt 29, 3) := by decide +kernel
theorem dX2_frameOf_39 : decode cX2_frameOf 39 = .ok (.iload_n 3, 1) := by decide +kernel
theorem dX2_frameOf_40 : decode cX2_frameOf 40 = .ok (.iload_n 2, 1) := by decide +kernel
theorem dX2_frameOf_41 : decode cX2_frameOf 41 = .ok (.if_icmp .ge 24, 3) := by decide +kernel
theorem dX2_frameOf_44 : decode cX2_frameOf 44 = .ok (.iload 4, 2) := by decide +kernel
theorem dX2_frameOf_46 : decode cX2_frameOf 46 = .ok (.bipush 59, 2) := by decide +kernel
theorem dX2_frameOf_48 : decode cX2_frameOf 48 = .ok (.if_icmp .gt 17, 3) := by decide +kernel
theorem dX2_frameOf_51 : decode cX2_frameOf 51 = .ok (.iload 5, 2) := by decide +kernel
theorem dX2_frameOf_53 : decode cX2_frameOf 53 = .ok (.bipush 59, 2) := by decide +kernel
theorem dX2_frameOf_55 : decode cX2_frameOf 55 = .ok (.if_icmp .gt 10, 3) := by decide +kernel
theorem dX2_frameOf_58 : decode cX2_frameOf 58 = .ok (.iload 6, 2) := by decide +kernel
theorem dX2_frameOf_60 : decode cX2_frameOf 60 = .ok (.bipush 23, 2) := by decide +kernel
theorem dX2_frameOf_62 : decode cX2_frameOf 62 = .ok (.if_icmp .le 6, 3) := by decide +kernel
theorem dX2_frameOf_65 : decode cX2_frameOf 65 = .ok (.bipush (-9), 2) := by decide +kernel
theorem dX2_frameOf_67 : decode cX2_frameOf 67 = .ok (.ireturn, 1) := by decide +kernel
theorem dX2_frameOf_68 : decode cX2_frameOf 68 = .ok (.bipush 60, 2) := by decide +kernel
theorem dX2_frameOf_70 : decode cX2_frameOf 70 = .ok (.iload 6, 2) := by decide +kernel
theorem dX2_frameOf_72 : decode cX2_frameOf 72 = .ok (.imul, 1) := by decide +kernel
theorem dX2_frameOf_73 : decode cX2_frameOf 73 = .ok (.iload 5, 2) := by decide +kernel
theorem dX2_frameOf_75 : decode cX2_frameOf 75 = .ok (.iadd, 1) := by decide +kernel
theorem dX2_frameOf_76 : decode cX2_frameOf 76 = .ok (.istore 7, 2) := by decide +kernel
theorem dX2_frameOf_78 : decode cX2_frameOf 78 = .ok (.bipush 60, 2) := by decide +kernel
theorem dX2_frameOf_80 : decode cX2_frameOf 80 = .ok (.iload 7, 2) := by decide +kernel
theorem dX2_frameOf_82 : decode cX2_frameOf 82 = .ok (.imul, 1) := by decide +kernel
theorem dX2_frameOf_83 : decode cX2_frameOf 83 = .ok (.iload 4, 2) := by decide +kernel
theorem dX2_frameOf_85 : decode cX2_frameOf 85 = .ok (.iadd, 1) := by decide +kernel
theorem dX2_frameOf_86 : decode cX2_frameOf 86 = .ok (.iload_n 2, 1) := by decide +kernel
theorem dX2_frameOf_87 : decode cX2_frameOf 87 = .ok (.imul, 1) := by decide +kernel
theorem dX2_frameOf_88 : decode cX2_frameOf 88 = .ok (.iload_n 3, 1) := by decide +kernel
theorem dX2_frameOf_89 : decode cX2_frameOf 89 = .ok (.iadd, 1) := by decide +kernel
theorem dX2_frameOf_90 : decode cX2_frameOf 90 = .ok (.istore 8, 2) := by decide +kernel
theorem dX2_frameOf_92 : decode cX2_frameOf 92 = .ok (.iload_n 0, 1) := by decide +kernel
theorem dX2_frameOf_93 : decode cX2_frameOf 93 = .ok (.iconst 3, 1) := by decide +kernel
theorem dX2_frameOf_94 : decode cX2_frameOf 94 = .ok (.if_icmp .eq 6, 3) := by decide +kernel
theorem dX2_frameOf_97 : decode cX2_frameOf 97 = .ok (.iload 8, 2) := by decide +kernel
theorem dX2_frameOf_99 : decode cX2_frameOf 99 = .ok (.ireturn, 1) := by decide +kernel
theorem dX2_frameOf_100 : decode cX2_frameOf 100 = .ok (.iload 7, 2) := by decide +kernel
theorem dX2_frameOf_102 : decode cX2_frameOf 102 = .ok (.bipush 10, 2) := by decide +kernel
theorem dX2_frameOf_104 : decode cX2_frameOf 104 = .ok (.irem, 1) := by decide +kernel
theorem dX2_frameOf_105 : decode cX2_frameOf 105 = .ok (.ifCond .eq 16, 3) := by decide +kernel
theorem dX2_frameOf_108 : decode cX2_frameOf 108 = .ok (.iload 4, 2) := by decide +kernel
theorem dX2_frameOf_110 : decode cX2_frameOf 110 = .ok (.ifCond .ne 11, 3) := by decide +kernel
theorem dX2_frameOf_113 : decode cX2_frameOf 113 = .ok (.iload_n 3, 1) := by decide +kernel
theorem dX2_frameOf_114 : decode cX2_frameOf 114 = .ok (.iconst 2, 1) := by decide +kernel
theorem dX2_frameOf_115 : decode cX2_frameOf 115 = .ok (.if_icmp .ge 6, 3) := by decide +kernel
theorem dX2_frameOf_118 : decode cX2_frameOf 118 = .ok (.bipush (-9), 2) := by decide +kernel
theorem dX2_frameOf_120 : decode cX2_frameOf 120 = .ok (.ireturn, 1) := by decide +kernel
theorem dX2_frameOf_121 : decode cX2_frameOf 121 = .ok (.iload 8, 2) := by decide +kernel
theorem dX2_frameOf_123 : decode cX2_frameOf 123 = .ok (.iconst 2, 1) := by decide +kernel
theorem dX2_frameOf_124 : decode cX2_frameOf 124 = .ok (.iload 7, 2) := by decide +kernel
theorem dX2_frameOf_126 : decode cX2_frameOf 126 = .ok (.iload 7, 2) := by decide +kernel
theorem dX2_frameOf_128 : decode cX2_frameOf 128 = .ok (.bipush 10, 2) := by decide +kernel
theorem dX2_frameOf_130 : decode cX2_frameOf 130 = .ok (.idiv, 1) := by decide +kernel
theorem dX2_frameOf_131 : decode cX2_frameOf 131 = .ok (.isub, 1) := by decide +kernel
theorem dX2_frameOf_132 : decode cX2_frameOf 132 = .ok (.imul, 1) := by decide +kernel
theorem dX2_frameOf_133 : decode cX2_frameOf 133 = .ok (.isub, 1) := by decide +kernel
theorem dX2_frameOf_134 : decode cX2_frameOf 134 = .ok (.ireturn, 1) := by decide +kernel
theorem dX3_init_0 : decode cX3_init 0 = .ok (.aload_n 0, 1) := by decide +kernel
theorem dX3_init_1 : decode cX3_init 1 = .ok (.invokespecial 3, 3) := by decide +kernel
theorem dX3_init_4 : decode cX3_init 4 = .ok (.aload_n 0, 1) := by decide +kernel
theorem dX3_init_5 : decode cX3_init 5 = .ok (.bipush 40, 2) := by decide +kernel
theorem dX3_init_7 : decode cX3_init 7 = .ok (.putfield 11, 3) := by decide +kernel
theorem dX3_init_10 : decode cX3_init 10 = .ok (.return_, 1) := by decide +kernel
theorem dX3_isLocked_0 : decode cX3_isLocked 0 = .ok (.aload_n 0, 1) := by decide +kernel
theorem dX3_isLocked_1 : decode cX3_isLocked 1 = .ok (.getfield 15, 3) := by decide +kernel
theorem dX3_isLocked_4 : decode cX3_isLocked 4 = .ok (.iconst 3, 1) := by decide +kernel
theorem dX3_isLocked_5 : decode cX3_isLocked 5 = .ok (.if_icmp .lt 7, 3) := by decide +kernel
theorem dX3_isLocked_8 : decode cX3_isLocked 8 = .ok (.iconst 1, 1) := by decide +kernel
theorem dX3_isLocked_9 : decode cX3_isLocked 9 = .ok (.goto 4, 3) := by decide +kernel
theorem dX3_isLocked_12 : decode cX3_isLocked 12 = .ok (.iconst 0, 1) := by decide +kernel
theorem dX3_isLocked_13 : decode cX3_isLocked 13 = .ok (.ireturn, 1) := by decide +kernel
theorem dX3_hasRead_0 : decode cX3_hasRead 0 = .ok (.aload_n 0, 1) := by decide +kernel
theorem dX3_hasRead_1 : decode cX3_hasRead 1 = .ok (.getfield 18, 3) := by decide +kernel
theorem dX3_hasRead_4 : decode cX3_hasRead 4 = .ok (.ifCond .le 7, 3) := by decide +kernel
theorem dX3_hasRead_7 : decode cX3_hasRead 7 = .ok (.iconst 1, 1) := by decide +kernel
theorem dX3_hasRead_8 : decode cX3_hasRead 8 = .ok (.goto 4, 3) := by decide +kernel
theorem dX3_hasRead_11 : decode cX3_hasRead 11 = .ok (.iconst 0, 1) := by decide +kernel
theorem dX3_hasRead_12 : decode cX3_hasRead 12 = .ok (.ireturn, 1) := by decide +kernel
theorem dX3_take_0 : decode cX3_take 0 = .ok (.iconst 4, 1) := by decide +kernel
theorem dX3_take_1 : decode cX3_take 1 = .ok (.iload_n 1, 1) := by decide +kernel
theorem dX3_take_2 : decode cX3_take 2 = .ok (.imul, 1) := by decide +kernel
theorem dX3_take_3 : decode cX3_take 3 = .ok (.iconst 3, 1) := by decide +kernel
theorem dX3_take_4 : decode cX3_take 4 = .ok (.aload_n 0, 1) := by decide +kernel
theorem dX3_take_5 : decode cX3_take 5 = .ok (.getfield 11, 3) := by decide +kernel
theorem dX3_take_8 : decode cX3_take 8 = .ok (.imul, 1) := by decide +kernel
theorem dX3_take_9 : decode cX3_take 9 = .ok (.if_icmp .le 36, 3) := by decide +kernel
theorem dX3_take_12 : decode cX3_take 12 = .ok (.aload_n 0, 1) := by decide +kernel
theorem dX3_take_13 : decode cX3_take 13 = .ok (.getfield 21, 3) := by decide +kernel
theorem dX3_take_16 : decode cX3_take 16 = .ok (.ifCond .le 18, 3) := by decide +kernel
theorem dX3_take_19 : decode cX3_take 19 = .ok (.aload_n 0, 1) := by decide +kernel
theorem dX3_take_20 : decode cX3_take 20 = .ok (.iconst 0, 1) := by decide +kernel
theorem dX3_take_21 : decode cX3_take 21 = .ok (.putfield 21, 3) := by decide +kernel
theorem dX3_take_24 : decode cX3_take 24 = .ok (.aload_n 0, 1) := by decide +kernel
theorem dX3_take_25 : decode cX3_take 25 = .ok (.dup, 1) := by decide +kernel
theorem dX3_take_26 : decode cX3_take 26 = .ok (.getfield 24, 3) := by decide +kernel
theorem dX3_take_29 : decode cX3_take 29 = .ok (.iconst 1, 1) := by decide +kernel
theorem dX3_take_30 : decode cX3_take 30 = .ok (.iadd, 1) := by decide +kernel
theorem dX3_take_31 : decode cX3_take 31 = .ok (.putfield 24, 3) := by decide +kernel
theorem dX3_take_34 : decode cX3_take 34 = .ok (.aload_n 0, 1) := by decide +kernel
theorem dX3_take_35 : decode cX3_take 35 = .ok (.iload_n 1, 1) := by decide +kernel
theorem dX3_take_36 : decode cX3_take 36 = .ok (.invokevirtual 27, 3) := by decide +kernel
theorem dX3_take_39 : decode cX3_take 39 = .ok (.aload_n 0, 1) := by decide +kernel
theorem dX3_take_40 : decode cX3_take 40 = .ok (.lconst 0, 1) := by decide +kernel
theorem dX3_take_41 : decode cX3_take 41 = .ok (.invokevirtual 31, 3) := by decide +kernel
theorem dX3_take_44 : decode cX3_take 44 = .ok (.ireturn, 1) := by decide +kernel
theorem dX3_take_45 : decode cX3_take 45 = .ok (.aload_n 0, 1) := by decide +kernel
theorem dX3_take_46 : decode cX3_take 46 = .ok (.getfield 21, 3) := by decide +kernel
theorem dX3_take_49 : decode cX3_take 49 = .ok (.ifCond .ne 10, 3) := by decide +kernel
theorem dX3_take_52 : decode cX3_take 52 = .ok (.aload_n 0, 1) := by decide +kernel
theorem dX3_take_53 : decode cX3_take 53 = .ok (.iload_n 1, 1) := by decide +kernel
theorem dX3_take_54 : decode cX3_take 54 = .ok (.putfield 21, 3) := by decide +kernel
theorem dX3_take_57 : decode cX3_take 57 = .ok (.iconst 0, 1) := by decide +kernel
theorem dX3_take_58 : decode cX3_take 58 = .ok (.ireturn, 1) := by decide +kernel
theorem dX3_take_59 : decode cX3_take 59 = .ok (.aload_n 0, 1) := by decide +kernel
theorem dX3_take_60 : decode cX3_take 60 = .ok (.aload_n 0, 1) := by decide +kernel
theorem dX3_take_61 : decode cX3_take 61 = .ok (.getfield 21, 3) := by decide +kernel
theorem dX3_take_64 : decode cX3_take 64 = .ok (.iload_n 1, 1) := by decide +kernel
theorem dX3_take_65 : decode cX3_take 65 = .ok (.iadd, 1) := by decide +kernel
theorem dX3_take_66 : decode cX3_take 66 = .ok (.invokevirtual 27, 3) := by decide +kernel
theorem dX3_take_69 : decode cX3_take 69 = .ok (.aload_n 0, 1) := by decide +kernel
theorem dX3_take_70 : decode cX3_take 70 = .ok (.iconst 0, 1) := by decide +kernel
theorem dX3_take_71 : decode cX3_take 71 = .ok (.putfield 21, 3) := by decide +kernel
theorem dX3_take_74 : decode cX3_take 74 = .ok (.aload_n 0, 1) := by decide +kernel
theorem dX3_take_75 : decode cX3_take 75 = .ok (.lconst 1, 1) := by decide +kernel
theorem dX3_take_76 : decode cX3_take 76 = .ok (.invokevirtual 31, 3) := by decide +kernel
theorem dX3_take_79 : decode cX3_take 79 = .ok (.ireturn, 1) := by decide +kernel
theorem dX3_adapt_0 : decode cX3_adapt 0 = .ok (.aload_n 0, 1) := by decide +kernel
theorem dX3_adapt_1 : decode cX3_adapt 1 = .ok (.iconst 1, 1) := by decide +kernel
theorem dX3_adapt_2 : decode cX3_adapt 2 = .ok (.iconst 3, 1) := by decide +kernel
theorem dX3_adapt_3 : decode cX3_adapt 3 = .ok (.aload_n 0, 1) := by decide +kernel
theorem dX3_adapt_4 : decode cX3_adapt 4 = .ok (.getfield 11, 3) := by decide +kernel
theorem dX3_adapt_7 : decode cX3_adapt 7 = .ok (.imul, 1) := by decide +kernel
theorem dX3_adapt_8 : decode cX3_adapt 8 = .ok (.iload_n 1, 1) := by decide +kernel
theorem dX3_adapt_9 : decode cX3_adapt 9 = .ok (.iadd, 1) := by decide +kernel
theorem dX3_adapt_10 : decode cX3_adapt 10 = .ok (.iconst 4, 1) := by decide +kernel
theorem dX3_adapt_11 : decode cX3_adapt 11 = .ok (.idiv, 1) := by decide +kernel
theorem dX3_adapt_12 : decode cX3_adapt 12 = .ok (.invokestatic 35, 3) := by decide +kernel
theorem dX3_adapt_15 : decode cX3_adapt 15 = .ok (.putfield 11, 3) := by decide +kernel
theorem dX3_adapt_18 : decode cX3_adapt 18 = .ok (.return_, 1) := by decide +kernel
theorem dX3_tell_0 : decode cX3_tell 0 = .ok (.aload_n 0, 1) := by decide +kernel
theorem dX3_tell_1 : decode cX3_tell 1 = .ok (.aload_n 0, 1) := by decide +kernel
theorem dX3_tell_2 : decode cX3_tell 2 = .ok (.getfield 41, 3) := by decide +kernel
theorem dX3_tell_5 : decode cX3_tell 5 = .ok (.iconst 1, 1) := by decide +kernel
theorem dX3_tell_6 : decode cX3_tell 6 = .ok (.lushr, 1) := by decide +kernel
theorem dX3_tell_7 : decode cX3_tell 7 = .ok (.lload_n 1, 1) := by decide +kernel
theorem dX3_tell_8 : decode cX3_tell 8 = .ok (.bipush 47, 2) := by decide +kernel
theorem dX3_tell_10 : decode cX3_tell 10 = .ok (.lshl, 1) := by decide +kernel
theorem dX3_tell_11 : decode cX3_tell 11 = .ok (.lor, 1) := by decide +kernel
theorem dX3_tell_12 : decode cX3_tell 12 = .ok (.putfield 41, 3) := by decide +kernel
theorem dX3_tell_15 : decode cX3_tell 15 = .ok (.aload_n 0, 1) := by decide +kernel
theorem dX3_tell_16 : decode cX3_tell 16 = .ok (.aload_n 0, 1) := by decide +kernel
theorem dX3_tell_17 : decode cX3_tell 17 = .ok (.getfield 47, 3) := by decide +kernel
theorem dX3_tell_20 : decode cX3_tell 20 = .ok (.iconst 1, 1) := by decide +kernel
theorem dX3_tell_21 : decode cX3_tell 21 = .ok (.iadd, 1) := by decide +kernel
theorem dX3_tell_22 : decode cX3_tell 22 = .ok (.bipush 48, 2) := by decide +kernel
theorem dX3_tell_24 : decode cX3_tell 24 = .ok (.invokestatic 50, 3) := by decide +kernel
theorem dX3_tell_27 : decode cX3_tell 27 = .ok (.putfield 47, 3) := by decide +kernel
theorem dX3_tell_30 : decode cX3_tell 30 = .ok (.aload_n 0, 1) := by decide +kernel
theorem dX3_tell_31 : decode cX3_tell 31 = .ok (.getfield 47, 3) := by decide +kernel
theorem dX3_tell_34 : decode cX3_tell 34 = .ok (.bipush 48, 2) := by decide +kernel
theorem dX3_tell_36 : decode cX3_tell 36 = .ok (.if_icmp .ge 5, 3) := by decide +kernel
theorem dX3_tell_39 : decode cX3_tell 39 = .ok (.iconst 0, 1) := by decide +kernel
theorem dX3_tell_40 : decode cX3_tell 40 = .ok (.ireturn, 1) := by decide +kernel
theorem dX3_tell_41 : decode cX3_tell 41 = .ok (.aload_n 0, 1) := by decide +kernel
theorem dX3_tell_42 : decode cX3_tell 42 = .ok (.getfield 41, 3) := by decide +kernel
theorem dX3_tell_45 : decode cX3_tell 45 = .ok (.bipush 32, 2) := by decide +kernel
theorem dX3_tell_47 : decode cX3_tell 47 = .ok (.lushr, 1) := by decide +kernel
theorem dX3_tell_48 : decode cX3_tell 48 = .ok (.ldc2_w 53, 3) := by decide +kernel
theorem dX3_tell_51 : decode cX3_tell 51 = .ok (.lcmp, 1) := by decide +kernel
theorem dX3_tell_52 : decode cX3_tell 52 = .ok (.ifCond .ne 5, 3) := by decide +kernel
theorem dX3_tell_55 : decode cX3_tell 55 = .ok (.iconst 1, 1) := by decide +kernel
theorem dX3_tell_56 : decode cX3_tell 56 = .ok (.ireturn, 1) := by decide +kernel
theorem dX3_tell_57 : decode cX3_tell 57 = .ok (.aload_n 0, 1) := by decide +kernel
theorem dX3_tell_58 : decode cX3_tell 58 = .ok (.getfield 41, 3) := by decide +kernel
theorem dX3_tell_61 : decode cX3_tell 61 = .ok (.ldc2_w 55, 3) := by decide +kernel
theorem dX3_tell_64 : decode cX3_tell 64 = .ok (.land, 1) := by decide +kernel
theorem dX3_tell_65 : decode cX3_tell 65 = .ok (.ldc2_w 57, 3) := by decide +kernel
theorem dX3_tell_68 : decode cX3_tell 68 = .ok (.lcmp, 1) := by decide +kernel
theorem dX3_tell_69 : decode cX3_tell 69 = .ok (.ifCond .ne 7, 3) := by decide +kernel
theorem dX3_tell_72 : decode cX3_tell 72 = .ok (.iconst (-1), 1) := by decide +kernel
theorem dX3_tell_73 : decode cX3_tell 73 = .ok (.goto 4, 3) := by decide +kernel
theorem dX3_tell_76 : decode cX3_tell 76 = .ok (.iconst 0, 1) := by decide +kernel
theorem dX3_tell_77 : decode cX3_tell 77 = .ok (.ireturn, 1) := by decide +kernel
theorem dX3_accept_0 : decode cX3_accept 0 = .ok (.iload_n 1, 1) := by decide +kernel
theorem dX3_accept_1 : decode cX3_accept 1 = .ok (.iconst 1, 1) := by decide +kernel
theorem dX3_accept_2 : decode cX3_accept 2 = .ok (.if_icmp .ne 14, 3) := by decide +kernel
theorem dX3_accept_5 : decode cX3_accept 5 = .ok (.aload_n 0, 1) := by decide +kernel
theorem dX3_accept_6 : decode cX3_accept 6 = .ok (.getfield 41, 3) := by decide +kernel
theorem dX3_accept_9 : decode cX3_accept 9 = .ok (.ldc2_w 59, 3) := by decide +kernel
theorem dX3_accept_12 : decode cX3_accept 12 = .ok (.land, 1) := by decide +kernel
theorem dX3_accept_13 : decode cX3_accept 13 = .ok (.goto 13, 3) := by decide +kernel
theorem dX3_accept_16 : decode cX3_accept 16 = .ok (.aload_n 0, 1) := by decide +kernel
theorem dX3_accept_17 : decode cX3_accept 17 = .ok (.getfield 41, 3) := by decide +kernel
theorem dX3_accept_20 : decode cX3_accept 20 = .ok (.bipush 16, 2) := by decide +kernel
theorem dX3_accept_22 : decode cX3_accept 22 = .ok (.lushr, 1) := by decide +kernel
theorem dX3_accept_23 : decode cX3_accept 23 = .ok (.invokestatic 61, 3) := by decide +kernel
theorem dX3_accept_26 : decode cX3_accept 26 = .ok (.lstore_n 3, 1) := by decide +kernel
theorem dX3_accept_27 : decode cX3_accept 27 = .ok (.aload_n 0, 1) := by decide +kernel
theorem dX3_accept_28 : decode cX3_accept 28 = .ok (.invokevirtual 65, 3) := by decide +kernel
theorem dX3_accept_31 : decode cX3_accept 31 = .ok (.lload_n 3, 1) := by decide +kernel
theorem dX3_accept_32 : decode cX3_accept 32 = .ok (.iload_n 2, 1) := by decide +kernel
theorem dX3_accept_33 : decode cX3_accept 33 = .ok (.invokestatic 68, 3) := by decide +kernel
theorem dX3_accept_36 : decode cX3_accept 36 = .ok (.istore 5, 2) := by decide +kernel
theorem dX3_accept_38 : decode cX3_accept 38 = .ok (.iload_n 2, 1) := by decide +kernel
theorem dX3_accept_39 : decode cX3_accept 39 = .ok (.iload 5, 2) := by decide +kernel
theorem dX3_accept_41 : decode cX3_accept 41 = .ok (.invokestatic 72, 3) := by decide +kernel
theorem dX3_accept_44 : decode cX3_accept 44 = .ok (.istore 6, 2) := by decide +kernel
theorem dX3_accept_46 : decode cX3_accept 46 = .ok (.iload 6, 2) := by decide +kernel
theorem dX3_accept_48 : decode cX3_accept 48 = .ok (.bipush (-9), 2) := by decide +kernel
theorem dX3_accept_50 : decode cX3_accept 50 = .ok (.if_icmp .ne 15, 3) := by decide +kernel
theorem dX3_accept_53 : decode cX3_accept 53 = .ok (.aload_n 0, 1) := by decide +kernel
theorem dX3_accept_54 : decode cX3_accept 54 = .ok (.dup, 1) := by decide +kernel
theorem dX3_accept_55 : decode cX3_accept 55 = .ok (.getfield 77, 3) := by decide +kernel
theorem dX3_accept_58 : decode cX3_accept 58 = .ok (.iconst 1, 1) := by decide +kernel
theorem dX3_accept_59 : decode cX3_accept 59 = .ok (.iadd, 1) := by decide +kernel
theorem dX3_accept_60 : decode cX3_accept 60 = .ok (.putfield 77, 3) := by decide +kernel
theorem dX3_accept_63 : decode cX3_accept 63 = .ok (.iconst 0, 1) := by decide +kernel
theorem dX3_accept_64 : decode cX3_accept 64 = .ok (.ireturn, 1) := by decide +kernel
theorem dX3_accept_65 : decode cX3_accept 65 = .ok (.aload_n 0, 1) := by decide +kernel
theorem dX3_accept_66 : decode cX3_accept 66 = .ok (.iload 6, 2) := by decide +kernel
theorem dX3_accept_68 : decode cX3_accept 68 = .ok (.iload_n 1, 1) := by decide +kernel
theorem dX3_accept_69 : decode cX3_accept 69 = .ok (.iload_n 2, 1) := by decide +kernel
theorem dX3_accept_70 : decode cX3_accept 70 = .ok (.invokestatic 80, 3) := by decide +kernel
theorem dX3_accept_73 : decode cX3_accept 73 = .ok (.invokevirtual 84, 3) := by decide +kernel
theorem dX3_accept_76 : decode cX3_accept 76 = .ok (.aload_n 0, 1) := by decide +kernel
theorem dX3_accept_77 : decode cX3_accept 77 = .ok (.dup, 1) := by decide +kernel
theorem dX3_accept_78 : decode cX3_accept 78 = .ok (.getfield 18, 3) := by decide +kernel
theorem dX3_accept_81 : decode cX3_accept 81 = .ok (.iconst 1, 1) := by decide +kernel
theorem dX3_accept_82 : decode cX3_accept 82 = .ok (.iadd, 1) := by decide +kernel
theorem dX3_accept_83 : decode cX3_accept 83 = .ok (.putfield 18, 3) := by decide +kernel
theorem dX3_accept_86 : decode cX3_accept 86 = .ok (.aload_n 0, 1) := by decide +kernel
theorem dX3_accept_87 : decode cX3_accept 87 = .ok (.iload 6, 2) := by decide +kernel
theorem dX3_accept_89 : decode cX3_accept 89 = .ok (.putfield 88, 3) := by decide +kernel
theorem dX3_accept_92 : decode cX3_accept 92 = .ok (.aload_n 0, 1) := by decide +kernel
theorem dX3_accept_93 : decode cX3_accept 93 = .ok (.iload 5, 2) := by decide +kernel
theorem dX3_accept_95 : decode cX3_accept 95 = .ok (.putfield 91, 3) := by decide +kernel
theorem dX3_accept_98 : decode cX3_accept 98 = .ok (.aload_n 0, 1) := by decide +kernel
theorem dX3_accept_99 : decode cX3_accept 99 = .ok (.lload_n 3, 1) := by decide +kernel
theorem dX3_accept_100 : decode cX3_accept 100 = .ok (.invokestatic 94, 3) := by decide +kernel
theorem dX3_accept_103 : decode cX3_accept 103 = .ok (.putfield 97, 3) := by decide +kernel
theorem dX3_accept_106 : decode cX3_accept 106 = .ok (.aload_n 0, 1) := by decide +kernel
theorem dX3_accept_107 : decode cX3_accept 107 = .ok (.iload_n 1, 1) := by decide +kernel
theorem dX3_accept_108 : decode cX3_accept 108 = .ok (.putfield 100, 3) := by decide +kernel
theorem dX3_accept_111 : decode cX3_accept 111 = .ok (.iconst 1, 1) := by decide +kernel
theorem dX3_accept_112 : decode cX3_accept 112 = .ok (.ireturn, 1) := by decide +kernel
theorem dX3_follow_0 : decode cX3_follow 0 = .ok (.aload_n 0, 1) := by decide +kernel
theorem dX3_follow_1 : decode cX3_follow 1 = .ok (.invokevirtual 103, 3) := by decide +kernel
theorem dX3_follow_4 : decode cX3_follow 4 = .ok (.ifCond .eq 21, 3) := by decide +kernel
theorem dX3_follow_7 : decode cX3_follow 7 = .ok (.iload_n 1, 1) := by decide +kernel
theorem dX3_follow_8 : decode cX3_follow 8 = .ok (.aload_n 0, 1) := by decide +kernel
theorem dX3_follow_9 : decode cX3_follow 9 = .ok (.getfield 88, 3) := by decide +kernel
theorem dX3_follow_12 : decode cX3_follow 12 = .ok (.iload_n 2, 1) := by decide +kernel
theorem dX3_follow_13 : decode cX3_follow 13 = .ok (.iadd, 1) := by decide +kernel
theorem dX3_follow_14 : decode cX3_follow 14 = .ok (.iload_n 3, 1) := by decide +kernel
theorem dX3_follow_15 : decode cX3_follow 15 = .ok (.invokestatic 107, 3) := by decide +kernel
theorem dX3_follow_18 : decode cX3_follow 18 = .ok (.if_icmp .ne 7, 3) := by decide +kernel
theorem dX3_follow_21 : decode cX3_follow 21 = .ok (.iconst 1, 1) := by decide +kernel
theorem dX3_follow_22 : decode cX3_follow 22 = .ok (.goto 4, 3) := by decide +kernel
theorem dX3_follow_25 : decode cX3_follow 25 = .ok (.iconst 0, 1) := by decide +kernel
theorem dX3_follow_26 : decode cX3_follow 26 = .ok (.istore 4, 2) := by decide +kernel
theorem dX3_follow_28 : decode cX3_follow 28 = .ok (.aload_n 0, 1) := by decide +kernel
theorem dX3_follow_29 : decode cX3_follow 29 = .ok (.invokevirtual 103, 3) := by decide +kernel
theorem dX3_follow_32 : decode cX3_follow 32 = .ok (.ifCond .eq 18, 3) := by decide +kernel
theorem dX3_follow_35 : decode cX3_follow 35 = .ok (.iload 4, 2) := by decide +kernel
theorem dX3_follow_37 : decode cX3_follow 37 = .ok (.ifCond .ne 13, 3) := by decide +kernel
theorem dX3_follow_40 : decode cX3_follow 40 = .ok (.aload_n 0, 1) := by decide +kernel
theorem dX3_follow_41 : decode cX3_follow 41 = .ok (.dup, 1) := by decide +kernel
theorem dX3_follow_42 : decode cX3_follow 42 = .ok (.getfield 110, 3) := by decide +kernel
theorem dX3_follow_45 : decode cX3_follow 45 = .ok (.iconst 1, 1) := by decide +kernel
theorem dX3_follow_46 : decode cX3_follow 46 = .ok (.iadd, 1) := by decide +kernel
theorem dX3_follow_47 : decode cX3_follow 47 = .ok (.putfield 110, 3) := by decide +kernel
theorem dX3_follow_50 : decode cX3_follow 50 = .ok (.aload_n 0, 1) := by decide +kernel
theorem dX3_follow_51 : decode cX3_follow 51 = .ok (.iload 4, 2) := by decide +kernel
theorem dX3_follow_53 : decode cX3_follow 53 = .ok (.ifCond .eq 12, 3) := by decide +kernel
theorem dX3_follow_56 : decode cX3_follow 56 = .ok (.aload_n 0, 1) := by decide +kernel
theorem dX3_follow_57 : decode cX3_follow 57 = .ok (.getfield 15, 3) := by decide +kernel
theorem dX3_follow_60 : decode cX3_follow 60 = .ok (.iconst 1, 1) := by decide +kernel
theorem dX3_follow_61 : decode cX3_follow 61 = .ok (.iadd, 1) := by decide +kernel
theorem dX3_follow_62 : decode cX3_follow 62 = .ok (.goto 4, 3) := by decide +kernel
theorem dX3_follow_65 : decode cX3_follow 65 = .ok (.iconst 1, 1) := by decide +kernel
theorem dX3_follow_66 : decode cX3_follow 66 = .ok (.putfield 15, 3) := by decide +kernel
theorem dX3_follow_69 : decode cX3_follow 69 = .ok (.return_, 1) := by decide +kernel
theorem dX3_letGo_0 : decode cX3_letGo 0 = .ok (.aload_n 0, 1) := by decide +kernel
theorem dX3_letGo_1 : decode cX3_letGo 1 = .ok (.lconst 0, 1) := by decide +kernel
theorem dX3_letGo_2 : decode cX3_letGo 2 = .ok (.putfield 41, 3) := by decide +kernel
theorem dX3_letGo_5 : decode cX3_letGo 5 = .ok (.aload_n 0, 1) := by decide +kernel
theorem dX3_letGo_6 : decode cX3_letGo 6 = .ok (.iconst 0, 1) := by decide +kernel
theorem dX3_letGo_7 : decode cX3_letGo 7 = .ok (.putfield 47, 3) := by decide +kernel
theorem dX3_letGo_10 : decode cX3_letGo 10 = .ok (.return_, 1) := by decide +kernel
theorem dX3_startAnew_0 : decode cX3_startAnew 0 = .ok (.aload_n 0, 1) := by decide +kernel
theorem dX3_startAnew_1 : decode cX3_startAnew 1 = .ok (.invokevirtual 65, 3) := by decide +kernel
theorem dX3_startAnew_4 : decode cX3_startAnew 4 = .ok (.aload_n 0, 1) := by decide +kernel
theorem dX3_startAnew_5 : decode cX3_startAnew 5 = .ok (.bipush 40, 2) := by decide +kernel
theorem dX3_startAnew_7 : decode cX3_startAnew 7 = .ok (.putfield 11, 3) := by decide +kernel
theorem dX3_startAnew_10 : decode cX3_startAnew 10 = .ok (.aload_n 0, 1) := by decide +kernel
theorem dX3_startAnew_11 : decode cX3_startAnew 11 = .ok (.iconst 0, 1) := by decide +kernel
theorem dX3_startAnew_12 : decode cX3_startAnew 12 = .ok (.putfield 21, 3) := by decide +kernel
theorem dX3_startAnew_15 : decode cX3_startAnew 15 = .ok (.aload_n 0, 1) := by decide +kernel
theorem dX3_startAnew_16 : decode cX3_startAnew 16 = .ok (.iconst 0, 1) := by decide +kernel
theorem dX3_startAnew_17 : decode cX3_startAnew 17 = .ok (.putfield 18, 3) := by decide +kernel
theorem dX3_startAnew_20 : decode cX3_startAnew 20 = .ok (.aload_n 0, 1) := by decide +kernel
theorem dX3_startAnew_21 : decode cX3_startAnew 21 = .ok (.iconst 0, 1) := by decide +kernel
theorem dX3_startAnew_22 : decode cX3_startAnew 22 = .ok (.putfield 77, 3) := by decide +kernel
theorem dX3_startAnew_25 : decode cX3_startAnew 25 = .ok (.aload_n 0, 1) := by decide +kernel
theorem dX3_startAnew_26 : decode cX3_startAnew 26 = .ok (.iconst 0, 1) := by decide +kernel
theorem dX3_startAnew_27 : decode cX3_startAnew 27 = .ok (.putfield 24, 3) := by decide +kernel
theorem dX3_startAnew_30 : decode cX3_startAnew 30 = .ok (.aload_n 0, 1) := by decide +kernel
theorem dX3_startAnew_31 : decode cX3_startAnew 31 = .ok (.iconst 0, 1) := by decide +kernel
theorem dX3_startAnew_32 : decode cX3_startAnew 32 = .ok (.putfield 110, 3) := by decide +kernel
theorem dX3_startAnew_35 : decode cX3_startAnew 35 = .ok (.aload_n 0, 1) := by decide +kernel
theorem dX3_startAnew_36 : decode cX3_startAnew 36 = .ok (.iconst 0, 1) := by decide +kernel
theorem dX3_startAnew_37 : decode cX3_startAnew 37 = .ok (.putfield 15, 3) := by decide +kernel
theorem dX3_startAnew_40 : decode cX3_startAnew 40 = .ok (.return_, 1) := by decide +kernel
theorem dX3_copy_0 : decode cX3_copy 0 = .ok (.aload_n 0, 1) := by decide +kernel
theorem dX3_copy_1 : decode cX3_copy 1 = .ok (.aload_n 1, 1) := by decide +kernel
theorem dX3_copy_2 : decode cX3_copy 2 = .ok (.getfield 11, 3) := by decide +kernel
theorem dX3_copy_5 : decode cX3_copy 5 = .ok (.putfield 11, 3) := by decide +kernel
theorem dX3_copy_8 : decode cX3_copy 8 = .ok (.aload_n 0, 1) := by decide +kernel
theorem dX3_copy_9 : decode cX3_copy 9 = .ok (.aload_n 1, 1) := by decide +kernel
theorem dX3_copy_10 : decode cX3_copy 10 = .ok (.getfield 21, 3) := by decide +kernel
theorem dX3_copy_13 : decode cX3_copy 13 = .ok (.putfield 21, 3) := by decide +kernel
theorem dX3_copy_16 : decode cX3_copy 16 = .ok (.aload_n 0, 1) := by decide +kernel
theorem dX3_copy_17 : decode cX3_copy 17 = .ok (.aload_n 1, 1) := by decide +kernel
theorem dX3_copy_18 : decode cX3_copy 18 = .ok (.getfield 41, 3) := by decide +kernel
theorem dX3_copy_21 : decode cX3_copy 21 = .ok (.putfield 41, 3) := by decide +kernel
theorem dX3_copy_24 : decode cX3_copy 24 = .ok (.aload_n 0, 1) := by decide +kernel
theorem dX3_copy_25 : decode cX3_copy 25 = .ok (.aload_n 1, 1) := by decide +kernel
theorem dX3_copy_26 : decode cX3_copy 26 = .ok (.getfield 47, 3) := by decide +kernel
theorem dX3_copy_29 : decode cX3_copy 29 = .ok (.putfield 47, 3) := by decide +kernel
theorem dX3_copy_32 : decode cX3_copy 32 = .ok (.aload_n 0, 1) := by decide +kernel
theorem dX3_copy_33 : decode cX3_copy 33 = .ok (.aload_n 1, 1) := by decide +kernel
theorem dX3_copy_34 : decode cX3_copy 34 = .ok (.getfield 18, 3) := by decide +kernel
theorem dX3_copy_37 : decode cX3_copy 37 = .ok (.putfield 18, 3) := by decide +kernel
theorem dX3_copy_40 : decode cX3_copy 40 = .ok (.aload_n 0, 1) := by decide +kernel
theorem dX3_copy_41 : decode cX3_copy 41 = .ok (.aload_n 1, 1) := by decide +kernel
theorem dX3_copy_42 : decode cX3_copy 42 = .ok (.getfield 77, 3) := by decide +kernel
theorem dX3_copy_45 : decode cX3_copy 45 = .ok (.putfield 77, 3) := by decide +kernel
theorem dX3_copy_48 : decode cX3_copy 48 = .ok (.aload_n 0, 1) := by decide +kernel
theorem dX3_copy_49 : decode cX3_copy 49 = .ok (.aload_n 1, 1) := by decide +kernel
theorem dX3_copy_50 : decode cX3_copy 50 = .ok (.getfield 24, 3) := by decide +kernel
theorem dX3_copy_53 : decode cX3_copy 53 = .ok (.putfield 24, 3) := by decide +kernel
theorem dX3_copy_56 : decode cX3_copy 56 = .ok (.aload_n 0, 1) := by decide +kernel
theorem dX3_copy_57 : decode cX3_copy 57 = .ok (.aload_n 1, 1) := by decide +kernel
theorem dX3_copy_58 : decode cX3_copy 58 = .ok (.getfield 110, 3) := by decide +kernel
theorem dX3_copy_61 : decode cX3_copy 61 = .ok (.putfield 110, 3) := by decide +kernel
theorem dX3_copy_64 : decode cX3_copy 64 = .ok (.aload_n 0, 1) := by decide +kernel
theorem dX3_copy_65 : decode cX3_copy 65 = .ok (.aload_n 1, 1) := by decide +kernel
theorem dX3_copy_66 : decode cX3_copy 66 = .ok (.getfield 15, 3) := by decide +kernel
theorem dX3_copy_69 : decode cX3_copy 69 = .ok (.putfield 15, 3) := by decide +kernel
theorem dX3_copy_72 : decode cX3_copy 72 = .ok (.aload_n 0, 1) := by decide +kernel
theorem dX3_copy_73 : decode cX3_copy 73 = .ok (.aload_n 1, 1) := by decide +kernel
theorem dX3_copy_74 : decode cX3_copy 74 = .ok (.getfield 88, 3) := by decide +kernel
theorem dX3_copy_77 : decode cX3_copy 77 = .ok (.putfield 88, 3) := by decide +kernel
theorem dX3_copy_80 : decode cX3_copy 80 = .ok (.aload_n 0, 1) := by decide +kernel
theorem dX3_copy_81 : decode cX3_copy 81 = .ok (.aload_n 1, 1) := by decide +kernel
theorem dX3_copy_82 : decode cX3_copy 82 = .ok (.getfield 91, 3) := by decide +kernel
theorem dX3_copy_85 : decode cX3_copy 85 = .ok (.putfield 91, 3) := by decide +kernel
theorem dX3_copy_88 : decode cX3_copy 88 = .ok (.aload_n 0, 1) := by decide +kernel
theorem dX3_copy_89 : decode cX3_copy 89 = .ok (.aload_n 1, 1) := by decide +kernel
theorem dX3_copy_90 : decode cX3_copy 90 = .ok (.getfield 97, 3) := by decide +kernel
theorem dX3_copy_93 : decode cX3_copy 93 = .ok (.putfield 97, 3) := by decide +kernel
theorem dX3_copy_96 : decode cX3_copy 96 = .ok (.aload_n 0, 1) := by decide +kernel
theorem dX3_copy_97 : decode cX3_copy 97 = .ok (.aload_n 1, 1) := by decide +kernel
theorem dX3_copy_98 : decode cX3_copy 98 = .ok (.getfield 100, 3) := by decide +kernel
theorem dX3_copy_101 : decode cX3_copy 101 = .ok (.putfield 100, 3) := by decide +kernel
theorem dX3_copy_104 : decode cX3_copy 104 = .ok (.return_, 1) := by decide +kernel
theorem dX4_init_0 : decode cX4_init 0 = .ok (.aload_n 0, 1) := by decide +kernel
theorem dX4_init_1 : decode cX4_init 1 = .ok (.invokespecial 1, 3) := by decide +kernel
theorem dX4_init_4 : decode cX4_init 4 = .ok (.aload_n 0, 1) := by decide +kernel
theorem dX4_init_5 : decode cX4_init 5 = .ok (.iconst 1, 1) := by decide +kernel
theorem dX4_init_6 : decode cX4_init 6 = .ok (.putfield 7, 3) := by decide +kernel
theorem dX4_init_9 : decode cX4_init 9 = .ok (.aload_n 0, 1) := by decide +kernel
theorem dX4_init_10 : decode cX4_init 10 = .ok (.new 13, 3) := by decide +kernel
theorem dX4_init_13 : decode cX4_init 13 = .ok (.dup, 1) := by decide +kernel
theorem dX4_init_14 : decode cX4_init 14 = .ok (.invokespecial 15, 3) := by decide +kernel
theorem dX4_init_17 : decode cX4_init 17 = .ok (.putfield 16, 3) := by decide +kernel
theorem dX4_init_20 : decode cX4_init 20 = .ok (.aload_n 0, 1) := by decide +kernel
theorem dX4_init_21 : decode cX4_init 21 = .ok (.new 20, 3) := by decide +kernel
theorem dX4_init_24 : decode cX4_init 24 = .ok (.dup, 1) := by decide +kernel
theorem dX4_init_25 : decode cX4_init 25 = .ok (.invokespecial 22, 3) := by decide +kernel
theorem dX4_init_28 : decode cX4_init 28 = .ok (.putfield 23, 3) := by decide +kernel
theorem dX4_init_31 : decode cX4_init 31 = .ok (.aload_n 0, 1) := by decide +kernel
theorem dX4_init_32 : decode cX4_init 32 = .ok (.new 27, 3) := by decide +kernel
theorem dX4_init_35 : decode cX4_init 35 = .ok (.dup, 1) := by decide +kernel
theorem dX4_init_36 : decode cX4_init 36 = .ok (.invokespecial 29, 3) := by decide +kernel
theorem dX4_init_39 : decode cX4_init 39 = .ok (.putfield 30, 3) := by decide +kernel
theorem dX4_init_42 : decode cX4_init 42 = .ok (.aload_n 0, 1) := by decide +kernel
theorem dX4_init_43 : decode cX4_init 43 = .ok (.new 34, 3) := by decide +kernel
theorem dX4_init_46 : decode cX4_init 46 = .ok (.dup, 1) := by decide +kernel
theorem dX4_init_47 : decode cX4_init 47 = .ok (.invokespecial 36, 3) := by decide +kernel
theorem dX4_init_50 : decode cX4_init 50 = .ok (.putfield 37, 3) := by decide +kernel
theorem dX4_init_53 : decode cX4_init 53 = .ok (.aload_n 0, 1) := by decide +kernel
theorem dX4_init_54 : decode cX4_init 54 = .ok (.new 34, 3) := by decide +kernel
theorem dX4_init_57 : decode cX4_init 57 = .ok (.dup, 1) := by decide +kernel
theorem dX4_init_58 : decode cX4_init 58 = .ok (.invokespecial 36, 3) := by decide +kernel
theorem dX4_init_61 : decode cX4_init 61 = .ok (.putfield 41, 3) := by decide +kernel
theorem dX4_init_64 : decode cX4_init 64 = .ok (.aload_n 0, 1) := by decide +kernel
theorem dX4_init_65 : decode cX4_init 65 = .ok (.new 34, 3) := by decide +kernel
theorem dX4_init_68 : decode cX4_init 68 = .ok (.dup, 1) := by decide +kernel
theorem dX4_init_69 : decode cX4_init 69 = .ok (.invokespecial 36, 3) := by decide +kernel
theorem dX4_init_72 : decode cX4_init 72 = .ok (.putfield 44, 3) := by decide +kernel
theorem dX4_init_75 : decode cX4_init 75 = .ok (.return_, 1) := by decide +kernel
theorem dX4_day_0 : decode cX4_day 0 = .ok (.aload_n 0, 1) := by decide +kernel
theorem dX4_day_1 : decode cX4_day 1 = .ok (.getfield 7, 3) := by decide +kernel
theorem dX4_day_4 : decode cX4_day 4 = .ok (.invokestatic 47, 3) := by decide +kernel
theorem dX4_day_7 : decode cX4_day 7 = .ok (.ireturn, 1) := by decide +kernel
theorem dX4_chaserOf_0 : decode cX4_chaserOf 0 = .ok (.iload_n 1, 1) := by decide +kernel
theorem dX4_chaserOf_1 : decode cX4_chaserOf 1 = .ok (.tableswitch 42 0 2 #[27, 32, 37], 27) := by decide +kernel
theorem dX4_chaserOf_28 : decode cX4_chaserOf 28 = .ok (.aload_n 0, 1) := by decide +kernel
theorem dX4_chaserOf_29 : decode cX4_chaserOf 29 = .ok (.getfield 37, 3) := by decide +kernel
theorem dX4_chaserOf_32 : decode cX4_chaserOf 32 = .ok (.areturn, 1) := by decide +kernel
theorem dX4_chaserOf_33 : decode cX4_chaserOf 33 = .ok (.aload_n 0, 1) := by decide +kernel
theorem dX4_chaserOf_34 : decode cX4_chaserOf 34 = .ok (.getfield 41, 3) := by decide +kernel
theorem dX4_chaserOf_37 : decode cX4_chaserOf 37 = .ok (.areturn, 1) := by decide +kernel
theorem dX4_chaserOf_38 : decode cX4_chaserOf 38 = .ok (.aload_n 0, 1) := by decide +kernel
theorem dX4_chaserOf_39 : decode cX4_chaserOf 39 = .ok (.getfield 44, 3) := by decide +kernel
theorem dX4_chaserOf_42 : decode cX4_chaserOf 42 = .ok (.areturn, 1) := by decide +kernel
theorem dX4_chaserOf_43 : decode cX4_chaserOf 43 = .ok (.aconst_null, 1) := by decide +kernel
theorem dX4_chaserOf_44 : decode cX4_chaserOf 44 = .ok (.areturn, 1) := by decide +kernel
theorem dX4_turnTo_0 : decode cX4_turnTo 0 = .ok (.aload_n 0, 1) := by decide +kernel
theorem dX4_turnTo_1 : decode cX4_turnTo 1 = .ok (.iload_n 1, 1) := by decide +kernel
theorem dX4_turnTo_2 : decode cX4_turnTo 2 = .ok (.putfield 7, 3) := by decide +kernel
theorem dX4_turnTo_5 : decode cX4_turnTo 5 = .ok (.aload_n 0, 1) := by decide +kernel
theorem dX4_turnTo_6 : decode cX4_turnTo 6 = .ok (.invokevirtual 53, 3) := by decide +kernel
theorem dX4_turnTo_9 : decode cX4_turnTo 9 = .ok (.istore_n 2, 1) := by decide +kernel
theorem dX4_turnTo_10 : decode cX4_turnTo 10 = .ok (.aload_n 0, 1) := by decide +kernel
theorem dX4_turnTo_11 : decode cX4_turnTo 11 = .ok (.getfield 16, 3) := by decide +kernel
theorem dX4_turnTo_14 : decode cX4_turnTo 14 = .ok (.iload_n 2, 1) := by decide +kernel
theorem dX4_turnTo_15 : decode cX4_turnTo 15 = .ok (.invokevirtual 57, 3) := by decide +kernel
theorem dX4_turnTo_18 : decode cX4_turnTo 18 = .ok (.aload_n 0, 1) := by decide +kernel
theorem dX4_turnTo_19 : decode cX4_turnTo 19 = .ok (.getfield 30, 3) := by decide +kernel
theorem dX4_turnTo_22 : decode cX4_turnTo 22 = .ok (.aload_n 0, 1) := by decide +kernel
theorem dX4_turnTo_23 : decode cX4_turnTo 23 = .ok (.getfield 30, 3) := by decide +kernel
theorem dX4_turnTo_26 : decode cX4_turnTo 26 = .ok (.getfield 61, 3) := by decide +kernel
theorem dX4_turnTo_29 : decode cX4_turnTo 29 = .ok (.iload_n 2, 1) := by decide +kernel
theorem dX4_turnTo_30 : decode cX4_turnTo 30 = .ok (.invokestatic 64, 3) := by decide +kernel
theorem dX4_turnTo_33 : decode cX4_turnTo 33 = .ok (.putfield 61, 3) := by decide +kernel
theorem dX4_turnTo_36 : decode cX4_turnTo 36 = .ok (.aload_n 0, 1) := by decide +kernel
theorem dX4_turnTo_37 : decode cX4_turnTo 37 = .ok (.getfield 37, 3) := by decide +kernel
theorem dX4_turnTo_40 : decode cX4_turnTo 40 = .ok (.aload_n 0, 1) := by decide +kernel
theorem dX4_turnTo_41 : decode cX4_turnTo 41 = .ok (.getfield 37, 3) := by decide +kernel
theorem dX4_turnTo_44 : decode cX4_turnTo 44 = .ok (.getfield 70, 3) := by decide +kernel
theorem dX4_turnTo_47 : decode cX4_turnTo 47 = .ok (.iload_n 2, 1) := by decide +kernel
theorem dX4_turnTo_48 : decode cX4_turnTo 48 = .ok (.invokestatic 64, 3) := by decide +kernel
theorem dX4_turnTo_51 : decode cX4_turnTo 51 = .ok (.putfield 70, 3) := by decide +kernel
theorem dX4_turnTo_54 : decode cX4_turnTo 54 = .ok (.aload_n 0, 1) := by decide +kernel
theorem dX4_turnTo_55 : decode cX4_turnTo 55 = .ok (.getfield 41, 3) := by decide +kernel
theorem dX4_turnTo_58 : decode cX4_turnTo 58 = .ok (.aload_n 0, 1) := by decide +kernel
theorem dX4_turnTo_59 : decode cX4_turnTo 59 = .ok (.getfield 41, 3) := by decide +kernel
theorem dX4_turnTo_62 : decode cX4_turnTo 62 = .ok (.getfield 70, 3) := by decide +kernel
theorem dX4_turnTo_65 : decode cX4_turnTo 65 = .ok (.iload_n 2, 1) := by decide +kernel
theorem dX4_turnTo_66 : decode cX4_turnTo 66 = .ok (.invokestatic 64, 3) := by decide +kernel
theorem dX4_turnTo_69 : decode cX4_turnTo 69 = .ok (.putfield 70, 3) := by decide +kernel
theorem dX4_turnTo_72 : decode cX4_turnTo 72 = .ok (.aload_n 0, 1) := by decide +kernel
theorem dX4_turnTo_73 : decode cX4_turnTo 73 = .ok (.getfield 44, 3) := by decide +kernel
theorem dX4_turnTo_76 : decode cX4_turnTo 76 = .ok (.aload_n 0, 1) := by decide +kernel
theorem dX4_turnTo_77 : decode cX4_turnTo 77 = .ok (.getfield 44, 3) := by decide +kernel
theorem dX4_turnTo_80 : decode cX4_turnTo 80 = .ok (.getfield 70, 3) := by decide +kernel
theorem dX4_turnTo_83 : decode cX4_turnTo 83 = .ok (.iload_n 2, 1) := by decide +kernel
theorem dX4_turnTo_84 : decode cX4_turnTo 84 = .ok (.invokestatic 64, 3) := by decide +kernel
theorem dX4_turnTo_87 : decode cX4_turnTo 87 = .ok (.putfield 70, 3) := by decide +kernel
theorem dX4_turnTo_90 : decode cX4_turnTo 90 = .ok (.return_, 1) := by decide +kernel
theorem dX4_play_0 : decode cX4_play 0 = .ok (.iconst (-1), 1) := by decide +kernel
theorem dX4_play_1 : decode cX4_play 1 = .ok (.istore 5, 2) := by decide +kernel
theorem dX4_play_3 : decode cX4_play 3 = .ok (.lconst 0, 1) := by decide +kernel
theorem dX4_play_4 : decode cX4_play 4 = .ok (.lstore 6, 2) := by decide +kernel
theorem dX4_play_6 : decode cX4_play 6 = .ok (.iconst 0, 1) := by decide +kernel
theorem dX4_play_7 : decode cX4_play 7 = .ok (.istore 8, 2) := by decide +kernel
theorem dX4_play_9 : decode cX4_play 9 = .ok (.iload 8, 2) := by decide +kernel
theorem dX4_play_11 : decode cX4_play 11 = .ok (.iload_n 1, 1) := by decide +kernel
theorem dX4_play_12 : decode cX4_play 12 = .ok (.if_icmp .ge 134, 3) := by decide +kernel
theorem dX4_play_15 : decode cX4_play 15 = .ok (.iload 4, 2) := by decide +kernel
theorem dX4_play_17 : decode cX4_play 17 = .ok (.ifCond .eq 15, 3) := by decide +kernel
theorem dX4_play_20 : decode cX4_play 20 = .ok (.aload_n 0, 1) := by decide +kernel
theorem dX4_play_21 : decode cX4_play 21 = .ok (.getfield 16, 3) := by decide +kernel
theorem dX4_play_24 : decode cX4_play 24 = .ok (.getfield 73, 3) := by decide +kernel
theorem dX4_play_27 : decode cX4_play 27 = .ok (.iconst 1, 1) := by decide +kernel
theorem dX4_play_28 : decode cX4_play 28 = .ok (.isub, 1) := by decide +kernel
theorem dX4_play_29 : decode cX4_play 29 = .ok (.goto 10, 3) := by decide +kernel
theorem dX4_play_32 : decode cX4_play 32 = .ok (.aload_n 0, 1) := by decide +kernel
theorem dX4_play_33 : decode cX4_play 33 = .ok (.getfield 16, 3) := by decide +kernel
theorem dX4_play_36 : decode cX4_play 36 = .ok (.getfield 73, 3) := by decide +kernel
theorem dX4_play_39 : decode cX4_play 39 = .ok (.istore 9, 2) := by decide +kernel
theorem dX4_play_41 : decode cX4_play 41 = .ok (.iload 9, 2) := by decide +kernel
theorem dX4_play_43 : decode cX4_play 43 = .ok (.bipush 48, 2) := by decide +kernel
theorem dX4_play_45 : decode cX4_play 45 = .ok (.idiv, 1) := by decide +kernel
theorem dX4_play_46 : decode cX4_play 46 = .ok (.iload 5, 2) := by decide +kernel
theorem dX4_play_48 : decode cX4_play 48 = .ok (.if_icmp .eq 25, 3) := by decide +kernel
theorem dX4_play_51 : decode cX4_play 51 = .ok (.iload 9, 2) := by decide +kernel
theorem dX4_play_53 : decode cX4_play 53 = .ok (.bipush 48, 2) := by decide +kernel
theorem dX4_play_55 : decode cX4_play 55 = .ok (.idiv, 1) := by decide +kernel
theorem dX4_play_56 : decode cX4_play 56 = .ok (.istore 5, 2) := by decide +kernel
theorem dX4_play_58 : decode cX4_play 58 = .ok (.aload_n 0, 1) := by decide +kernel
theorem dX4_play_59 : decode cX4_play 59 = .ok (.getfield 16, 3) := by decide +kernel
theorem dX4_play_62 : decode cX4_play 62 = .ok (.iload 5, 2) := by decide +kernel
theorem dX4_play_64 : decode cX4_play 64 = .ok (.aload_n 0, 1) := by decide +kernel
theorem dX4_play_65 : decode cX4_play 65 = .ok (.getfield 7, 3) := by decide +kernel
theorem dX4_play_68 : decode cX4_play 68 = .ok (.invokevirtual 78, 3) := by decide +kernel
theorem dX4_play_71 : decode cX4_play 71 = .ok (.lstore 6, 2) := by decide +kernel
theorem dX4_play_73 : decode cX4_play 73 = .ok (.iload_n 2, 1) := by decide +kernel
theorem dX4_play_74 : decode cX4_play 74 = .ok (.iload 8, 2) := by decide +kernel
theorem dX4_play_76 : decode cX4_play 76 = .ok (.iload_n 3, 1) := by decide +kernel
theorem dX4_play_77 : decode cX4_play 77 = .ok (.imul, 1) := by decide +kernel
theorem dX4_play_78 : decode cX4_play 78 = .ok (.iconst 5, 1) := by decide +kernel
theorem dX4_play_79 : decode cX4_play 79 = .ok (.irem, 1) := by decide +kernel
theorem dX4_play_80 : decode cX4_play 80 = .ok (.iadd, 1) := by decide +kernel
theorem dX4_play_81 : decode cX4_play 81 = .ok (.istore 10, 2) := by decide +kernel
theorem dX4_play_83 : decode cX4_play 83 = .ok (.lload 6, 2) := by decide +kernel
theorem dX4_play_85 : decode cX4_play 85 = .ok (.iload 9, 2) := by decide +kernel
theorem dX4_play_87 : decode cX4_play 87 = .ok (.bipush 48, 2) := by decide +kernel
theorem dX4_play_89 : decode cX4_play 89 = .ok (.irem, 1) := by decide +kernel
theorem dX4_play_90 : decode cX4_play 90 = .ok (.invokestatic 82, 3) := by decide +kernel
theorem dX4_play_93 : decode cX4_play 93 = .ok (.ifCond .ne 14, 3) := by decide +kernel
theorem dX4_play_96 : decode cX4_play 96 = .ok (.aload_n 0, 1) := by decide +kernel
theorem dX4_play_97 : decode cX4_play 97 = .ok (.iconst 2, 1) := by decide +kernel
theorem dX4_play_98 : decode cX4_play 98 = .ok (.iload 10, 2) := by decide +kernel
theorem dX4_play_100 : decode cX4_play 100 = .ok (.imul, 1) := by decide +kernel
theorem dX4_play_101 : decode cX4_play 101 = .ok (.invokevirtual 86, 3) := by decide +kernel
theorem dX4_play_104 : decode cX4_play 104 = .ok (.goto 15, 3) := by decide +kernel
theorem dX4_play_107 : decode cX4_play 107 = .ok (.aload_n 0, 1) := by decide +kernel
theorem dX4_play_108 : decode cX4_play 108 = .ok (.iload 10, 2) := by decide +kernel
theorem dX4_play_110 : decode cX4_play 110 = .ok (.invokevirtual 86, 3) := by decide +kernel
theorem dX4_play_113 : decode cX4_play 113 = .ok (.aload_n 0, 1) := by decide +kernel
theorem dX4_play_114 : decode cX4_play 114 = .ok (.iload 10, 2) := by decide +kernel
theorem dX4_play_116 : decode cX4_play 116 = .ok (.invokevirtual 86, 3) := by decide +kernel
theorem dX4_play_119 : decode cX4_play 119 = .ok (.aload_n 0, 1) := by decide +kernel
theorem dX4_play_120 : decode cX4_play 120 = .ok (.getfield 16, 3) := by decide +kernel
theorem dX4_play_123 : decode cX4_play 123 = .ok (.iload 4, 2) := by decide +kernel
theorem dX4_play_125 : decode cX4_play 125 = .ok (.ifCond .eq 8, 3) := by decide +kernel
theorem dX4_play_128 : decode cX4_play 128 = .ok (.iload 9, 2) := by decide +kernel
theorem dX4_play_130 : decode cX4_play 130 = .ok (.goto 7, 3) := by decide +kernel
theorem dX4_play_133 : decode cX4_play 133 = .ok (.iload 9, 2) := by decide +kernel
theorem dX4_play_135 : decode cX4_play 135 = .ok (.iconst 1, 1) := by decide +kernel
theorem dX4_play_136 : decode cX4_play 136 = .ok (.iadd, 1) := by decide +kernel
theorem dX4_play_137 : decode cX4_play 137 = .ok (.putfield 73, 3) := by decide +kernel
theorem dX4_play_140 : decode cX4_play 140 = .ok (.iinc 8 1, 3) := by decide +kernel
theorem dX4_play_143 : decode cX4_play 143 = .ok (.goto (-134), 3) := by decide +kernel
theorem dX4_play_146 : decode cX4_play 146 = .ok (.return_, 1) := by decide +kernel
theorem dX4_hear_0 : decode cX4_hear 0 = .ok (.aload_n 0, 1) := by decide +kernel
theorem dX4_hear_1 : decode cX4_hear 1 = .ok (.getfield 23, 3) := by decide +kernel
theorem dX4_hear_4 : decode cX4_hear 4 = .ok (.iload_n 1, 1) := by decide +kernel
theorem dX4_hear_5 : decode cX4_hear 5 = .ok (.invokevirtual 89, 3) := by decide +kernel
theorem dX4_hear_8 : decode cX4_hear 8 = .ok (.istore_n 2, 1) := by decide +kernel
theorem dX4_hear_9 : decode cX4_hear 9 = .ok (.iload_n 2, 1) := by decide +kernel
theorem dX4_hear_10 : decode cX4_hear 10 = .ok (.ifCond .eq 49, 3) := by decide +kernel
theorem dX4_hear_13 : decode cX4_hear 13 = .ok (.aload_n 0, 1) := by decide +kernel
theorem dX4_hear_14 : decode cX4_hear 14 = .ok (.getfield 23, 3) := by decide +kernel
theorem dX4_hear_17 : decode cX4_hear 17 = .ok (.iload_n 2, 1) := by decide +kernel
theorem dX4_hear_18 : decode cX4_hear 18 = .ok (.aload_n 0, 1) := by decide +kernel
theorem dX4_hear_19 : decode cX4_hear 19 = .ok (.getfield 7, 3) := by decide +kernel
theorem dX4_hear_22 : decode cX4_hear 22 = .ok (.invokevirtual 92, 3) := by decide +kernel
theorem dX4_hear_25 : decode cX4_hear 25 = .ok (.ifCond .eq 34, 3) := by decide +kernel
theorem dX4_hear_28 : decode cX4_hear 28 = .ok (.aload_n 0, 1) := by decide +kernel
theorem dX4_hear_29 : decode cX4_hear 29 = .ok (.getfield 23, 3) := by decide +kernel
theorem dX4_hear_32 : decode cX4_hear 32 = .ok (.invokevirtual 96, 3) := by decide +kernel
theorem dX4_hear_35 : decode cX4_hear 35 = .ok (.ifCond .eq 24, 3) := by decide +kernel
theorem dX4_hear_38 : decode cX4_hear 38 = .ok (.aload_n 0, 1) := by decide +kernel
theorem dX4_hear_39 : decode cX4_hear 39 = .ok (.getfield 30, 3) := by decide +kernel
theorem dX4_hear_42 : decode cX4_hear 42 = .ok (.aload_n 0, 1) := by decide +kernel
theorem dX4_hear_43 : decode cX4_hear 43 = .ok (.getfield 23, 3) := by decide +kernel
theorem dX4_hear_46 : decode cX4_hear 46 = .ok (.getfield 100, 3) := by decide +kernel
theorem dX4_hear_49 : decode cX4_hear 49 = .ok (.aload_n 0, 1) := by decide +kernel
theorem dX4_hear_50 : decode cX4_hear 50 = .ok (.getfield 23, 3) := by decide +kernel
theorem dX4_hear_53 : decode cX4_hear 53 = .ok (.getfield 101, 3) := by decide +kernel
theorem dX4_hear_56 : decode cX4_hear 56 = .ok (.invokevirtual 104, 3) := by decide +kernel
theorem dX4_hear_59 : decode cX4_hear 59 = .ok (.return_, 1) := by decide +kernel
theorem dX4_miss_0 : decode cX4_miss 0 = .ok (.aload_n 0, 1) := by decide +kernel
theorem dX4_miss_1 : decode cX4_miss 1 = .ok (.getfield 23, 3) := by decide +kernel
theorem dX4_miss_4 : decode cX4_miss 4 = .ok (.invokevirtual 96, 3) := by decide +kernel
theorem dX4_miss_7 : decode cX4_miss 7 = .ok (.ifCond .eq 17, 3) := by decide +kernel
theorem dX4_miss_10 : decode cX4_miss 10 = .ok (.aload_n 0, 1) := by decide +kernel
theorem dX4_miss_11 : decode cX4_miss 11 = .ok (.getfield 30, 3) := by decide +kernel
theorem dX4_miss_14 : decode cX4_miss 14 = .ok (.aload_n 0, 1) := by decide +kernel
theorem dX4_miss_15 : decode cX4_miss 15 = .ok (.invokevirtual 53, 3) := by decide +kernel
theorem dX4_miss_18 : decode cX4_miss 18 = .ok (.invokevirtual 108, 3) := by decide +kernel
theorem dX4_miss_21 : decode cX4_miss 21 = .ok (.ifCond .ne 11, 3) := by decide +kernel
theorem dX4_miss_24 : decode cX4_miss 24 = .ok (.aload_n 0, 1) := by decide +kernel
theorem dX4_miss_25 : decode cX4_miss 25 = .ok (.getfield 23, 3) := by decide +kernel
theorem dX4_miss_28 : decode cX4_miss 28 = .ok (.iconst 0, 1) := by decide +kernel
theorem dX4_miss_29 : decode cX4_miss 29 = .ok (.putfield 112, 3) := by decide +kernel
theorem dX4_miss_32 : decode cX4_miss 32 = .ok (.return_, 1) := by decide +kernel
theorem dX4_copy_0 : decode cX4_copy 0 = .ok (.aload_n 0, 1) := by decide +kernel
theorem dX4_copy_1 : decode cX4_copy 1 = .ok (.aload_n 1, 1) := by decide +kernel
theorem dX4_copy_2 : decode cX4_copy 2 = .ok (.getfield 7, 3) := by decide +kernel
theorem dX4_copy_5 : decode cX4_copy 5 = .ok (.putfield 7, 3) := by decide +kernel
theorem dX4_copy_8 : decode cX4_copy 8 = .ok (.aload_n 0, 1) := by decide +kernel
theorem dX4_copy_9 : decode cX4_copy 9 = .ok (.getfield 16, 3) := by decide +kernel
theorem dX4_copy_12 : decode cX4_copy 12 = .ok (.aload_n 1, 1) := by decide +kernel
theorem dX4_copy_13 : decode cX4_copy 13 = .ok (.getfield 16, 3) := by decide +kernel
theorem dX4_copy_16 : decode cX4_copy 16 = .ok (.invokevirtual 115, 3) := by decide +kernel
theorem dX4_copy_19 : decode cX4_copy 19 = .ok (.aload_n 0, 1) := by decide +kernel
theorem dX4_copy_20 : decode cX4_copy 20 = .ok (.getfield 23, 3) := by decide +kernel
theorem dX4_copy_23 : decode cX4_copy 23 = .ok (.aload_n 1, 1) := by decide +kernel
theorem dX4_copy_24 : decode cX4_copy 24 = .ok (.getfield 23, 3) := by decide +kernel
theorem dX4_copy_27 : decode cX4_copy 27 = .ok (.invokevirtual 119, 3) := by decide +kernel
theorem dX4_copy_30 : decode cX4_copy 30 = .ok (.aload_n 0, 1) := by decide +kernel
theorem dX4_copy_31 : decode cX4_copy 31 = .ok (.getfield 30, 3) := by decide +kernel
theorem dX4_copy_34 : decode cX4_copy 34 = .ok (.aload_n 1, 1) := by decide +kernel
theorem dX4_copy_35 : decode cX4_copy 35 = .ok (.getfield 30, 3) := by decide +kernel
theorem dX4_copy_38 : decode cX4_copy 38 = .ok (.invokevirtual 122, 3) := by decide +kernel
theorem dX4_copy_41 : decode cX4_copy 41 = .ok (.aload_n 0, 1) := by decide +kernel
theorem dX4_copy_42 : decode cX4_copy 42 = .ok (.getfield 37, 3) := by decide +kernel
theorem dX4_copy_45 : decode cX4_copy 45 = .ok (.aload_n 1, 1) := by decide +kernel
theorem dX4_copy_46 : decode cX4_copy 46 = .ok (.getfield 37, 3) := by decide +kernel
theorem dX4_copy_49 : decode cX4_copy 49 = .ok (.invokevirtual 125, 3) := by decide +kernel
theorem dX4_copy_52 : decode cX4_copy 52 = .ok (.aload_n 0, 1) := by decide +kernel
theorem dX4_copy_53 : decode cX4_copy 53 = .ok (.getfield 41, 3) := by decide +kernel
theorem dX4_copy_56 : decode cX4_copy 56 = .ok (.aload_n 1, 1) := by decide +kernel
theorem dX4_copy_57 : decode cX4_copy 57 = .ok (.getfield 41, 3) := by decide +kernel
theorem dX4_copy_60 : decode cX4_copy 60 = .ok (.invokevirtual 125, 3) := by decide +kernel
theorem dX4_copy_63 : decode cX4_copy 63 = .ok (.aload_n 0, 1) := by decide +kernel
theorem dX4_copy_64 : decode cX4_copy 64 = .ok (.getfield 44, 3) := by decide +kernel
theorem dX4_copy_67 : decode cX4_copy 67 = .ok (.aload_n 1, 1) := by decide +kernel
theorem dX4_copy_68 : decode cX4_copy 68 = .ok (.getfield 44, 3) := by decide +kernel
theorem dX4_copy_71 : decode cX4_copy 71 = .ok (.invokevirtual 125, 3) := by decide +kernel
theorem dX4_copy_74 : decode cX4_copy 74 = .ok (.return_, 1) := by decide +kernel
theorem dX5_init_0 : decode cX5_init 0 = .ok (.aload_n 0, 1) := by decide +kernel
theorem dX5_init_1 : decode cX5_init 1 = .ok (.invokespecial 1, 3) := by decide +kernel
theorem dX5_init_4 : decode cX5_init 4 = .ok (.aload_n 0, 1) := by decide +kernel
theorem dX5_init_5 : decode cX5_init 5 = .ok (.bipush 6, 2) := by decide +kernel
theorem dX5_init_7 : decode cX5_init 7 = .ok (.newarray .int, 2) := by decide +kernel
theorem dX5_init_9 : decode cX5_init 9 = .ok (.putfield 9, 3) := by decide +kernel
theorem dX5_init_12 : decode cX5_init 12 = .ok (.aload_n 0, 1) := by decide +kernel
theorem dX5_init_13 : decode cX5_init 13 = .ok (.bipush 6, 2) := by decide +kernel
theorem dX5_init_15 : decode cX5_init 15 = .ok (.newarray .int, 2) := by decide +kernel
theorem dX5_init_17 : decode cX5_init 17 = .ok (.putfield 13, 3) := by decide +kernel
theorem dX5_init_20 : decode cX5_init 20 = .ok (.aload_n 0, 1) := by decide +kernel
theorem dX5_init_21 : decode cX5_init 21 = .ok (.bipush 6, 2) := by decide +kernel
theorem dX5_init_23 : decode cX5_init 23 = .ok (.newarray .int, 2) := by decide +kernel
theorem dX5_init_25 : decode cX5_init 25 = .ok (.putfield 16, 3) := by decide +kernel
theorem dX5_init_28 : decode cX5_init 28 = .ok (.return_, 1) := by decide +kernel
theorem dX5_bitsInAll_0 : decode cX5_bitsInAll 0 = .ok (.bipush 48, 2) := by decide +kernel
theorem dX5_bitsInAll_2 : decode cX5_bitsInAll 2 = .ok (.aload_n 0, 1) := by decide +kernel
theorem dX5_bitsInAll_3 : decode cX5_bitsInAll 3 = .ok (.getfield 21, 3) := by decide +kernel
theorem dX5_bitsInAll_6 : decode cX5_bitsInAll 6 = .ok (.imul, 1) := by decide +kernel
theorem dX5_bitsInAll_7 : decode cX5_bitsInAll 7 = .ok (.ireturn, 1) := by decide +kernel
theorem dX5_append_0 : decode cX5_append 0 = .ok (.aload_n 0, 1) := by decide +kernel
theorem dX5_append_1 : decode cX5_append 1 = .ok (.getfield 25, 3) := by decide +kernel
theorem dX5_append_4 : decode cX5_append 4 = .ok (.ifCond .lt 12, 3) := by decide +kernel
theorem dX5_append_7 : decode cX5_append 7 = .ok (.aload_n 0, 1) := by decide +kernel
theorem dX5_append_8 : decode cX5_append 8 = .ok (.getfield 25, 3) := by decide +kernel
theorem dX5_append_11 : decode cX5_append 11 = .ok (.bipush 6, 2) := by decide +kernel
theorem dX5_append_13 : decode cX5_append 13 = .ok (.if_icmp .lt 4, 3) := by decide +kernel
theorem dX5_append_16 : decode cX5_append 16 = .ok (.return_, 1) := by decide +kernel
theorem dX5_append_17 : decode cX5_append 17 = .ok (.aload_n 0, 1) := by decide +kernel
theorem dX5_append_18 : decode cX5_append 18 = .ok (.getfield 9, 3) := by decide +kernel
theorem dX5_append_21 : decode cX5_append 21 = .ok (.aload_n 0, 1) := by decide +kernel
theorem dX5_append_22 : decode cX5_append 22 = .ok (.getfield 25, 3) := by decide +kernel
theorem dX5_append_25 : decode cX5_append 25 = .ok (.iload_n 1, 1) := by decide +kernel
theorem dX5_append_26 : decode cX5_append 26 = .ok (.iastore, 1) := by decide +kernel
theorem dX5_append_27 : decode cX5_append 27 = .ok (.aload_n 0, 1) := by decide +kernel
theorem dX5_append_28 : decode cX5_append 28 = .ok (.getfield 13, 3) := by decide +kernel
theorem dX5_append_31 : decode cX5_append 31 = .ok (.aload_n 0, 1) := by decide +kernel
theorem dX5_append_32 : decode cX5_append 32 = .ok (.getfield 25, 3) := by decide +kernel
theorem dX5_append_35 : decode cX5_append 35 = .ok (.iload_n 2, 1) := by decide +kernel
theorem dX5_append_36 : decode cX5_append 36 = .ok (.iastore, 1) := by decide +kernel
theorem dX5_append_37 : decode cX5_append 37 = .ok (.aload_n 0, 1) := by decide +kernel
theorem dX5_append_38 : decode cX5_append 38 = .ok (.getfield 16, 3) := by decide +kernel
theorem dX5_append_41 : decode cX5_append 41 = .ok (.aload_n 0, 1) := by decide +kernel
theorem dX5_append_42 : decode cX5_append 42 = .ok (.getfield 25, 3) := by decide +kernel
theorem dX5_append_45 : decode cX5_append 45 = .ok (.iload_n 3, 1) := by decide +kernel
theorem dX5_append_46 : decode cX5_append 46 = .ok (.iastore, 1) := by decide +kernel
theorem dX5_append_47 : decode cX5_append 47 = .ok (.aload_n 0, 1) := by decide +kernel
theorem dX5_append_48 : decode cX5_append 48 = .ok (.dup, 1) := by decide +kernel
theorem dX5_append_49 : decode cX5_append 49 = .ok (.getfield 25, 3) := by decide +kernel
theorem dX5_append_52 : decode cX5_append 52 = .ok (.iconst 1, 1) := by decide +kernel
theorem dX5_append_53 : decode cX5_append 53 = .ok (.iadd, 1) := by decide +kernel
theorem dX5_append_54 : decode cX5_append 54 = .ok (.putfield 25, 3) := by decide +kernel
theorem dX5_append_57 : decode cX5_append 57 = .ok (.aload_n 0, 1) := by decide +kernel
theorem dX5_append_58 : decode cX5_append 58 = .ok (.dup, 1) := by decide +kernel
theorem dX5_append_59 : decode cX5_append 59 = .ok (.getfield 21, 3) := by decide +kernel
theorem dX5_append_62 : decode cX5_append 62 = .ok (.iload_n 2, 1) := by decide +kernel
theorem dX5_append_63 : decode cX5_append 63 = .ok (.iadd, 1) := by decide +kernel
theorem dX5_append_64 : decode cX5_append 64 = .ok (.putfield 21, 3) := by decide +kernel
theorem dX5_append_67 : decode cX5_append 67 = .ok (.return_, 1) := by decide +kernel
theorem dX5_wordAt_0 : decode cX5_wordAt 0 = .ok (.iload_n 1, 1) := by decide +kernel
theorem dX5_wordAt_1 : decode cX5_wordAt 1 = .ok (.istore_n 3, 1) := by decide +kernel
theorem dX5_wordAt_2 : decode cX5_wordAt 2 = .ok (.iconst 0, 1) := by decide +kernel
theorem dX5_wordAt_3 : decode cX5_wordAt 3 = .ok (.istore 4, 2) := by decide +kernel
theorem dX5_wordAt_5 : decode cX5_wordAt 5 = .ok (.iload 4, 2) := by decide +kernel
theorem dX5_wordAt_7 : decode cX5_wordAt 7 = .ok (.aload_n 0, 1) := by decide +kernel
theorem dX5_wordAt_8 : decode cX5_wordAt 8 = .ok (.getfield 25, 3) := by decide +kernel
theorem dX5_wordAt_11 : decode cX5_wordAt 11 = .ok (.if_icmp .ge 65, 3) := by decide +kernel
theorem dX5_wordAt_14 : decode cX5_wordAt 14 = .ok (.iload 4, 2) := by decide +kernel
theorem dX5_wordAt_16 : decode cX5_wordAt 16 = .ok (.bipush 6, 2) := by decide +kernel
theorem dX5_wordAt_18 : decode cX5_wordAt 18 = .ok (.if_icmp .ge 58, 3) := by decide +kernel
theorem dX5_wordAt_21 : decode cX5_wordAt 21 = .ok (.iload_n 3, 1) := by decide +kernel
theorem dX5_wordAt_22 : decode cX5_wordAt 22 = .ok (.aload_n 0, 1) := by decide +kernel
theorem dX5_wordAt_23 : decode cX5_wordAt 23 = .ok (.getfield 13, 3) := by decide +kernel
theorem dX5_wordAt_26 : decode cX5_wordAt 26 = .ok (.iload 4, 2) := by decide +kernel
theorem dX5_wordAt_28 : decode cX5_wordAt 28 = .ok (.iaload, 1) := by decide +kernel
theorem dX5_wordAt_29 : decode cX5_wordAt 29 = .ok (.if_icmp .ge 31, 3) := by decide +kernel
theorem dX5_wordAt_32 : decode cX5_wordAt 32 = .ok (.iload_n 2, 1) := by decide +kernel
theorem dX5_wordAt_33 : decode cX5_wordAt 33 = .ok (.aload_n 0, 1) := by decide +kernel
theorem dX5_wordAt_34 : decode cX5_wordAt 34 = .ok (.getfield 9, 3) := by decide +kernel
theorem dX5_wordAt_37 : decode cX5_wordAt 37 = .ok (.iload 4, 2) := by decide +kernel
theorem dX5_wordAt_39 : decode cX5_wordAt 39 = .ok (.iaload, 1) := by decide +kernel
theorem dX5_wordAt_40 : decode cX5_wordAt 40 = .ok (.iload_n 3, 1) := by decide +kernel
theorem dX5_wordAt_41 : decode cX5_wordAt 41 = .ok (.iadd, 1) := by decide +kernel
theorem dX5_wordAt_42 : decode cX5_wordAt 42 = .ok (.iload_n 2, 1) := by decide +kernel
theorem dX5_wordAt_43 : decode cX5_wordAt 43 = .ok (.invokestatic 28, 3) := by decide +kernel
theorem dX5_wordAt_46 : decode cX5_wordAt 46 = .ok (.invokestatic 34, 3) := by decide +kernel
theorem dX5_wordAt_49 : decode cX5_wordAt 49 = .ok (.aload_n 0, 1) := by decide +kernel
theorem dX5_wordAt_50 : decode cX5_wordAt 50 = .ok (.getfield 16, 3) := by decide +kernel
theorem dX5_wordAt_53 : decode cX5_wordAt 53 = .ok (.iload 4, 2) := by decide +kernel
theorem dX5_wordAt_55 : decode cX5_wordAt 55 = .ok (.iaload, 1) := by decide +kernel
theorem dX5_wordAt_56 : decode cX5_wordAt 56 = .ok (.invokestatic 40, 3) := by decide +kernel
theorem dX5_wordAt_59 : decode cX5_wordAt 59 = .ok (.lreturn, 1) := by decide +kernel
theorem dX5_wordAt_60 : decode cX5_wordAt 60 = .ok (.iload_n 3, 1) := by decide +kernel
theorem dX5_wordAt_61 : decode cX5_wordAt 61 = .ok (.aload_n 0, 1) := by decide +kernel
theorem dX5_wordAt_62 : decode cX5_wordAt 62 = .ok (.getfield 13, 3) := by decide +kernel
theorem dX5_wordAt_65 : decode cX5_wordAt 65 = .ok (.iload 4, 2) := by decide +kernel
theorem dX5_wordAt_67 : decode cX5_wordAt 67 = .ok (.iaload, 1) := by decide +kernel
theorem dX5_wordAt_68 : decode cX5_wordAt 68 = .ok (.isub, 1) := by decide +kernel
theorem dX5_wordAt_69 : decode cX5_wordAt 69 = .ok (.istore_n 3, 1) := by decide +kernel
theorem dX5_wordAt_70 : decode cX5_wordAt 70 = .ok (.iinc 4 1, 3) := by decide +kernel
theorem dX5_wordAt_73 : decode cX5_wordAt 73 = .ok (.goto (-68), 3) := by decide +kernel
theorem dX5_wordAt_76 : decode cX5_wordAt 76 = .ok (.lconst 0, 1) := by decide +kernel
theorem dX5_wordAt_77 : decode cX5_wordAt 77 = .ok (.lreturn, 1) := by decide +kernel
theorem dX5_wrap_0 : decode cX5_wrap 0 = .ok (.iconst 0, 1) := by decide +kernel
theorem dX5_wrap_1 : decode cX5_wrap 1 = .ok (.istore_n 2, 1) := by decide +kernel
theorem dX5_wrap_2 : decode cX5_wrap 2 = .ok (.iload_n 2, 1) := by decide +kernel
theorem dX5_wrap_3 : decode cX5_wrap 3 = .ok (.aload_n 0, 1) := by decide +kernel
theorem dX5_wrap_4 : decode cX5_wrap 4 = .ok (.getfield 25, 3) := by decide +kernel
theorem dX5_wrap_7 : decode cX5_wrap 7 = .ok (.if_icmp .ge 31, 3) := by decide +kernel
theorem dX5_wrap_10 : decode cX5_wrap 10 = .ok (.iload_n 2, 1) := by decide +kernel
theorem dX5_wrap_11 : decode cX5_wrap 11 = .ok (.bipush 6, 2) := by decide +kernel
theorem dX5_wrap_13 : decode cX5_wrap 13 = .ok (.if_icmp .ge 25, 3) := by decide +kernel
theorem dX5_wrap_16 : decode cX5_wrap 16 = .ok (.aload_n 0, 1) := by decide +kernel
theorem dX5_wrap_17 : decode cX5_wrap 17 = .ok (.getfield 9, 3) := by decide +kernel
theorem dX5_wrap_20 : decode cX5_wrap 20 = .ok (.iload_n 2, 1) := by decide +kernel
theorem dX5_wrap_21 : decode cX5_wrap 21 = .ok (.aload_n 0, 1) := by decide +kernel
theorem dX5_wrap_22 : decode cX5_wrap 22 = .ok (.getfield 9, 3) := by decide +kernel
theorem dX5_wrap_25 : decode cX5_wrap 25 = .ok (.iload_n 2, 1) := by decide +kernel
theorem dX5_wrap_26 : decode cX5_wrap 26 = .ok (.iaload, 1) := by decide +kernel
theorem dX5_wrap_27 : decode cX5_wrap 27 = .ok (.iload_n 1, 1) := by decide +kernel
theorem dX5_wrap_28 : decode cX5_wrap 28 = .ok (.invokestatic 34, 3) := by decide +kernel
theorem dX5_wrap_31 : decode cX5_wrap 31 = .ok (.iastore, 1) := by decide +kernel
theorem dX5_wrap_32 : decode cX5_wrap 32 = .ok (.iinc 2 1, 3) := by decide +kernel
theorem dX5_wrap_35 : decode cX5_wrap 35 = .ok (.goto (-33), 3) := by decide +kernel
theorem dX5_wrap_38 : decode cX5_wrap 38 = .ok (.return_, 1) := by decide +kernel
theorem dX5_copy_0 : decode cX5_copy 0 = .ok (.aload_n 1, 1) := by decide +kernel
theorem dX5_copy_1 : decode cX5_copy 1 = .ok (.getfield 9, 3) := by decide +kernel
theorem dX5_copy_4 : decode cX5_copy 4 = .ok (.iconst 0, 1) := by decide +kernel
theorem dX5_copy_5 : decode cX5_copy 5 = .ok (.aload_n 0, 1) := by decide +kernel
theorem dX5_copy_6 : decode cX5_copy 6 = .ok (.getfield 9, 3) := by decide +kernel
theorem dX5_copy_9 : decode cX5_copy 9 = .ok (.iconst 0, 1) := by decide +kernel
theorem dX5_copy_10 : decode cX5_copy 10 = .ok (.bipush 6, 2) := by decide +kernel
theorem dX5_copy_12 : decode cX5_copy 12 = .ok (.invokestatic 44, 3) := by decide +kernel
theorem dX5_copy_15 : decode cX5_copy 15 = .ok (.aload_n 1, 1) := by decide +kernel
theorem dX5_copy_16 : decode cX5_copy 16 = .ok (.getfield 13, 3) := by decide +kernel
theorem dX5_copy_19 : decode cX5_copy 19 = .ok (.iconst 0, 1) := by decide +kernel
theorem dX5_copy_20 : decode cX5_copy 20 = .ok (.aload_n 0, 1) := by decide +kernel
theorem dX5_copy_21 : decode cX5_copy 21 = .ok (.getfield 13, 3) := by decide +kernel
theorem dX5_copy_24 : decode cX5_copy 24 = .ok (.iconst 0, 1) := by decide +kernel
theorem dX5_copy_25 : decode cX5_copy 25 = .ok (.bipush 6, 2) := by decide +kernel
theorem dX5_copy_27 : decode cX5_copy 27 = .ok (.invokestatic 44, 3) := by decide +kernel
theorem dX5_copy_30 : decode cX5_copy 30 = .ok (.aload_n 1, 1) := by decide +kernel
theorem dX5_copy_31 : decode cX5_copy 31 = .ok (.getfield 16, 3) := by decide +kernel
theorem dX5_copy_34 : decode cX5_copy 34 = .ok (.iconst 0, 1) := by decide +kernel
theorem dX5_copy_35 : decode cX5_copy 35 = .ok (.aload_n 0, 1) := by decide +kernel
theorem dX5_copy_36 : decode cX5_copy 36 = .ok (.getfield 16, 3) := by decide +kernel
theorem dX5_copy_39 : decode cX5_copy 39 = .ok (.iconst 0, 1) := by decide +kernel
theorem dX5_copy_40 : decode cX5_copy 40 = .ok (.bipush 6, 2) := by decide +kernel
theorem dX5_copy_42 : decode cX5_copy 42 = .ok (.invokestatic 44, 3) := by decide +kernel
theorem dX5_copy_45 : decode cX5_copy 45 = .ok (.aload_n 0, 1) := by decide +kernel
theorem dX5_copy_46 : decode cX5_copy 46 = .ok (.aload_n 1, 1) := by decide +kernel
theorem dX5_copy_47 : decode cX5_copy 47 = .ok (.getfield 25, 3) := by decide +kernel
theorem dX5_copy_50 : decode cX5_copy 50 = .ok (.putfield 25, 3) := by decide +kernel
theorem dX5_copy_53 : decode cX5_copy 53 = .ok (.aload_n 0, 1) := by decide +kernel
theorem dX5_copy_54 : decode cX5_copy 54 = .ok (.aload_n 1, 1) := by decide +kernel
theorem dX5_copy_55 : decode cX5_copy 55 = .ok (.getfield 21, 3) := by decide +kernel
theorem dX5_copy_58 : decode cX5_copy 58 = .ok (.putfield 21, 3) := by decide +kernel
theorem dX5_copy_61 : decode cX5_copy 61 = .ok (.aload_n 0, 1) := by decide +kernel
theorem dX5_copy_62 : decode cX5_copy 62 = .ok (.aload_n 1, 1) := by decide +kernel
theorem dX5_copy_63 : decode cX5_copy 63 = .ok (.getfield 50, 3) := by decide +kernel
theorem dX5_copy_66 : decode cX5_copy 66 = .ok (.putfield 50, 3) := by decide +kernel
theorem dX5_copy_69 : decode cX5_copy 69 = .ok (.return_, 1) := by decide +kernel
theorem dX6_init_0 : decode cX6_init 0 = .ok (.aload_n 0, 1) := by decide +kernel
theorem dX6_init_1 : decode cX6_init 1 = .ok (.invokespecial 1, 3) := by decide +kernel
theorem dX6_init_4 : decode cX6_init 4 = .ok (.aload_n 0, 1) := by decide +kernel
theorem dX6_init_5 : decode cX6_init 5 = .ok (.iconst 1, 1) := by decide +kernel
theorem dX6_init_6 : decode cX6_init 6 = .ok (.putfield 7, 3) := by decide +kernel
theorem dX6_init_9 : decode cX6_init 9 = .ok (.aload_n 0, 1) := by decide +kernel
theorem dX6_init_10 : decode cX6_init 10 = .ok (.iconst 5, 1) := by decide +kernel
theorem dX6_init_11 : decode cX6_init 11 = .ok (.putfield 13, 3) := by decide +kernel
theorem dX6_init_14 : decode cX6_init 14 = .ok (.return_, 1) := by decide +kernel
theorem dX6_standAt_0 : decode cX6_standAt 0 = .ok (.aload_n 0, 1) := by decide +kernel
theorem dX6_standAt_1 : decode cX6_standAt 1 = .ok (.iload_n 1, 1) := by decide +kernel
theorem dX6_standAt_2 : decode cX6_standAt 2 = .ok (.putfield 16, 3) := by decide +kernel
theorem dX6_standAt_5 : decode cX6_standAt 5 = .ok (.aload_n 0, 1) := by decide +kernel
theorem dX6_standAt_6 : decode cX6_standAt 6 = .ok (.iload_n 2, 1) := by decide +kernel
theorem dX6_standAt_7 : decode cX6_standAt 7 = .ok (.putfield 7, 3) := by decide +kernel
theorem dX6_standAt_10 : decode cX6_standAt 10 = .ok (.aload_n 0, 1) := by decide +kernel
theorem dX6_standAt_11 : decode cX6_standAt 11 = .ok (.iconst 0, 1) := by decide +kernel
theorem dX6_standAt_12 : decode cX6_standAt 12 = .ok (.putfield 19, 3) := by decide +kernel
theorem dX6_standAt_15 : decode cX6_standAt 15 = .ok (.return_, 1) := by decide +kernel
theorem dX6_coast_0 : decode cX6_coast 0 = .ok (.aload_n 0, 1) := by decide +kernel
theorem dX6_coast_1 : decode cX6_coast 1 = .ok (.getfield 19, 3) := by decide +kernel
theorem dX6_coast_4 : decode cX6_coast 4 = .ok (.aload_n 0, 1) := by decide +kernel
theorem dX6_coast_5 : decode cX6_coast 5 = .ok (.getfield 13, 3) := by decide +kernel
theorem dX6_coast_8 : decode cX6_coast 8 = .ok (.if_icmp .lt 5, 3) := by decide +kernel
theorem dX6_coast_11 : decode cX6_coast 11 = .ok (.iconst 0, 1) := by decide +kernel
theorem dX6_coast_12 : decode cX6_coast 12 = .ok (.ireturn, 1) := by decide +kernel
theorem dX6_coast_13 : decode cX6_coast 13 = .ok (.aload_n 0, 1) := by decide +kernel
theorem dX6_coast_14 : decode cX6_coast 14 = .ok (.dup, 1) := by decide +kernel
theorem dX6_coast_15 : decode cX6_coast 15 = .ok (.getfield 19, 3) := by decide +kernel
theorem dX6_coast_18 : decode cX6_coast 18 = .ok (.iconst 1, 1) := by decide +kernel
theorem dX6_coast_19 : decode cX6_coast 19 = .ok (.iadd, 1) := by decide +kernel
theorem dX6_coast_20 : decode cX6_coast 20 = .ok (.putfield 19, 3) := by decide +kernel
theorem dX6_coast_23 : decode cX6_coast 23 = .ok (.aload_n 0, 1) := by decide +kernel
theorem dX6_coast_24 : decode cX6_coast 24 = .ok (.aload_n 0, 1) := by decide +kernel
theorem dX6_coast_25 : decode cX6_coast 25 = .ok (.getfield 16, 3) := by decide +kernel
theorem dX6_coast_28 : decode cX6_coast 28 = .ok (.aload_n 0, 1) := by decide +kernel
theorem dX6_coast_29 : decode cX6_coast 29 = .ok (.getfield 7, 3) := by decide +kernel
theorem dX6_coast_32 : decode cX6_coast 32 = .ok (.iadd, 1) := by decide +kernel
theorem dX6_coast_33 : decode cX6_coast 33 = .ok (.iload_n 1, 1) := by decide +kernel
theorem dX6_coast_34 : decode cX6_coast 34 = .ok (.invokestatic 22, 3) := by decide +kernel
theorem dX6_coast_37 : decode cX6_coast 37 = .ok (.putfield 16, 3) := by decide +kernel
theorem dX6_coast_40 : decode cX6_coast 40 = .ok (.iconst 1, 1) := by decide +kernel
theorem dX6_coast_41 : decode cX6_coast 41 = .ok (.ireturn, 1) := by decide +kernel
theorem dX6_copy_0 : decode cX6_copy 0 = .ok (.aload_n 0, 1) := by decide +kernel
theorem dX6_copy_1 : decode cX6_copy 1 = .ok (.aload_n 1, 1) := by decide +kernel
theorem dX6_copy_2 : decode cX6_copy 2 = .ok (.getfield 16, 3) := by decide +kernel
theorem dX6_copy_5 : decode cX6_copy 5 = .ok (.putfield 16, 3) := by decide +kernel
theorem dX6_copy_8 : decode cX6_copy 8 = .ok (.aload_n 0, 1) := by decide +kernel
theorem dX6_copy_9 : decode cX6_copy 9 = .ok (.aload_n 1, 1) := by decide +kernel
theorem dX6_copy_10 : decode cX6_copy 10 = .ok (.getfield 7, 3) := by decide +kernel
theorem dX6_copy_13 : decode cX6_copy 13 = .ok (.putfield 7, 3) := by decide +kernel
theorem dX6_copy_16 : decode cX6_copy 16 = .ok (.aload_n 0, 1) := by decide +kernel
theorem dX6_copy_17 : decode cX6_copy 17 = .ok (.aload_n 1, 1) := by decide +kernel
theorem dX6_copy_18 : decode cX6_copy 18 = .ok (.getfield 19, 3) := by decide +kernel
theorem dX6_copy_21 : decode cX6_copy 21 = .ok (.putfield 19, 3) := by decide +kernel
theorem dX6_copy_24 : decode cX6_copy 24 = .ok (.aload_n 0, 1) := by decide +kernel
theorem dX6_copy_25 : decode cX6_copy 25 = .ok (.aload_n 1, 1) := by decide +kernel
theorem dX6_copy_26 : decode cX6_copy 26 = .ok (.getfield 13, 3) := by decide +kernel
theorem dX6_copy_29 : decode cX6_copy 29 = .ok (.putfield 13, 3) := by decide +kernel
theorem dX6_copy_32 : decode cX6_copy 32 = .ok (.return_, 1) := by decide +kernel
theorem dX7_bitOf_0 : decode cX7_bitOf 0 = .ok (.lload_n 0, 1) := by decide +kernel
theorem dX7_bitOf_1 : decode cX7_bitOf 1 = .ok (.iload_n 2, 1) := by decide +kernel
theorem dX7_bitOf_2 : decode cX7_bitOf 2 = .ok (.lushr, 1) := by decide +kernel
theorem dX7_bitOf_3 : decode cX7_bitOf 3 = .ok (.l2i, 1) := by decide +kernel
theorem dX7_bitOf_4 : decode cX7_bitOf 4 = .ok (.iconst 1, 1) := by decide +kernel
theorem dX7_bitOf_5 : decode cX7_bitOf 5 = .ok (.iand, 1) := by decide +kernel
theorem dX7_bitOf_6 : decode cX7_bitOf 6 = .ok (.ireturn, 1) := by decide +kernel
theorem dX7_wordOf_0 : decode cX7_wordOf 0 = .ok (.iload_n 0, 1) := by decide +kernel
theorem dX7_wordOf_1 : decode cX7_wordOf 1 = .ok (.iload_n 1, 1) := by decide +kernel
theorem dX7_wordOf_2 : decode cX7_wordOf 2 = .ok (.invokestatic 9, 3) := by decide +kernel
theorem dX7_wordOf_5 : decode cX7_wordOf 5 = .ok (.istore_n 3, 1) := by decide +kernel
theorem dX7_wordOf_6 : decode cX7_wordOf 6 = .ok (.iload_n 3, 1) := by decide +kernel
theorem dX7_wordOf_7 : decode cX7_wordOf 7 = .ok (.bipush 100, 2) := by decide +kernel
theorem dX7_wordOf_9 : decode cX7_wordOf 9 = .ok (.irem, 1) := by decide +kernel
theorem dX7_wordOf_10 : decode cX7_wordOf 10 = .ok (.invokestatic 15, 3) := by decide +kernel
theorem dX7_wordOf_13 : decode cX7_wordOf 13 = .ok (.iload_n 3, 1) := by decide +kernel
theorem dX7_wordOf_14 : decode cX7_wordOf 14 = .ok (.bipush 100, 2) := by decide +kernel
theorem dX7_wordOf_16 : decode cX7_wordOf 16 = .ok (.idiv, 1) := by decide +kernel
theorem dX7_wordOf_17 : decode cX7_wordOf 17 = .ok (.bipush 100, 2) := by decide +kernel
theorem dX7_wordOf_19 : decode cX7_wordOf 19 = .ok (.irem, 1) := by decide +kernel
theorem dX7_wordOf_20 : decode cX7_wordOf 20 = .ok (.invokestatic 15, 3) := by decide +kernel
theorem dX7_wordOf_23 : decode cX7_wordOf 23 = .ok (.bipush 6, 2) := by decide +kernel
theorem dX7_wordOf_25 : decode cX7_wordOf 25 = .ok (.ishl, 1) := by decide +kernel
theorem dX7_wordOf_26 : decode cX7_wordOf 26 = .ok (.ior, 1) := by decide +kernel
theorem dX7_wordOf_27 : decode cX7_wordOf 27 = .ok (.iload_n 3, 1) := by decide +kernel
theorem dX7_wordOf_28 : decode cX7_wordOf 28 = .ok (.sipush 10000, 3) := by decide +kernel
theorem dX7_wordOf_31 : decode cX7_wordOf 31 = .ok (.idiv, 1) := by decide +kernel
theorem dX7_wordOf_32 : decode cX7_wordOf 32 = .ok (.bipush 100, 2) := by decide +kernel
theorem dX7_wordOf_34 : decode cX7_wordOf 34 = .ok (.irem, 1) := by decide +kernel
theorem dX7_wordOf_35 : decode cX7_wordOf 35 = .ok (.invokestatic 15, 3) := by decide +kernel
theorem dX7_wordOf_38 : decode cX7_wordOf 38 = .ok (.bipush 13, 2) := by decide +kernel
theorem dX7_wordOf_40 : decode cX7_wordOf 40 = .ok (.ishl, 1) := by decide +kernel
theorem dX7_wordOf_41 : decode cX7_wordOf 41 = .ok (.ior, 1) := by decide +kernel
theorem dX7_wordOf_42 : decode cX7_wordOf 42 = .ok (.iload_n 3, 1) := by decide +kernel
theorem dX7_wordOf_43 : decode cX7_wordOf 43 = .ok (.ldc 21, 2) := by decide +kernel
theorem dX7_wordOf_45 : decode cX7_wordOf 45 = .ok (.idiv, 1) := by decide +kernel
theorem dX7_wordOf_46 : decode cX7_wordOf 46 = .ok (.invokestatic 15, 3) := by decide +kernel
theorem dX7_wordOf_49 : decode cX7_wordOf 49 = .ok (.bipush 20, 2) := by decide +kernel
theorem dX7_wordOf_51 : decode cX7_wordOf 51 = .ok (.ishl, 1) := by decide +kernel
theorem dX7_wordOf_52 : decode cX7_wordOf 52 = .ok (.ior, 1) := by decide +kernel
theorem dX7_wordOf_53 : decode cX7_wordOf 53 = .ok (.iload_n 0, 1) := by decide +kernel
theorem dX7_wordOf_54 : decode cX7_wordOf 54 = .ok (.iconst 3, 1) := by decide +kernel
theorem dX7_wordOf_55 : decode cX7_wordOf 55 = .ok (.if_icmp .ne 8, 3) := by decide +kernel
theorem dX7_wordOf_58 : decode cX7_wordOf 58 = .ok (.ldc 22, 2) := by decide +kernel
theorem dX7_wordOf_60 : decode cX7_wordOf 60 = .ok (.goto 4, 3) := by decide +kernel
theorem dX7_wordOf_63 : decode cX7_wordOf 63 = .ok (.iconst 0, 1) := by decide +kernel
theorem dX7_wordOf_64 : decode cX7_wordOf 64 = .ok (.ior, 1) := by decide +kernel
theorem dX7_wordOf_65 : decode cX7_wordOf 65 = .ok (.iload_n 2, 1) := by decide +kernel
theorem dX7_wordOf_66 : decode cX7_wordOf 66 = .ok (.bipush 28, 2) := by decide +kernel
theorem dX7_wordOf_68 : decode cX7_wordOf 68 = .ok (.ishl, 1) := by decide +kernel
theorem dX7_wordOf_69 : decode cX7_wordOf 69 = .ok (.ior, 1) := by decide +kernel
theorem dX7_wordOf_70 : decode cX7_wordOf 70 = .ok (.istore 4, 2) := by decide +kernel
theorem dX7_wordOf_72 : decode cX7_wordOf 72 = .ok (.iload 4, 2) := by decide +kernel
theorem dX7_wordOf_74 : decode cX7_wordOf 74 = .ok (.invokestatic 23, 3) := by decide +kernel
theorem dX7_wordOf_77 : decode cX7_wordOf 77 = .ok (.iconst 2, 1) := by decide +kernel
theorem dX7_wordOf_78 : decode cX7_wordOf 78 = .ok (.irem, 1) := by decide +kernel
theorem dX7_wordOf_79 : decode cX7_wordOf 79 = .ok (.istore 5, 2) := by decide +kernel
theorem dX7_wordOf_81 : decode cX7_wordOf 81 = .ok (.iload 4, 2) := by decide +kernel
theorem dX7_wordOf_83 : decode cX7_wordOf 83 = .ok (.iload 5, 2) := by decide +kernel
theorem dX7_wordOf_85 : decode cX7_wordOf 85 = .ok (.bipush 27, 2) := by decide +kernel
theorem dX7_wordOf_87 : decode cX7_wordOf 87 = .ok (.ishl, 1) := by decide +kernel
theorem dX7_wordOf_88 : decode cX7_wordOf 88 = .ok (.ior, 1) := by decide +kernel
theorem dX7_wordOf_89 : decode cX7_wordOf 89 = .ok (.i2l, 1) := by decide +kernel
theorem dX7_wordOf_90 : decode cX7_wordOf 90 = .ok (.ldc2_w 28, 3) := by decide +kernel
theorem dX7_wordOf_93 : decode cX7_wordOf 93 = .ok (.land, 1) := by decide +kernel
theorem dX7_wordOf_94 : decode cX7_wordOf 94 = .ok (.ldc2_w 30, 3) := by decide +kernel
theorem dX7_wordOf_97 : decode cX7_wordOf 97 = .ok (.lor, 1) := by decide +kernel
theorem dX7_wordOf_98 : decode cX7_wordOf 98 = .ok (.lreturn, 1) := by decide +kernel
theorem dX7_digits_0 : decode cX7_digits 0 = .ok (.iload_n 0, 1) := by decide +kernel
theorem dX7_digits_1 : decode cX7_digits 1 = .ok (.bipush 10, 2) := by decide +kernel
theorem dX7_digits_3 : decode cX7_digits 3 = .ok (.irem, 1) := by decide +kernel
theorem dX7_digits_4 : decode cX7_digits 4 = .ok (.iload_n 0, 1) := by decide +kernel
theorem dX7_digits_5 : decode cX7_digits 5 = .ok (.bipush 10, 2) := by decide +kernel
theorem dX7_digits_7 : decode cX7_digits 7 = .ok (.idiv, 1) := by decide +kernel
theorem dX7_digits_8 : decode cX7_digits 8 = .ok (.iconst 4, 1) := by decide +kernel
theorem dX7_digits_9 : decode cX7_digits 9 = .ok (.ishl, 1) := by decide +kernel
theorem dX7_digits_10 : decode cX7_digits 10 = .ok (.ior, 1) := by decide +kernel
theorem dX7_digits_11 : decode cX7_digits 11 = .ok (.ireturn, 1) := by decide +kernel
theorem dX7_numberIn_0 : decode cX7_numberIn 0 = .ok (.lload_n 0, 1) := by decide +kernel
theorem dX7_numberIn_1 : decode cX7_numberIn 1 = .ok (.l2i, 1) := by decide +kernel
theorem dX7_numberIn_2 : decode cX7_numberIn 2 = .ok (.istore_n 3, 1) := by decide +kernel
theorem dX7_numberIn_3 : decode cX7_numberIn 3 = .ok (.iload_n 3, 1) := by decide +kernel
theorem dX7_numberIn_4 : decode cX7_numberIn 4 = .ok (.bipush 15, 2) := by decide +kernel
theorem dX7_numberIn_6 : decode cX7_numberIn 6 = .ok (.iand, 1) := by decide +kernel
theorem dX7_numberIn_7 : decode cX7_numberIn 7 = .ok (.istore 4, 2) := by decide +kernel
theorem dX7_numberIn_9 : decode cX7_numberIn 9 = .ok (.iload_n 3, 1) := by decide +kernel
theorem dX7_numberIn_10 : decode cX7_numberIn 10 = .ok (.bipush 6, 2) := by decide +kernel
theorem dX7_numberIn_12 : decode cX7_numberIn 12 = .ok (.iushr, 1) := by decide +kernel
theorem dX7_numberIn_13 : decode cX7_numberIn 13 = .ok (.bipush 15, 2) := by decide +kernel
theorem dX7_numberIn_15 : decode cX7_numberIn 15 = .ok (.iand, 1) := by decide +kernel
theorem dX7_numberIn_16 : decode cX7_numberIn 16 = .ok (.istore 5, 2) := by decide +kernel
theorem dX7_numberIn_18 : decode cX7_numberIn 18 = .ok (.iload_n 3, 1) := by decide +kernel
theorem dX7_numberIn_19 : decode cX7_numberIn 19 = .ok (.bipush 13, 2) := by decide +kernel
theorem dX7_numberIn_21 : decode cX7_numberIn 21 = .ok (.iushr, 1) := by decide +kernel
theorem dX7_numberIn_22 : decode cX7_numberIn 22 = .ok (.bipush 15, 2) := by decide +kernel
theorem dX7_numberIn_24 : decode cX7_numberIn 24 = .ok (.iand, 1) := by decide +kernel
theorem dX7_numberIn_25 : decode cX7_numberIn 25 = .ok (.istore 6, 2) := by decide +kernel
theorem dX7_numberIn_27 : decode cX7_numberIn 27 = .ok (.iload_n 3, 1) := by decide +kernel
theorem dX7_numberIn_28 : decode cX7_numberIn 28 = .ok (.bipush 20, 2) := by decide +kernel
theorem dX7_numberIn_30 : decode cX7_numberIn 30 = .ok (.iushr, 1) := by decide +kernel
theorem dX7_numberIn_31 : decode cX7_numberIn 31 = .ok (.bipush 15, 2) := by decide +kernel
theorem dX7_numberIn_33 : decode cX7_numberIn 33 = .ok (.iand, 1) := by decide +kernel
theorem dX7_numberIn_34 : decode cX7_numberIn 34 = .ok (.istore 7, 2) := by decide +kernel
theorem dX7_numberIn_36 : decode cX7_numberIn 36 = .ok (.iload_n 3, 1) := by decide +kernel
theorem dX7_numberIn_37 : decode cX7_numberIn 37 = .ok (.invokestatic 23, 3) := by decide +kernel
theorem dX7_numberIn_40 : decode cX7_numberIn 40 = .ok (.iconst 2, 1) := by decide +kernel
theorem dX7_numberIn_41 : decode cX7_numberIn 41 = .ok (.irem, 1) := by decide +kernel
theorem dX7_numberIn_42 : decode cX7_numberIn 42 = .ok (.ifCond .ne 31, 3) := by decide +kernel
theorem dX7_numberIn_45 : decode cX7_numberIn 45 = .ok (.iload 4, 2) := by decide +kernel
theorem dX7_numberIn_47 : decode cX7_numberIn 47 = .ok (.bipush 9, 2) := by decide +kernel
theorem dX7_numberIn_49 : decode cX7_numberIn 49 = .ok (.if_icmp .gt 24, 3) := by decide +kernel
theorem dX7_numberIn_52 : decode cX7_numberIn 52 = .ok (.iload 5, 2) := by decide +kernel
theorem dX7_numberIn_54 : decode cX7_numberIn 54 = .ok (.bipush 9, 2) := by decide +kernel
theorem dX7_numberIn_56 : decode cX7_numberIn 56 = .ok (.if_icmp .gt 17, 3) := by decide +kernel
theorem dX7_numberIn_59 : decode cX7_numberIn 59 = .ok (.iload 6, 2) := by decide +kernel
theorem dX7_numberIn_61 : decode cX7_numberIn 61 = .ok (.bipush 9, 2) := by decide +kernel
theorem dX7_numberIn_63 : decode cX7_numberIn 63 = .ok (.if_icmp .gt 10, 3) := by decide +kernel
theorem dX7_numberIn_66 : decode cX7_numberIn 66 = .ok (.iload 7, 2) := by decide +kernel
theorem dX7_numberIn_68 : decode cX7_numberIn 68 = .ok (.bipush 9, 2) := by decide +kernel
theorem dX7_numberIn_70 : decode cX7_numberIn 70 = .ok (.if_icmp .le 6, 3) := by decide +kernel
theorem dX7_numberIn_73 : decode cX7_numberIn 73 = .ok (.bipush (-9), 2) := by decide +kernel
theorem dX7_numberIn_75 : decode cX7_numberIn 75 = .ok (.ireturn, 1) := by decide +kernel
theorem dX7_numberIn_76 : decode cX7_numberIn 76 = .ok (.iload_n 3, 1) := by decide +kernel
theorem dX7_numberIn_77 : decode cX7_numberIn 77 = .ok (.bipush 26, 2) := by decide +kernel
theorem dX7_numberIn_79 : decode cX7_numberIn 79 = .ok (.iushr, 1) := by decide +kernel
theorem dX7_numberIn_80 : decode cX7_numberIn 80 = .ok (.iconst 1, 1) := by decide +kernel
theorem dX7_numberIn_81 : decode cX7_numberIn 81 = .ok (.iand, 1) := by decide +kernel
theorem dX7_numberIn_82 : decode cX7_numberIn 82 = .ok (.iload_n 2, 1) := by decide +kernel
theorem dX7_numberIn_83 : decode cX7_numberIn 83 = .ok (.iconst 3, 1) := by decide +kernel
theorem dX7_numberIn_84 : decode cX7_numberIn 84 = .ok (.if_icmp .ne 7, 3) := by decide +kernel
theorem dX7_numberIn_87 : decode cX7_numberIn 87 = .ok (.iconst 1, 1) := by decide +kernel
theorem dX7_numberIn_88 : decode cX7_numberIn 88 = .ok (.goto 4, 3) := by decide +kernel
theorem dX7_numberIn_91 : decode cX7_numberIn 91 = .ok (.iconst 0, 1) := by decide +kernel
theorem dX7_numberIn_92 : decode cX7_numberIn 92 = .ok (.if_icmp .eq 6, 3) := by decide +kernel
theorem dX7_numberIn_95 : decode cX7_numberIn 95 = .ok (.bipush (-9), 2) := by decide +kernel
theorem dX7_numberIn_97 : decode cX7_numberIn 97 = .ok (.ireturn, 1) := by decide +kernel
theorem dX7_numberIn_98 : decode cX7_numberIn 98 = .ok (.iload 4, 2) := by decide +kernel
theorem dX7_numberIn_100 : decode cX7_numberIn 100 = .ok (.bipush 10, 2) := by decide +kernel
theorem dX7_numberIn_102 : decode cX7_numberIn 102 = .ok (.iload_n 3, 1) := by decide +kernel
theorem dX7_numberIn_103 : decode cX7_numberIn 103 = .ok (.iconst 4, 1) := by decide +kernel
theorem dX7_numberIn_104 : decode cX7_numberIn 104 = .ok (.iushr, 1) := by decide +kernel
theorem dX7_numberIn_105 : decode cX7_numberIn 105 = .ok (.iconst 3, 1) := by decide +kernel
theorem dX7_numberIn_106 : decode cX7_numberIn 106 = .ok (.iand, 1) := by decide +kernel
theorem dX7_numberIn_107 : decode cX7_numberIn 107 = .ok (.imul, 1) := by decide +kernel
theorem dX7_numberIn_108 : decode cX7_numberIn 108 = .ok (.iadd, 1) := by decide +kernel
theorem dX7_numberIn_109 : decode cX7_numberIn 109 = .ok (.istore 4, 2) := by decide +kernel
theorem dX7_numberIn_111 : decode cX7_numberIn 111 = .ok (.iload 5, 2) := by decide +kernel
theorem dX7_numberIn_113 : decode cX7_numberIn 113 = .ok (.bipush 10, 2) := by decide +kernel
theorem dX7_numberIn_115 : decode cX7_numberIn 115 = .ok (.iload_n 3, 1) := by decide +kernel
theorem dX7_numberIn_116 : decode cX7_numberIn 116 = .ok (.bipush 10, 2) := by decide +kernel
theorem dX7_numberIn_118 : decode cX7_numberIn 118 = .ok (.iushr, 1) := by decide +kernel
theorem dX7_numberIn_119 : decode cX7_numberIn 119 = .ok (.bipush 7, 2) := by decide +kernel
theorem dX7_numberIn_121 : decode cX7_numberIn 121 = .ok (.iand, 1) := by decide +kernel
theorem dX7_numberIn_122 : decode cX7_numberIn 122 = .ok (.imul, 1) := by decide +kernel
theorem dX7_numberIn_123 : decode cX7_numberIn 123 = .ok (.iadd, 1) := by decide +kernel
theorem dX7_numberIn_124 : decode cX7_numberIn 124 = .ok (.istore 5, 2) := by decide +kernel
theorem dX7_numberIn_126 : decode cX7_numberIn 126 = .ok (.iload 6, 2) := by decide +kernel
theorem dX7_numberIn_128 : decode cX7_numberIn 128 = .ok (.bipush 10, 2) := by decide +kernel
theorem dX7_numberIn_130 : decode cX7_numberIn 130 = .ok (.iload_n 3, 1) := by decide +kernel
theorem dX7_numberIn_131 : decode cX7_numberIn 131 = .ok (.bipush 17, 2) := by decide +kernel
theorem dX7_numberIn_133 : decode cX7_numberIn 133 = .ok (.iushr, 1) := by decide +kernel
theorem dX7_numberIn_134 : decode cX7_numberIn 134 = .ok (.bipush 7, 2) := by decide +kernel
theorem dX7_numberIn_136 : decode cX7_numberIn 136 = .ok (.iand, 1) := by decide +kernel
theorem dX7_numberIn_137 : decode cX7_numberIn 137 = .ok (.imul, 1) := by decide +kernel
theorem dX7_numberIn_138 : decode cX7_numberIn 138 = .ok (.iadd, 1) := by decide +kernel
theorem dX7_numberIn_139 : decode cX7_numberIn 139 = .ok (.istore 6, 2) := by decide +kernel
theorem dX7_numberIn_141 : decode cX7_numberIn 141 = .ok (.iload 7, 2) := by decide +kernel
theorem dX7_numberIn_143 : decode cX7_numberIn 143 = .ok (.bipush 10, 2) := by decide +kernel
theorem dX7_numberIn_145 : decode cX7_numberIn 145 = .ok (.iload_n 3, 1) := by decide +kernel
theorem dX7_numberIn_146 : decode cX7_numberIn 146 = .ok (.bipush 24, 2) := by decide +kernel
theorem dX7_numberIn_148 : decode cX7_numberIn 148 = .ok (.iushr, 1) := by decide +kernel
theorem dX7_numberIn_149 : decode cX7_numberIn 149 = .ok (.iconst 3, 1) := by decide +kernel
theorem dX7_numberIn_150 : decode cX7_numberIn 150 = .ok (.iand, 1) := by decide +kernel
theorem dX7_numberIn_151 : decode cX7_numberIn 151 = .ok (.imul, 1) := by decide +kernel
theorem dX7_numberIn_152 : decode cX7_numberIn 152 = .ok (.iadd, 1) := by decide +kernel
theorem dX7_numberIn_153 : decode cX7_numberIn 153 = .ok (.istore 7, 2) := by decide +kernel
theorem dX7_numberIn_155 : decode cX7_numberIn 155 = .ok (.ldc 21, 2) := by decide +kernel
theorem dX7_numberIn_157 : decode cX7_numberIn 157 = .ok (.iload 7, 2) := by decide +kernel
theorem dX7_numberIn_159 : decode cX7_numberIn 159 = .ok (.imul, 1) := by decide +kernel
theorem dX7_numberIn_160 : decode cX7_numberIn 160 = .ok (.sipush 10000, 3) := by decide +kernel
theorem dX7_numberIn_163 : decode cX7_numberIn 163 = .ok (.iload 6, 2) := by decide +kernel
theorem dX7_numberIn_165 : decode cX7_numberIn 165 = .ok (.imul, 1) := by decide +kernel
theorem dX7_numberIn_166 : decode cX7_numberIn 166 = .ok (.iadd, 1) := by decide +kernel
theorem dX7_numberIn_167 : decode cX7_numberIn 167 = .ok (.bipush 100, 2) := by decide +kernel
theorem dX7_numberIn_169 : decode cX7_numberIn 169 = .ok (.iload 5, 2) := by decide +kernel
theorem dX7_numberIn_171 : decode cX7_numberIn 171 = .ok (.imul, 1) := by decide +kernel
theorem dX7_numberIn_172 : decode cX7_numberIn 172 = .ok (.iadd, 1) := by decide +kernel
theorem dX7_numberIn_173 : decode cX7_numberIn 173 = .ok (.iload 4, 2) := by decide +kernel
theorem dX7_numberIn_175 : decode cX7_numberIn 175 = .ok (.iadd, 1) := by decide +kernel
theorem dX7_numberIn_176 : decode cX7_numberIn 176 = .ok (.ireturn, 1) := by decide +kernel
theorem dX7_userIn_0 : decode cX7_userIn 0 = .ok (.lload_n 0, 1) := by decide +kernel
theorem dX7_userIn_1 : decode cX7_userIn 1 = .ok (.bipush 28, 2) := by decide +kernel
theorem dX7_userIn_3 : decode cX7_userIn 3 = .ok (.lushr, 1) := by decide +kernel
theorem dX7_userIn_4 : decode cX7_userIn 4 = .ok (.l2i, 1) := by decide +kernel
theorem dX7_userIn_5 : decode cX7_userIn 5 = .ok (.bipush 15, 2) := by decide +kernel
theorem dX7_userIn_7 : decode cX7_userIn 7 = .ok (.iand, 1) := by decide +kernel
theorem dX7_userIn_8 : decode cX7_userIn 8 = .ok (.ireturn, 1) := by decide +kernel
theorem dX7_turned_0 : decode cX7_turned 0 = .ok (.lconst 0, 1) := by decide +kernel
theorem dX7_turned_1 : decode cX7_turned 1 = .ok (.lstore_n 2, 1) := by decide +kernel
theorem dX7_turned_2 : decode cX7_turned 2 = .ok (.iconst 0, 1) := by decide +kernel
theorem dX7_turned_3 : decode cX7_turned 3 = .ok (.istore 4, 2) := by decide +kernel
theorem dX7_turned_5 : decode cX7_turned 5 = .ok (.iload 4, 2) := by decide +kernel
theorem dX7_turned_7 : decode cX7_turned 7 = .ok (.bipush 32, 2) := by decide +kernel
theorem dX7_turned_9 : decode cX7_turned 9 = .ok (.if_icmp .ge 20, 3) := by decide +kernel
theorem dX7_turned_12 : decode cX7_turned 12 = .ok (.lload_n 2, 1) := by decide +kernel
theorem dX7_turned_13 : decode cX7_turned 13 = .ok (.iconst 1, 1) := by decide +kernel
theorem dX7_turned_14 : decode cX7_turned 14 = .ok (.lshl, 1) := by decide +kernel
theorem dX7_turned_15 : decode cX7_turned 15 = .ok (.lload_n 0, 1) := by decide +kernel
theorem dX7_turned_16 : decode cX7_turned 16 = .ok (.iload 4, 2) := by decide +kernel
theorem dX7_turned_18 : decode cX7_turned 18 = .ok (.lushr, 1) := by decide +kernel
theorem dX7_turned_19 : decode cX7_turned 19 = .ok (.lconst 1, 1) := by decide +kernel
theorem dX7_turned_20 : decode cX7_turned 20 = .ok (.land, 1) := by decide +kernel
theorem dX7_turned_21 : decode cX7_turned 21 = .ok (.lor, 1) := by decide +kernel
theorem dX7_turned_22 : decode cX7_turned 22 = .ok (.lstore_n 2, 1) := by decide +kernel
theorem dX7_turned_23 : decode cX7_turned 23 = .ok (.iinc 4 1, 3) := by decide +kernel
theorem dX7_turned_26 : decode cX7_turned 26 = .ok (.goto (-21), 3) := by decide +kernel
theorem dX7_turned_29 : decode cX7_turned 29 = .ok (.lload_n 2, 1) := by decide +kernel
theorem dX7_turned_30 : decode cX7_turned 30 = .ok (.lreturn, 1) := by decide +kernel
theorem dJ6_compare_7cf53_0 : decode cJ6_compare_7cf53 0 = .ok (.iload_n 0, 1) := by decide +kernel
theorem dJ6_compare_7cf53_1 : decode cJ6_compare_7cf53 1 = .ok (.iload_n 1, 1) := by decide +kernel
theorem dJ6_compare_7cf53_2 : decode cJ6_compare_7cf53 2 = .ok (.if_icmp .ge 7, 3) := by decide +kernel
theorem dJ6_compare_7cf53_5 : decode cJ6_compare_7cf53 5 = .ok (.iconst (-1), 1) := by decide +kernel
theorem dJ6_compare_7cf53_6 : decode cJ6_compare_7cf53 6 = .ok (.goto 13, 3) := by decide +kernel
theorem dJ6_compare_7cf53_9 : decode cJ6_compare_7cf53 9 = .ok (.iload_n 0, 1) := by decide +kernel
theorem dJ6_compare_7cf53_10 : decode cJ6_compare_7cf53 10 = .ok (.iload_n 1, 1) := by decide +kernel
theorem dJ6_compare_7cf53_11 : decode cJ6_compare_7cf53 11 = .ok (.if_icmp .ne 7, 3) := by decide +kernel
theorem dJ6_compare_7cf53_14 : decode cJ6_compare_7cf53 14 = .ok (.iconst 0, 1) := by decide +kernel
theorem dJ6_compare_7cf53_15 : decode cJ6_compare_7cf53 15 = .ok (.goto 4, 3) := by decide +kernel
theorem dJ6_compare_7cf53_18 : decode cJ6_compare_7cf53 18 = .ok (.iconst 1, 1) := by decide +kernel
theorem dJ6_compare_7cf53_19 : decode cJ6_compare_7cf53 19 = .ok (.ireturn, 1) := by decide +kernel
theorem dJ6_bitCount_0f7a4_0 : decode cJ6_bitCount_0f7a4 0 = .ok (.iload_n 0, 1) := by decide +kernel
theorem dJ6_bitCount_0f7a4_1 : decode cJ6_bitCount_0f7a4 1 = .ok (.iload_n 0, 1) := by decide +kernel
theorem dJ6_bitCount_0f7a4_2 : decode cJ6_bitCount_0f7a4 2 = .ok (.iconst 1, 1) := by decide +kernel
theorem dJ6_bitCount_0f7a4_3 : decode cJ6_bitCount_0f7a4 3 = .ok (.iushr, 1) := by decide +kernel
theorem dJ6_bitCount_0f7a4_4 : decode cJ6_bitCount_0f7a4 4 = .ok (.ldc_w 265, 3) := by decide +kernel
theorem dJ6_bitCount_0f7a4_7 : decode cJ6_bitCount_0f7a4 7 = .ok (.iand, 1) := by decide +kernel
theorem dJ6_bitCount_0f7a4_8 : decode cJ6_bitCount_0f7a4 8 = .ok (.isub, 1) := by decide +kernel
theorem dJ6_bitCount_0f7a4_9 : decode cJ6_bitCount_0f7a4 9 = .ok (.istore_n 0, 1) := by decide +kernel
theorem dJ6_bitCount_0f7a4_10 : decode cJ6_bitCount_0f7a4 10 = .ok (.iload_n 0, 1) := by decide +kernel
theorem dJ6_bitCount_0f7a4_11 : decode cJ6_bitCount_0f7a4 11 = .ok (.ldc_w 266, 3) := by decide +kernel
theorem dJ6_bitCount_0f7a4_14 : decode cJ6_bitCount_0f7a4 14 = .ok (.iand, 1) := by decide +kernel
theorem dJ6_bitCount_0f7a4_15 : decode cJ6_bitCount_0f7a4 15 = .ok (.iload_n 0, 1) := by decide +kernel
theorem dJ6_bitCount_0f7a4_16 : decode cJ6_bitCount_0f7a4 16 = .ok (.iconst 2, 1) := by decide +kernel
theorem dJ6_bitCount_0f7a4_17 : decode cJ6_bitCount_0f7a4 17 = .ok (.iushr, 1) := by decide +kernel
theorem dJ6_bitCount_0f7a4_18 : decode cJ6_bitCount_0f7a4 18 = .ok (.ldc_w 266, 3) := by decide +kernel
theorem dJ6_bitCount_0f7a4_21 : decode cJ6_bitCount_0f7a4 21 = .ok (.iand, 1) := by decide +kernel
theorem dJ6_bitCount_0f7a4_22 : decode cJ6_bitCount_0f7a4 22 = .ok (.iadd, 1) := by decide +kernel
theorem dJ6_bitCount_0f7a4_23 : decode cJ6_bitCount_0f7a4 23 = .ok (.istore_n 0, 1) := by decide +kernel
theorem dJ6_bitCount_0f7a4_24 : decode cJ6_bitCount_0f7a4 24 = .ok (.iload_n 0, 1) := by decide +kernel
theorem dJ6_bitCount_0f7a4_25 : decode cJ6_bitCount_0f7a4 25 = .ok (.iload_n 0, 1) := by decide +kernel
theorem dJ6_bitCount_0f7a4_26 : decode cJ6_bitCount_0f7a4 26 = .ok (.iconst 4, 1) := by decide +kernel
theorem dJ6_bitCount_0f7a4_27 : decode cJ6_bitCount_0f7a4 27 = .ok (.iushr, 1) := by decide +kernel
theorem dJ6_bitCount_0f7a4_28 : decode cJ6_bitCount_0f7a4 28 = .ok (.iadd, 1) := by decide +kernel
theorem dJ6_bitCount_0f7a4_29 : decode cJ6_bitCount_0f7a4 29 = .ok (.ldc_w 267, 3) := by decide +kernel
theorem dJ6_bitCount_0f7a4_32 : decode cJ6_bitCount_0f7a4 32 = .ok (.iand, 1) := by decide +kernel
theorem dJ6_bitCount_0f7a4_33 : decode cJ6_bitCount_0f7a4 33 = .ok (.istore_n 0, 1) := by decide +kernel
theorem dJ6_bitCount_0f7a4_34 : decode cJ6_bitCount_0f7a4 34 = .ok (.iload_n 0, 1) := by decide +kernel
theorem dJ6_bitCount_0f7a4_35 : decode cJ6_bitCount_0f7a4 35 = .ok (.iload_n 0, 1) := by decide +kernel
theorem dJ6_bitCount_0f7a4_36 : decode cJ6_bitCount_0f7a4 36 = .ok (.bipush 8, 2) := by decide +kernel
theorem dJ6_bitCount_0f7a4_38 : decode cJ6_bitCount_0f7a4 38 = .ok (.iushr, 1) := by decide +kernel
theorem dJ6_bitCount_0f7a4_39 : decode cJ6_bitCount_0f7a4 39 = .ok (.iadd, 1) := by decide +kernel
theorem dJ6_bitCount_0f7a4_40 : decode cJ6_bitCount_0f7a4 40 = .ok (.istore_n 0, 1) := by decide +kernel
theorem dJ6_bitCount_0f7a4_41 : decode cJ6_bitCount_0f7a4 41 = .ok (.iload_n 0, 1) := by decide +kernel
theorem dJ6_bitCount_0f7a4_42 : decode cJ6_bitCount_0f7a4 42 = .ok (.iload_n 0, 1) := by decide +kernel
theorem dJ6_bitCount_0f7a4_43 : decode cJ6_bitCount_0f7a4 43 = .ok (.bipush 16, 2) := by decide +kernel
theorem dJ6_bitCount_0f7a4_45 : decode cJ6_bitCount_0f7a4 45 = .ok (.iushr, 1) := by decide +kernel
theorem dJ6_bitCount_0f7a4_46 : decode cJ6_bitCount_0f7a4 46 = .ok (.iadd, 1) := by decide +kernel
theorem dJ6_bitCount_0f7a4_47 : decode cJ6_bitCount_0f7a4 47 = .ok (.istore_n 0, 1) := by decide +kernel
theorem dJ6_bitCount_0f7a4_48 : decode cJ6_bitCount_0f7a4 48 = .ok (.iload_n 0, 1) := by decide +kernel
theorem dJ6_bitCount_0f7a4_49 : decode cJ6_bitCount_0f7a4 49 = .ok (.bipush 63, 2) := by decide +kernel
theorem dJ6_bitCount_0f7a4_51 : decode cJ6_bitCount_0f7a4 51 = .ok (.iand, 1) := by decide +kernel
theorem dJ6_bitCount_0f7a4_52 : decode cJ6_bitCount_0f7a4 52 = .ok (.ireturn, 1) := by decide +kernel
theorem dJ9_floorMod_7cf53_0 : decode cJ9_floorMod_7cf53 0 = .ok (.iload_n 0, 1) := by decide +kernel
theorem dJ9_floorMod_7cf53_1 : decode cJ9_floorMod_7cf53 1 = .ok (.iload_n 1, 1) := by decide +kernel
theorem dJ9_floorMod_7cf53_2 : decode cJ9_floorMod_7cf53 2 = .ok (.irem, 1) := by decide +kernel
theorem dJ9_floorMod_7cf53_3 : decode cJ9_floorMod_7cf53 3 = .ok (.istore_n 2, 1) := by decide +kernel
theorem dJ9_floorMod_7cf53_4 : decode cJ9_floorMod_7cf53 4 = .ok (.iload_n 0, 1) := by decide +kernel
theorem dJ9_floorMod_7cf53_5 : decode cJ9_floorMod_7cf53 5 = .ok (.iload_n 1, 1) := by decide +kernel
theorem dJ9_floorMod_7cf53_6 : decode cJ9_floorMod_7cf53 6 = .ok (.ixor, 1) := by decide +kernel
theorem dJ9_floorMod_7cf53_7 : decode cJ9_floorMod_7cf53 7 = .ok (.ifCond .ge 11, 3) := by decide +kernel
theorem dJ9_floorMod_7cf53_10 : decode cJ9_floorMod_7cf53 10 = .ok (.iload_n 2, 1) := by decide +kernel
theorem dJ9_floorMod_7cf53_11 : decode cJ9_floorMod_7cf53 11 = .ok (.ifCond .eq 7, 3) := by decide +kernel
theorem dJ9_floorMod_7cf53_14 : decode cJ9_floorMod_7cf53 14 = .ok (.iload_n 2, 1) := by decide +kernel
theorem dJ9_floorMod_7cf53_15 : decode cJ9_floorMod_7cf53 15 = .ok (.iload_n 1, 1) := by decide +kernel
theorem dJ9_floorMod_7cf53_16 : decode cJ9_floorMod_7cf53 16 = .ok (.iadd, 1) := by decide +kernel
theorem dJ9_floorMod_7cf53_17 : decode cJ9_floorMod_7cf53 17 = .ok (.ireturn, 1) := by decide +kernel
theorem dJ9_floorMod_7cf53_18 : decode cJ9_floorMod_7cf53 18 = .ok (.iload_n 2, 1) := by decide +kernel
theorem dJ9_floorMod_7cf53_19 : decode cJ9_floorMod_7cf53 19 = .ok (.ireturn, 1) := by decide +kernel
theorem dJ9_abs_0f7a4_0 : decode cJ9_abs_0f7a4 0 = .ok (.iload_n 0, 1) := by decide +kernel
theorem dJ9_abs_0f7a4_1 : decode cJ9_abs_0f7a4 1 = .ok (.ifCond .ge 8, 3) := by decide +kernel
theorem dJ9_abs_0f7a4_4 : decode cJ9_abs_0f7a4 4 = .ok (.iload_n 0, 1) := by decide +kernel
theorem dJ9_abs_0f7a4_5 : decode cJ9_abs_0f7a4 5 = .ok (.ineg, 1) := by decide +kernel
theorem dJ9_abs_0f7a4_6 : decode cJ9_abs_0f7a4 6 = .ok (.goto 4, 3) := by decide +kernel
theorem dJ9_abs_0f7a4_9 : decode cJ9_abs_0f7a4 9 = .ok (.iload_n 0, 1) := by decide +kernel
theorem dJ9_abs_0f7a4_10 : decode cJ9_abs_0f7a4 10 = .ok (.ireturn, 1) := by decide +kernel
theorem dJ9_max_7cf53_0 : decode cJ9_max_7cf53 0 = .ok (.iload_n 0, 1) := by decide +kernel
theorem dJ9_max_7cf53_1 : decode cJ9_max_7cf53 1 = .ok (.iload_n 1, 1) := by decide +kernel
theorem dJ9_max_7cf53_2 : decode cJ9_max_7cf53 2 = .ok (.if_icmp .lt 7, 3) := by decide +kernel
theorem dJ9_max_7cf53_5 : decode cJ9_max_7cf53 5 = .ok (.iload_n 0, 1) := by decide +kernel
theorem dJ9_max_7cf53_6 : decode cJ9_max_7cf53 6 = .ok (.goto 4, 3) := by decide +kernel
theorem dJ9_max_7cf53_9 : decode cJ9_max_7cf53 9 = .ok (.iload_n 1, 1) := by decide +kernel
theorem dJ9_max_7cf53_10 : decode cJ9_max_7cf53 10 = .ok (.ireturn, 1) := by decide +kernel
theorem dJ9_min_7cf53_0 : decode cJ9_min_7cf53 0 = .ok (.iload_n 0, 1) := by decide +kernel
theorem dJ9_min_7cf53_1 : decode cJ9_min_7cf53 1 = .ok (.iload_n 1, 1) := by decide +kernel
theorem dJ9_min_7cf53_2 : decode cJ9_min_7cf53 2 = .ok (.if_icmp .gt 7, 3) := by decide +kernel
theorem dJ9_min_7cf53_5 : decode cJ9_min_7cf53 5 = .ok (.iload_n 0, 1) := by decide +kernel
theorem dJ9_min_7cf53_6 : decode cJ9_min_7cf53 6 = .ok (.goto 4, 3) := by decide +kernel
theorem dJ9_min_7cf53_9 : decode cJ9_min_7cf53 9 = .ok (.iload_n 1, 1) := by decide +kernel
theorem dJ9_min_7cf53_10 : decode cJ9_min_7cf53 10 = .ok (.ireturn, 1) := by decide +kernel
theorem dX8_init_0 : decode cX8_init 0 = .ok (.aload_n 0, 1) := by decide +kernel
theorem dX8_init_1 : decode cX8_init 1 = .ok (.invokespecial 1, 3) := by decide +kernel
theorem dX8_init_4 : decode cX8_init 4 = .ok (.aload_n 0, 1) := by decide +kernel
theorem dX8_init_5 : decode cX8_init 5 = .ok (.new 7, 3) := by decide +kernel
theorem dX8_init_8 : decode cX8_init 8 = .ok (.dup, 1) := by decide +kernel
theorem dX8_init_9 : decode cX8_init 9 = .ok (.invokespecial 9, 3) := by decide +kernel
theorem dX8_init_12 : decode cX8_init 12 = .ok (.putfield 10, 3) := by decide +kernel
theorem dX8_init_15 : decode cX8_init 15 = .ok (.aload_n 0, 1) := by decide +kernel
theorem dX8_init_16 : decode cX8_init 16 = .ok (.new 16, 3) := by decide +kernel
theorem dX8_init_19 : decode cX8_init 19 = .ok (.dup, 1) := by decide +kernel
theorem dX8_init_20 : decode cX8_init 20 = .ok (.invokespecial 18, 3) := by decide +kernel
theorem dX8_init_23 : decode cX8_init 23 = .ok (.putfield 19, 3) := by decide +kernel
theorem dX8_init_26 : decode cX8_init 26 = .ok (.aload_n 0, 1) := by decide +kernel
theorem dX8_init_27 : decode cX8_init 27 = .ok (.iconst 2, 1) := by decide +kernel
theorem dX8_init_28 : decode cX8_init 28 = .ok (.anewarray 7, 3) := by decide +kernel
theorem dX8_init_31 : decode cX8_init 31 = .ok (.putfield 23, 3) := by decide +kernel
theorem dX8_init_34 : decode cX8_init 34 = .ok (.aload_n 0, 1) := by decide +kernel
theorem dX8_init_35 : decode cX8_init 35 = .ok (.new 27, 3) := by decide +kernel
theorem dX8_init_38 : decode cX8_init 38 = .ok (.dup, 1) := by decide +kernel
theorem dX8_init_39 : decode cX8_init 39 = .ok (.invokespecial 29, 3) := by decide +kernel
theorem dX8_init_42 : decode cX8_init 42 = .ok (.putfield 30, 3) := by decide +kernel
theorem dX8_init_45 : decode cX8_init 45 = .ok (.aload_n 0, 1) := by decide +kernel
theorem dX8_init_46 : decode cX8_init 46 = .ok (.bipush 6, 2) := by decide +kernel
theorem dX8_init_48 : decode cX8_init 48 = .ok (.newarray .int, 2) := by decide +kernel
theorem dX8_init_50 : decode cX8_init 50 = .ok (.putfield 34, 3) := by decide +kernel
theorem dX8_init_53 : decode cX8_init 53 = .ok (.aload_n 0, 1) := by decide +kernel
theorem dX8_init_54 : decode cX8_init 54 = .ok (.bipush 6, 2) := by decide +kernel
theorem dX8_init_56 : decode cX8_init 56 = .ok (.newarray .int, 2) := by decide +kernel
theorem dX8_init_58 : decode cX8_init 58 = .ok (.putfield 38, 3) := by decide +kernel
theorem dX8_init_61 : decode cX8_init 61 = .ok (.return_, 1) := by decide +kernel
theorem dX8_rates_0 : decode cX8_rates 0 = .ok (.iload_n 1, 1) := by decide +kernel
theorem dX8_rates_1 : decode cX8_rates 1 = .ok (.ifCond .lt 8, 3) := by decide +kernel
theorem dX8_rates_4 : decode cX8_rates 4 = .ok (.iload_n 1, 1) := by decide +kernel
theorem dX8_rates_5 : decode cX8_rates 5 = .ok (.iconst 4, 1) := by decide +kernel
theorem dX8_rates_6 : decode cX8_rates 6 = .ok (.if_icmp .lt 5, 3) := by decide +kernel
theorem dX8_rates_9 : decode cX8_rates 9 = .ok (.iconst (-1), 1) := by decide +kernel
theorem dX8_rates_10 : decode cX8_rates 10 = .ok (.ireturn, 1) := by decide +kernel
theorem dX8_rates_11 : decode cX8_rates 11 = .ok (.iload_n 1, 1) := by decide +kernel
theorem dX8_rates_12 : decode cX8_rates 12 = .ok (.aload_n 0, 1) := by decide +kernel
theorem dX8_rates_13 : decode cX8_rates 13 = .ok (.getfield 10, 3) := by decide +kernel
theorem dX8_rates_16 : decode cX8_rates 16 = .ok (.getfield 43, 3) := by decide +kernel
theorem dX8_rates_19 : decode cX8_rates 19 = .ok (.if_icmp .ne 6, 3) := by decide +kernel
theorem dX8_rates_22 : decode cX8_rates 22 = .ok (.bipush (-2), 2) := by decide +kernel
theorem dX8_rates_24 : decode cX8_rates 24 = .ok (.ireturn, 1) := by decide +kernel
theorem dX8_rates_25 : decode cX8_rates 25 = .ok (.aload_n 0, 1) := by decide +kernel
theorem dX8_rates_26 : decode cX8_rates 26 = .ok (.getfield 19, 3) := by decide +kernel
theorem dX8_rates_29 : decode cX8_rates 29 = .ok (.aload_n 0, 1) := by decide +kernel
theorem dX8_rates_30 : decode cX8_rates 30 = .ok (.getfield 10, 3) := by decide +kernel
theorem dX8_rates_33 : decode cX8_rates 33 = .ok (.invokevirtual 47, 3) := by decide +kernel
theorem dX8_rates_36 : decode cX8_rates 36 = .ok (.aload_n 0, 1) := by decide +kernel
theorem dX8_rates_37 : decode cX8_rates 37 = .ok (.getfield 10, 3) := by decide +kernel
theorem dX8_rates_40 : decode cX8_rates 40 = .ok (.getfield 43, 3) := by decide +kernel
theorem dX8_rates_43 : decode cX8_rates 43 = .ok (.istore_n 2, 1) := by decide +kernel
theorem dX8_rates_44 : decode cX8_rates 44 = .ok (.aload_n 0, 1) := by decide +kernel
theorem dX8_rates_45 : decode cX8_rates 45 = .ok (.getfield 10, 3) := by decide +kernel
theorem dX8_rates_48 : decode cX8_rates 48 = .ok (.iload_n 1, 1) := by decide +kernel
theorem dX8_rates_49 : decode cX8_rates 49 = .ok (.invokevirtual 51, 3) := by decide +kernel
theorem dX8_rates_52 : decode cX8_rates 52 = .ok (.iload_n 2, 1) := by decide +kernel
theorem dX8_rates_53 : decode cX8_rates 53 = .ok (.ireturn, 1) := by decide +kernel
theorem dX8_number_0 : decode cX8_number 0 = .ok (.aload_n 0, 1) := by decide +kernel
theorem dX8_number_1 : decode cX8_number 1 = .ok (.iload_n 1, 1) := by decide +kernel
theorem dX8_number_2 : decode cX8_number 2 = .ok (.invokevirtual 55, 3) := by decide +kernel
theorem dX8_number_5 : decode cX8_number 5 = .ok (.ifCond .eq 17, 3) := by decide +kernel
theorem dX8_number_8 : decode cX8_number 8 = .ok (.aload_n 0, 1) := by decide +kernel
theorem dX8_number_9 : decode cX8_number 9 = .ok (.getfield 10, 3) := by decide +kernel
theorem dX8_number_12 : decode cX8_number 12 = .ok (.getfield 43, 3) := by decide +kernel
theorem dX8_number_15 : decode cX8_number 15 = .ok (.iload_n 1, 1) := by decide +kernel
theorem dX8_number_16 : decode cX8_number 16 = .ok (.invokestatic 59, 3) := by decide +kernel
theorem dX8_number_19 : decode cX8_number 19 = .ok (.goto 4, 3) := by decide +kernel
theorem dX8_number_22 : decode cX8_number 22 = .ok (.iconst (-1), 1) := by decide +kernel
theorem dX8_number_23 : decode cX8_number 23 = .ok (.ireturn, 1) := by decide +kernel
theorem dX8_frame_0 : decode cX8_frame 0 = .ok (.iload_n 1, 1) := by decide +kernel
theorem dX8_frame_1 : decode cX8_frame 1 = .ok (.invokestatic 63, 3) := by decide +kernel
theorem dX8_frame_4 : decode cX8_frame 4 = .ok (.ifCond .eq 17, 3) := by decide +kernel
theorem dX8_frame_7 : decode cX8_frame 7 = .ok (.aload_n 0, 1) := by decide +kernel
theorem dX8_frame_8 : decode cX8_frame 8 = .ok (.getfield 10, 3) := by decide +kernel
theorem dX8_frame_11 : decode cX8_frame 11 = .ok (.getfield 43, 3) := by decide +kernel
theorem dX8_frame_14 : decode cX8_frame 14 = .ok (.iload_n 1, 1) := by decide +kernel
theorem dX8_frame_15 : decode cX8_frame 15 = .ok (.invokestatic 66, 3) := by decide +kernel
theorem dX8_frame_18 : decode cX8_frame 18 = .ok (.goto 4, 3) := by decide +kernel
theorem dX8_frame_21 : decode cX8_frame 21 = .ok (.iconst (-1), 1) := by decide +kernel
theorem dX8_frame_22 : decode cX8_frame 22 = .ok (.ireturn, 1) := by decide +kernel
theorem dX8_dropped_0 : decode cX8_dropped 0 = .ok (.aload_n 0, 1) := by decide +kernel
theorem dX8_dropped_1 : decode cX8_dropped 1 = .ok (.iload_n 1, 1) := by decide +kernel
theorem dX8_dropped_2 : decode cX8_dropped 2 = .ok (.invokevirtual 55, 3) := by decide +kernel
theorem dX8_dropped_5 : decode cX8_dropped 5 = .ok (.ifCond .eq 11, 3) := by decide +kernel
theorem dX8_dropped_8 : decode cX8_dropped 8 = .ok (.aload_n 0, 1) := by decide +kernel
theorem dX8_dropped_9 : decode cX8_dropped 9 = .ok (.iload_n 2, 1) := by decide +kernel
theorem dX8_dropped_10 : decode cX8_dropped 10 = .ok (.invokevirtual 55, 3) := by decide +kernel
theorem dX8_dropped_13 : decode cX8_dropped 13 = .ok (.ifCond .ne 5, 3) := by decide +kernel
theorem dX8_dropped_16 : decode cX8_dropped 16 = .ok (.iconst (-1), 1) := by decide +kernel
theorem dX8_dropped_17 : decode cX8_dropped 17 = .ok (.ireturn, 1) := by decide +kernel
theorem dX8_dropped_18 : decode cX8_dropped 18 = .ok (.aload_n 0, 1) := by decide +kernel
theorem dX8_dropped_19 : decode cX8_dropped 19 = .ok (.getfield 10, 3) := by decide +kernel
theorem dX8_dropped_22 : decode cX8_dropped 22 = .ok (.getfield 43, 3) := by decide +kernel
theorem dX8_dropped_25 : decode cX8_dropped 25 = .ok (.iload_n 2, 1) := by decide +kernel
theorem dX8_dropped_26 : decode cX8_dropped 26 = .ok (.invokestatic 69, 3) := by decide +kernel
theorem dX8_dropped_29 : decode cX8_dropped 29 = .ok (.aload_n 0, 1) := by decide +kernel
theorem dX8_dropped_30 : decode cX8_dropped 30 = .ok (.getfield 10, 3) := by decide +kernel
theorem dX8_dropped_33 : decode cX8_dropped 33 = .ok (.getfield 43, 3) := by decide +kernel
theorem dX8_dropped_36 : decode cX8_dropped 36 = .ok (.iload_n 1, 1) := by decide +kernel
theorem dX8_dropped_37 : decode cX8_dropped 37 = .ok (.invokestatic 69, 3) := by decide +kernel
theorem dX8_dropped_40 : decode cX8_dropped 40 = .ok (.isub, 1) := by decide +kernel
theorem dX8_dropped_41 : decode cX8_dropped 41 = .ok (.istore_n 3, 1) := by decide +kernel
theorem dX8_dropped_42 : decode cX8_dropped 42 = .ok (.iload_n 2, 1) := by decide +kernel
theorem dX8_dropped_43 : decode cX8_dropped 43 = .ok (.iload_n 1, 1) := by decide +kernel
theorem dX8_dropped_44 : decode cX8_dropped 44 = .ok (.if_icmp .ge 18, 3) := by decide +kernel
theorem dX8_dropped_47 : decode cX8_dropped 47 = .ok (.iload_n 3, 1) := by decide +kernel
theorem dX8_dropped_48 : decode cX8_dropped 48 = .ok (.aload_n 0, 1) := by decide +kernel
theorem dX8_dropped_49 : decode cX8_dropped 49 = .ok (.getfield 10, 3) := by decide +kernel
theorem dX8_dropped_52 : decode cX8_dropped 52 = .ok (.getfield 43, 3) := by decide +kernel
theorem dX8_dropped_55 : decode cX8_dropped 55 = .ok (.invokestatic 72, 3) := by decide +kernel
theorem dX8_dropped_58 : decode cX8_dropped 58 = .ok (.iadd, 1) := by decide +kernel
theorem dX8_dropped_59 : decode cX8_dropped 59 = .ok (.goto 4, 3) := by decide +kernel
theorem dX8_dropped_62 : decode cX8_dropped 62 = .ok (.iload_n 3, 1) := by decide +kernel
theorem dX8_dropped_63 : decode cX8_dropped 63 = .ok (.ireturn, 1) := by decide +kernel
theorem dX8_lays_0 : decode cX8_lays 0 = .ok (.aload_n 0, 1) := by decide +kernel
theorem dX8_lays_1 : decode cX8_lays 1 = .ok (.iload_n 1, 1) := by decide +kernel
theorem dX8_lays_2 : decode cX8_lays 2 = .ok (.invokevirtual 55, 3) := by decide +kernel
theorem dX8_lays_5 : decode cX8_lays 5 = .ok (.ifCond .eq 24, 3) := by decide +kernel
theorem dX8_lays_8 : decode cX8_lays 8 = .ok (.iload_n 2, 1) := by decide +kernel
theorem dX8_lays_9 : decode cX8_lays 9 = .ok (.iconst 1, 1) := by decide +kernel
theorem dX8_lays_10 : decode cX8_lays 10 = .ok (.if_icmp .lt 19, 3) := by decide +kernel
theorem dX8_lays_13 : decode cX8_lays 13 = .ok (.iload_n 2, 1) := by decide +kernel
theorem dX8_lays_14 : decode cX8_lays 14 = .ok (.bipush 40, 2) := by decide +kernel
theorem dX8_lays_16 : decode cX8_lays 16 = .ok (.if_icmp .gt 13, 3) := by decide +kernel
theorem dX8_lays_19 : decode cX8_lays 19 = .ok (.iload_n 3, 1) := by decide +kernel
theorem dX8_lays_20 : decode cX8_lays 20 = .ok (.ifCond .lt 9, 3) := by decide +kernel
theorem dX8_lays_23 : decode cX8_lays 23 = .ok (.iload_n 3, 1) := by decide +kernel
theorem dX8_lays_24 : decode cX8_lays 24 = .ok (.bipush 15, 2) := by decide +kernel
theorem dX8_lays_26 : decode cX8_lays 26 = .ok (.if_icmp .le 5, 3) := by decide +kernel
theorem dX8_lays_29 : decode cX8_lays 29 = .ok (.iconst (-1), 1) := by decide +kernel
theorem dX8_lays_30 : decode cX8_lays 30 = .ok (.ireturn, 1) := by decide +kernel
theorem dX8_lays_31 : decode cX8_lays 31 = .ok (.aload_n 0, 1) := by decide +kernel
theorem dX8_lays_32 : decode cX8_lays 32 = .ok (.getfield 10, 3) := by decide +kernel
theorem dX8_lays_35 : decode cX8_lays 35 = .ok (.getfield 78, 3) := by decide +kernel
theorem dX8_lays_38 : decode cX8_lays 38 = .ok (.getfield 82, 3) := by decide +kernel
theorem dX8_lays_41 : decode cX8_lays 41 = .ok (.bipush 6, 2) := by decide +kernel
theorem dX8_lays_43 : decode cX8_lays 43 = .ok (.if_icmp .lt 6, 3) := by decide +kernel
theorem dX8_lays_46 : decode cX8_lays 46 = .ok (.bipush (-3), 2) := by decide +kernel
theorem dX8_lays_48 : decode cX8_lays 48 = .ok (.ireturn, 1) := by decide +kernel
theorem dX8_lays_49 : decode cX8_lays 49 = .ok (.aload_n 0, 1) := by decide +kernel
theorem dX8_lays_50 : decode cX8_lays 50 = .ok (.getfield 19, 3) := by decide +kernel
theorem dX8_lays_53 : decode cX8_lays 53 = .ok (.aload_n 0, 1) := by decide +kernel
theorem dX8_lays_54 : decode cX8_lays 54 = .ok (.getfield 10, 3) := by decide +kernel
theorem dX8_lays_57 : decode cX8_lays 57 = .ok (.invokevirtual 47, 3) := by decide +kernel
theorem dX8_lays_60 : decode cX8_lays 60 = .ok (.aload_n 0, 1) := by decide +kernel
theorem dX8_lays_61 : decode cX8_lays 61 = .ok (.getfield 10, 3) := by decide +kernel
theorem dX8_lays_64 : decode cX8_lays 64 = .ok (.getfield 78, 3) := by decide +kernel
theorem dX8_lays_67 : decode cX8_lays 67 = .ok (.iload_n 1, 1) := by decide +kernel
theorem dX8_lays_68 : decode cX8_lays 68 = .ok (.iload_n 2, 1) := by decide +kernel
theorem dX8_lays_69 : decode cX8_lays 69 = .ok (.iload_n 3, 1) := by decide +kernel
theorem dX8_lays_70 : decode cX8_lays 70 = .ok (.invokevirtual 85, 3) := by decide +kernel
theorem dX8_lays_73 : decode cX8_lays 73 = .ok (.aload_n 0, 1) := by decide +kernel
theorem dX8_lays_74 : decode cX8_lays 74 = .ok (.getfield 10, 3) := by decide +kernel
theorem dX8_lays_77 : decode cX8_lays 77 = .ok (.getfield 78, 3) := by decide +kernel
theorem dX8_lays_80 : decode cX8_lays 80 = .ok (.getfield 82, 3) := by decide +kernel
theorem dX8_lays_83 : decode cX8_lays 83 = .ok (.ireturn, 1) := by decide +kernel
theorem dX8_winds_0 : decode cX8_winds 0 = .ok (.iload_n 1, 1) := by decide +kernel
theorem dX8_winds_1 : decode cX8_winds 1 = .ok (.ifCond .lt 17, 3) := by decide +kernel
theorem dX8_winds_4 : decode cX8_winds 4 = .ok (.iload_n 1, 1) := by decide +kernel
theorem dX8_winds_5 : decode cX8_winds 5 = .ok (.aload_n 0, 1) := by decide +kernel
theorem dX8_winds_6 : decode cX8_winds 6 = .ok (.getfield 10, 3) := by decide +kernel
theorem dX8_winds_9 : decode cX8_winds 9 = .ok (.getfield 78, 3) := by decide +kernel
theorem dX8_winds_12 : decode cX8_winds 12 = .ok (.invokevirtual 89, 3) := by decide +kernel
theorem dX8_winds_15 : decode cX8_winds 15 = .ok (.if_icmp .le 5, 3) := by decide +kernel
theorem dX8_winds_18 : decode cX8_winds 18 = .ok (.iconst (-1), 1) := by decide +kernel
theorem dX8_winds_19 : decode cX8_winds 19 = .ok (.ireturn, 1) := by decide +kernel
theorem dX8_winds_20 : decode cX8_winds 20 = .ok (.iload_n 1, 1) := by decide +kernel
theorem dX8_winds_21 : decode cX8_winds 21 = .ok (.aload_n 0, 1) := by decide +kernel
theorem dX8_winds_22 : decode cX8_winds 22 = .ok (.getfield 10, 3) := by decide +kernel
theorem dX8_winds_25 : decode cX8_winds 25 = .ok (.getfield 78, 3) := by decide +kernel
theorem dX8_winds_28 : decode cX8_winds 28 = .ok (.getfield 93, 3) := by decide +kernel
theorem dX8_winds_31 : decode cX8_winds 31 = .ok (.if_icmp .ne 6, 3) := by decide +kernel
theorem dX8_winds_34 : decode cX8_winds 34 = .ok (.bipush (-2), 2) := by decide +kernel
theorem dX8_winds_36 : decode cX8_winds 36 = .ok (.ireturn, 1) := by decide +kernel
theorem dX8_winds_37 : decode cX8_winds 37 = .ok (.aload_n 0, 1) := by decide +kernel
theorem dX8_winds_38 : decode cX8_winds 38 = .ok (.getfield 19, 3) := by decide +kernel
theorem dX8_winds_41 : decode cX8_winds 41 = .ok (.aload_n 0, 1) := by decide +kernel
theorem dX8_winds_42 : decode cX8_winds 42 = .ok (.getfield 10, 3) := by decide +kernel
theorem dX8_winds_45 : decode cX8_winds 45 = .ok (.invokevirtual 47, 3) := by decide +kernel
theorem dX8_winds_48 : decode cX8_winds 48 = .ok (.aload_n 0, 1) := by decide +kernel
theorem dX8_winds_49 : decode cX8_winds 49 = .ok (.getfield 10, 3) := by decide +kernel
theorem dX8_winds_52 : decode cX8_winds 52 = .ok (.getfield 78, 3) := by decide +kernel
theorem dX8_winds_55 : decode cX8_winds 55 = .ok (.getfield 93, 3) := by decide +kernel
theorem dX8_winds_58 : decode cX8_winds 58 = .ok (.istore_n 2, 1) := by decide +kernel
theorem dX8_winds_59 : decode cX8_winds 59 = .ok (.aload_n 0, 1) := by decide +kernel
theorem dX8_winds_60 : decode cX8_winds 60 = .ok (.getfield 10, 3) := by decide +kernel
theorem dX8_winds_63 : decode cX8_winds 63 = .ok (.getfield 78, 3) := by decide +kernel
theorem dX8_winds_66 : decode cX8_winds 66 = .ok (.iload_n 1, 1) := by decide +kernel
theorem dX8_winds_67 : decode cX8_winds 67 = .ok (.putfield 93, 3) := by decide +kernel
theorem dX8_winds_70 : decode cX8_winds 70 = .ok (.iload_n 2, 1) := by decide +kernel
theorem dX8_winds_71 : decode cX8_winds 71 = .ok (.ireturn, 1) := by decide +kernel
theorem dX8_bit_0 : decode cX8_bit 0 = .ok (.iload_n 1, 1) := by decide +kernel
theorem dX8_bit_1 : decode cX8_bit 1 = .ok (.ifCond .lt 17, 3) := by decide +kernel
theorem dX8_bit_4 : decode cX8_bit 4 = .ok (.iload_n 1, 1) := by decide +kernel
theorem dX8_bit_5 : decode cX8_bit 5 = .ok (.aload_n 0, 1) := by decide +kernel
theorem dX8_bit_6 : decode cX8_bit 6 = .ok (.getfield 10, 3) := by decide +kernel
theorem dX8_bit_9 : decode cX8_bit 9 = .ok (.getfield 78, 3) := by decide +kernel
theorem dX8_bit_12 : decode cX8_bit 12 = .ok (.invokevirtual 89, 3) := by decide +kernel
theorem dX8_bit_15 : decode cX8_bit 15 = .ok (.if_icmp .lt 5, 3) := by decide +kernel
theorem dX8_bit_18 : decode cX8_bit 18 = .ok (.iconst (-1), 1) := by decide +kernel
theorem dX8_bit_19 : decode cX8_bit 19 = .ok (.ireturn, 1) := by decide +kernel
theorem dX8_bit_20 : decode cX8_bit 20 = .ok (.aload_n 0, 1) := by decide +kernel
theorem dX8_bit_21 : decode cX8_bit 21 = .ok (.getfield 10, 3) := by decide +kernel
theorem dX8_bit_24 : decode cX8_bit 24 = .ok (.getfield 78, 3) := by decide +kernel
theorem dX8_bit_27 : decode cX8_bit 27 = .ok (.iload_n 1, 1) := by decide +kernel
theorem dX8_bit_28 : decode cX8_bit 28 = .ok (.bipush 48, 2) := by decide +kernel
theorem dX8_bit_30 : decode cX8_bit 30 = .ok (.idiv, 1) := by decide +kernel
theorem dX8_bit_31 : decode cX8_bit 31 = .ok (.aload_n 0, 1) := by decide +kernel
theorem dX8_bit_32 : decode cX8_bit 32 = .ok (.getfield 10, 3) := by decide +kernel
theorem dX8_bit_35 : decode cX8_bit 35 = .ok (.getfield 43, 3) := by decide +kernel
theorem dX8_bit_38 : decode cX8_bit 38 = .ok (.invokevirtual 98, 3) := by decide +kernel
theorem dX8_bit_41 : decode cX8_bit 41 = .ok (.iload_n 1, 1) := by decide +kernel
theorem dX8_bit_42 : decode cX8_bit 42 = .ok (.bipush 48, 2) := by decide +kernel
theorem dX8_bit_44 : decode cX8_bit 44 = .ok (.irem, 1) := by decide +kernel
theorem dX8_bit_45 : decode cX8_bit 45 = .ok (.invokestatic 102, 3) := by decide +kernel
theorem dX8_bit_48 : decode cX8_bit 48 = .ok (.ireturn, 1) := by decide +kernel
theorem dX8_plays_0 : decode cX8_plays 0 = .ok (.iload_n 1, 1) := by decide +kernel
theorem dX8_plays_1 : decode cX8_plays 1 = .ok (.iconst 1, 1) := by decide +kernel
theorem dX8_plays_2 : decode cX8_plays 2 = .ok (.if_icmp .lt 43, 3) := by decide +kernel
theorem dX8_plays_5 : decode cX8_plays 5 = .ok (.iload_n 1, 1) := by decide +kernel
theorem dX8_plays_6 : decode cX8_plays 6 = .ok (.sipush 4800, 3) := by decide +kernel
theorem dX8_plays_9 : decode cX8_plays 9 = .ok (.if_icmp .gt 36, 3) := by decide +kernel
theorem dX8_plays_12 : decode cX8_plays 12 = .ok (.iload_n 2, 1) := by decide +kernel
theorem dX8_plays_13 : decode cX8_plays 13 = .ok (.iconst 1, 1) := by decide +kernel
theorem dX8_plays_14 : decode cX8_plays 14 = .ok (.if_icmp .lt 31, 3) := by decide +kernel
theorem dX8_plays_17 : decode cX8_plays 17 = .ok (.iload_n 2, 1) := by decide +kernel
theorem dX8_plays_18 : decode cX8_plays 18 = .ok (.sipush 200, 3) := by decide +kernel
theorem dX8_plays_21 : decode cX8_plays 21 = .ok (.if_icmp .gt 24, 3) := by decide +kernel
theorem dX8_plays_24 : decode cX8_plays 24 = .ok (.iload_n 3, 1) := by decide +kernel
theorem dX8_plays_25 : decode cX8_plays 25 = .ok (.ifCond .lt 20, 3) := by decide +kernel
theorem dX8_plays_28 : decode cX8_plays 28 = .ok (.iload_n 3, 1) := by decide +kernel
theorem dX8_plays_29 : decode cX8_plays 29 = .ok (.bipush 9, 2) := by decide +kernel
theorem dX8_plays_31 : decode cX8_plays 31 = .ok (.if_icmp .gt 14, 3) := by decide +kernel
theorem dX8_plays_34 : decode cX8_plays 34 = .ok (.iload 4, 2) := by decide +kernel
theorem dX8_plays_36 : decode cX8_plays 36 = .ok (.ifCond .lt 9, 3) := by decide +kernel
theorem dX8_plays_39 : decode cX8_plays 39 = .ok (.iload 4, 2) := by decide +kernel
theorem dX8_plays_41 : decode cX8_plays 41 = .ok (.iconst 1, 1) := by decide +kernel
theorem dX8_plays_42 : decode cX8_plays 42 = .ok (.if_icmp .le 5, 3) := by decide +kernel
theorem dX8_plays_45 : decode cX8_plays 45 = .ok (.iconst (-1), 1) := by decide +kernel
theorem dX8_plays_46 : decode cX8_plays 46 = .ok (.ireturn, 1) := by decide +kernel
theorem dX8_plays_47 : decode cX8_plays 47 = .ok (.iload 4, 2) := by decide +kernel
theorem dX8_plays_49 : decode cX8_plays 49 = .ok (.iconst 1, 1) := by decide +kernel
theorem dX8_plays_50 : decode cX8_plays 50 = .ok (.if_icmp .ne 16, 3) := by decide +kernel
theorem dX8_plays_53 : decode cX8_plays 53 = .ok (.aload_n 0, 1) := by decide +kernel
theorem dX8_plays_54 : decode cX8_plays 54 = .ok (.getfield 10, 3) := by decide +kernel
theorem dX8_plays_57 : decode cX8_plays 57 = .ok (.getfield 78, 3) := by decide +kernel
theorem dX8_plays_60 : decode cX8_plays 60 = .ok (.getfield 93, 3) := by decide +kernel
theorem dX8_plays_63 : decode cX8_plays 63 = .ok (.goto 24, 3) := by decide +kernel
theorem dX8_plays_66 : decode cX8_plays 66 = .ok (.aload_n 0, 1) := by decide +kernel
theorem dX8_plays_67 : decode cX8_plays 67 = .ok (.getfield 10, 3) := by decide +kernel
theorem dX8_plays_70 : decode cX8_plays 70 = .ok (.getfield 78, 3) := by decide +kernel
theorem dX8_plays_73 : decode cX8_plays 73 = .ok (.invokevirtual 89, 3) := by decide +kernel
theorem dX8_plays_76 : decode cX8_plays 76 = .ok (.aload_n 0, 1) := by decide +kernel
theorem dX8_plays_77 : decode cX8_plays 77 = .ok (.getfield 10, 3) := by decide +kernel
theorem dX8_plays_80 : decode cX8_plays 80 = .ok (.getfield 78, 3) := by decide +kernel
theorem dX8_plays_83 : decode cX8_plays 83 = .ok (.getfield 93, 3) := by decide +kernel
theorem dX8_plays_86 : decode cX8_plays 86 = .ok (.isub, 1) := by decide +kernel
theorem dX8_plays_87 : decode cX8_plays 87 = .ok (.istore 5, 2) := by decide +kernel
theorem dX8_plays_89 : decode cX8_plays 89 = .ok (.iload 5, 2) := by decide +kernel
theorem dX8_plays_91 : decode cX8_plays 91 = .ok (.iconst 1, 1) := by decide +kernel
theorem dX8_plays_92 : decode cX8_plays 92 = .ok (.if_icmp .ge 6, 3) := by decide +kernel
theorem dX8_plays_95 : decode cX8_plays 95 = .ok (.bipush (-2), 2) := by decide +kernel
theorem dX8_plays_97 : decode cX8_plays 97 = .ok (.ireturn, 1) := by decide +kernel
theorem dX8_plays_98 : decode cX8_plays 98 = .ok (.aload_n 0, 1) := by decide +kernel
theorem dX8_plays_99 : decode cX8_plays 99 = .ok (.getfield 19, 3) := by decide +kernel
theorem dX8_plays_102 : decode cX8_plays 102 = .ok (.aload_n 0, 1) := by decide +kernel
theorem dX8_plays_103 : decode cX8_plays 103 = .ok (.getfield 10, 3) := by decide +kernel
theorem dX8_plays_106 : decode cX8_plays 106 = .ok (.invokevirtual 47, 3) := by decide +kernel
theorem dX8_plays_109 : decode cX8_plays 109 = .ok (.iload_n 1, 1) := by decide +kernel
theorem dX8_plays_110 : decode cX8_plays 110 = .ok (.iload 5, 2) := by decide +kernel
theorem dX8_plays_112 : decode cX8_plays 112 = .ok (.invokestatic 106, 3) := by decide +kernel
theorem dX8_plays_115 : decode cX8_plays 115 = .ok (.istore 6, 2) := by decide +kernel
theorem dX8_plays_117 : decode cX8_plays 117 = .ok (.aload_n 0, 1) := by decide +kernel
theorem dX8_plays_118 : decode cX8_plays 118 = .ok (.getfield 10, 3) := by decide +kernel
theorem dX8_plays_121 : decode cX8_plays 121 = .ok (.iload 6, 2) := by decide +kernel
theorem dX8_plays_123 : decode cX8_plays 123 = .ok (.iload_n 2, 1) := by decide +kernel
theorem dX8_plays_124 : decode cX8_plays 124 = .ok (.iload_n 3, 1) := by decide +kernel
theorem dX8_plays_125 : decode cX8_plays 125 = .ok (.iload 4, 2) := by decide +kernel
theorem dX8_plays_127 : decode cX8_plays 127 = .ok (.iconst 1, 1) := by decide +kernel
theorem dX8_plays_128 : decode cX8_plays 128 = .ok (.if_icmp .ne 7, 3) := by decide +kernel
theorem dX8_plays_131 : decode cX8_plays 131 = .ok (.iconst 1, 1) := by decide +kernel
theorem dX8_plays_132 : decode cX8_plays 132 = .ok (.goto 4, 3) := by decide +kernel
theorem dX8_plays_135 : decode cX8_plays 135 = .ok (.iconst 0, 1) := by decide +kernel
theorem dX8_plays_136 : decode cX8_plays 136 = .ok (.invokevirtual 111, 3) := by decide +kernel
theorem dX8_plays_139 : decode cX8_plays 139 = .ok (.iload 6, 2) := by decide +kernel
theorem dX8_plays_141 : decode cX8_plays 141 = .ok (.ireturn, 1) := by decide +kernel
theorem dX8_edge_0 : decode cX8_edge 0 = .ok (.iload_n 1, 1) := by decide +kernel
theorem dX8_edge_1 : decode cX8_edge 1 = .ok (.iconst 1, 1) := by decide +kernel
theorem dX8_edge_2 : decode cX8_edge 2 = .ok (.if_icmp .lt 10, 3) := by decide +kernel
theorem dX8_edge_5 : decode cX8_edge 5 = .ok (.iload_n 1, 1) := by decide +kernel
theorem dX8_edge_6 : decode cX8_edge 6 = .ok (.sipush 9999, 3) := by decide +kernel
theorem dX8_edge_9 : decode cX8_edge 9 = .ok (.if_icmp .le 5, 3) := by decide +kernel
theorem dX8_edge_12 : decode cX8_edge 12 = .ok (.iconst (-1), 1) := by decide +kernel
theorem dX8_edge_13 : decode cX8_edge 13 = .ok (.ireturn, 1) := by decide +kernel
theorem dX8_edge_14 : decode cX8_edge 14 = .ok (.aload_n 0, 1) := by decide +kernel
theorem dX8_edge_15 : decode cX8_edge 15 = .ok (.getfield 19, 3) := by decide +kernel
theorem dX8_edge_18 : decode cX8_edge 18 = .ok (.aload_n 0, 1) := by decide +kernel
theorem dX8_edge_19 : decode cX8_edge 19 = .ok (.getfield 10, 3) := by decide +kernel
theorem dX8_edge_22 : decode cX8_edge 22 = .ok (.invokevirtual 47, 3) := by decide +kernel
theorem dX8_edge_25 : decode cX8_edge 25 = .ok (.aload_n 0, 1) := by decide +kernel
theorem dX8_edge_26 : decode cX8_edge 26 = .ok (.getfield 10, 3) := by decide +kernel
theorem dX8_edge_29 : decode cX8_edge 29 = .ok (.iload_n 1, 1) := by decide +kernel
theorem dX8_edge_30 : decode cX8_edge 30 = .ok (.invokevirtual 115, 3) := by decide +kernel
theorem dX8_edge_33 : decode cX8_edge 33 = .ok (.aload_n 0, 1) := by decide +kernel
theorem dX8_edge_34 : decode cX8_edge 34 = .ok (.getfield 10, 3) := by decide +kernel
theorem dX8_edge_37 : decode cX8_edge 37 = .ok (.getfield 118, 3) := by decide +kernel
theorem dX8_edge_40 : decode cX8_edge 40 = .ok (.getfield 122, 3) := by decide +kernel
theorem dX8_edge_43 : decode cX8_edge 43 = .ok (.ireturn, 1) := by decide +kernel
theorem dX8_begins_0 : decode cX8_begins 0 = .ok (.aload_n 0, 1) := by decide +kernel
theorem dX8_begins_1 : decode cX8_begins 1 = .ok (.getfield 19, 3) := by decide +kernel
theorem dX8_begins_4 : decode cX8_begins 4 = .ok (.aload_n 0, 1) := by decide +kernel
theorem dX8_begins_5 : decode cX8_begins 5 = .ok (.getfield 10, 3) := by decide +kernel
theorem dX8_begins_8 : decode cX8_begins 8 = .ok (.invokevirtual 47, 3) := by decide +kernel
theorem dX8_begins_11 : decode cX8_begins 11 = .ok (.aload_n 0, 1) := by decide +kernel
theorem dX8_begins_12 : decode cX8_begins 12 = .ok (.getfield 10, 3) := by decide +kernel
theorem dX8_begins_15 : decode cX8_begins 15 = .ok (.getfield 118, 3) := by decide +kernel
theorem dX8_begins_18 : decode cX8_begins 18 = .ok (.getfield 127, 3) := by decide +kernel
theorem dX8_begins_21 : decode cX8_begins 21 = .ok (.istore_n 1, 1) := by decide +kernel
theorem dX8_begins_22 : decode cX8_begins 22 = .ok (.aload_n 0, 1) := by decide +kernel
theorem dX8_begins_23 : decode cX8_begins 23 = .ok (.getfield 10, 3) := by decide +kernel
theorem dX8_begins_26 : decode cX8_begins 26 = .ok (.getfield 118, 3) := by decide +kernel
theorem dX8_begins_29 : decode cX8_begins 29 = .ok (.invokevirtual 130, 3) := by decide +kernel
theorem dX8_begins_32 : decode cX8_begins 32 = .ok (.iload_n 1, 1) := by decide +kernel
theorem dX8_begins_33 : decode cX8_begins 33 = .ok (.ireturn, 1) := by decide +kernel
theorem dX8_reader_0 : decode cX8_reader 0 = .ok (.aload_n 0, 1) := by decide +kernel
theorem dX8_reader_1 : decode cX8_reader 1 = .ok (.getfield 10, 3) := by decide +kernel
theorem dX8_reader_4 : decode cX8_reader 4 = .ok (.getfield 118, 3) := by decide +kernel
theorem dX8_reader_7 : decode cX8_reader 7 = .ok (.astore_n 2, 1) := by decide +kernel
theorem dX8_reader_8 : decode cX8_reader 8 = .ok (.iload_n 1, 1) := by decide +kernel
theorem dX8_reader_9 : decode cX8_reader 9 = .ok (.tableswitch 87 0 7 #[47, 52, 57, 62, 67, 72, 77, 82], 47) := by decide +kernel
theorem dX8_reader_56 : decode cX8_reader 56 = .ok (.aload_n 2, 1) := by decide +kernel
theorem dX8_reader_57 : decode cX8_reader 57 = .ok (.getfield 133, 3) := by decide +kernel
theorem dX8_reader_60 : decode cX8_reader 60 = .ok (.ireturn, 1) := by decide +kernel
theorem dX8_reader_61 : decode cX8_reader 61 = .ok (.aload_n 2, 1) := by decide +kernel
theorem dX8_reader_62 : decode cX8_reader 62 = .ok (.getfield 136, 3) := by decide +kernel
theorem dX8_reader_65 : decode cX8_reader 65 = .ok (.ireturn, 1) := by decide +kernel
theorem dX8_reader_66 : decode cX8_reader 66 = .ok (.aload_n 2, 1) := by decide +kernel
theorem dX8_reader_67 : decode cX8_reader 67 = .ok (.getfield 122, 3) := by decide +kernel
theorem dX8_reader_70 : decode cX8_reader 70 = .ok (.ireturn, 1) := by decide +kernel
theorem dX8_reader_71 : decode cX8_reader 71 = .ok (.aload_n 2, 1) := by decide +kernel
theorem dX8_reader_72 : decode cX8_reader 72 = .ok (.getfield 127, 3) := by decide +kernel
theorem dX8_reader_75 : decode cX8_reader 75 = .ok (.ireturn, 1) := by decide +kernel
theorem dX8_reader_76 : decode cX8_reader 76 = .ok (.aload_n 2, 1) := by decide +kernel
theorem dX8_reader_77 : decode cX8_reader 77 = .ok (.getfield 139, 3) := by decide +kernel
theorem dX8_reader_80 : decode cX8_reader 80 = .ok (.ireturn, 1) := by decide +kernel
theorem dX8_reader_81 : decode cX8_reader 81 = .ok (.aload_n 2, 1) := by decide +kernel
theorem dX8_reader_82 : decode cX8_reader 82 = .ok (.getfield 142, 3) := by decide +kernel
theorem dX8_reader_85 : decode cX8_reader 85 = .ok (.ireturn, 1) := by decide +kernel
theorem dX8_reader_86 : decode cX8_reader 86 = .ok (.aload_n 2, 1) := by decide +kernel
theorem dX8_reader_87 : decode cX8_reader 87 = .ok (.getfield 145, 3) := by decide +kernel
theorem dX8_reader_90 : decode cX8_reader 90 = .ok (.ireturn, 1) := by decide +kernel
theorem dX8_reader_91 : decode cX8_reader 91 = .ok (.aload_n 2, 1) := by decide +kernel
theorem dX8_reader_92 : decode cX8_reader 92 = .ok (.getfield 148, 3) := by decide +kernel
theorem dX8_reader_95 : decode cX8_reader 95 = .ok (.ireturn, 1) := by decide +kernel
theorem dX8_reader_96 : decode cX8_reader 96 = .ok (.iconst (-1), 1) := by decide +kernel
theorem dX8_reader_97 : decode cX8_reader 97 = .ok (.ireturn, 1) := by decide +kernel
theorem dX8_reading_0 : decode cX8_reading 0 = .ok (.aload_n 0, 1) := by decide +kernel
theorem dX8_reading_1 : decode cX8_reading 1 = .ok (.getfield 10, 3) := by decide +kernel
theorem dX8_reading_4 : decode cX8_reading 4 = .ok (.getfield 118, 3) := by decide +kernel
theorem dX8_reading_7 : decode cX8_reading 7 = .ok (.astore_n 2, 1) := by decide +kernel
theorem dX8_reading_8 : decode cX8_reading 8 = .ok (.iload_n 1, 1) := by decide +kernel
theorem dX8_reading_9 : decode cX8_reading 9 = .ok (.ifCond .lt 8, 3) := by decide +kernel
theorem dX8_reading_12 : decode cX8_reading 12 = .ok (.iload_n 1, 1) := by decide +kernel
theorem dX8_reading_13 : decode cX8_reading 13 = .ok (.iconst 3, 1) := by decide +kernel
theorem dX8_reading_14 : decode cX8_reading 14 = .ok (.if_icmp .le 6, 3) := by decide +kernel
theorem dX8_reading_17 : decode cX8_reading 17 = .ok (.ldc 151, 2) := by decide +kernel
theorem dX8_reading_19 : decode cX8_reading 19 = .ok (.ireturn, 1) := by decide +kernel
theorem dX8_reading_20 : decode cX8_reading 20 = .ok (.aload_n 2, 1) := by decide +kernel
theorem dX8_reading_21 : decode cX8_reading 21 = .ok (.invokevirtual 152, 3) := by decide +kernel
theorem dX8_reading_24 : decode cX8_reading 24 = .ok (.ifCond .ne 6, 3) := by decide +kernel
theorem dX8_reading_27 : decode cX8_reading 27 = .ok (.bipush (-9), 2) := by decide +kernel
theorem dX8_reading_29 : decode cX8_reading 29 = .ok (.ireturn, 1) := by decide +kernel
theorem dX8_reading_30 : decode cX8_reading 30 = .ok (.iload_n 1, 1) := by decide +kernel
theorem dX8_reading_31 : decode cX8_reading 31 = .ok (.tableswitch 40 0 2 #[25, 30, 35], 25) := by decide +kernel
theorem dX8_reading_56 : decode cX8_reading 56 = .ok (.aload_n 2, 1) := by decide +kernel
theorem dX8_reading_57 : decode cX8_reading 57 = .ok (.getfield 156, 3) := by decide +kernel
theorem dX8_reading_60 : decode cX8_reading 60 = .ok (.ireturn, 1) := by decide +kernel
theorem dX8_reading_61 : decode cX8_reading 61 = .ok (.aload_n 2, 1) := by decide +kernel
theorem dX8_reading_62 : decode cX8_reading 62 = .ok (.getfield 159, 3) := by decide +kernel
theorem dX8_reading_65 : decode cX8_reading 65 = .ok (.ireturn, 1) := by decide +kernel
theorem dX8_reading_66 : decode cX8_reading 66 = .ok (.aload_n 2, 1) := by decide +kernel
theorem dX8_reading_67 : decode cX8_reading 67 = .ok (.getfield 162, 3) := by decide +kernel
theorem dX8_reading_70 : decode cX8_reading 70 = .ok (.ireturn, 1) := by decide +kernel
theorem dX8_reading_71 : decode cX8_reading 71 = .ok (.aload_n 2, 1) := by decide +kernel
theorem dX8_reading_72 : decode cX8_reading 72 = .ok (.getfield 165, 3) := by decide +kernel
theorem dX8_reading_75 : decode cX8_reading 75 = .ok (.ireturn, 1) := by decide +kernel
theorem dX8_misses_0 : decode cX8_misses 0 = .ok (.aload_n 0, 1) := by decide +kernel
theorem dX8_misses_1 : decode cX8_misses 1 = .ok (.getfield 19, 3) := by decide +kernel
theorem dX8_misses_4 : decode cX8_misses 4 = .ok (.aload_n 0, 1) := by decide +kernel
theorem dX8_misses_5 : decode cX8_misses 5 = .ok (.getfield 10, 3) := by decide +kernel
theorem dX8_misses_8 : decode cX8_misses 8 = .ok (.invokevirtual 47, 3) := by decide +kernel
theorem dX8_misses_11 : decode cX8_misses 11 = .ok (.aload_n 0, 1) := by decide +kernel
theorem dX8_misses_12 : decode cX8_misses 12 = .ok (.getfield 10, 3) := by decide +kernel
theorem dX8_misses_15 : decode cX8_misses 15 = .ok (.invokevirtual 168, 3) := by decide +kernel
theorem dX8_misses_18 : decode cX8_misses 18 = .ok (.aload_n 0, 1) := by decide +kernel
theorem dX8_misses_19 : decode cX8_misses 19 = .ok (.getfield 10, 3) := by decide +kernel
theorem dX8_misses_22 : decode cX8_misses 22 = .ok (.getfield 171, 3) := by decide +kernel
theorem dX8_misses_25 : decode cX8_misses 25 = .ok (.getfield 175, 3) := by decide +kernel
theorem dX8_misses_28 : decode cX8_misses 28 = .ok (.ireturn, 1) := by decide +kernel
theorem dX8_holds_0 : decode cX8_holds 0 = .ok (.iload_n 1, 1) := by decide +kernel
theorem dX8_holds_1 : decode cX8_holds 1 = .ok (.ifCond .lt 9, 3) := by decide +kernel
theorem dX8_holds_4 : decode cX8_holds 4 = .ok (.iload_n 1, 1) := by decide +kernel
theorem dX8_holds_5 : decode cX8_holds 5 = .ok (.bipush 99, 2) := by decide +kernel
theorem dX8_holds_7 : decode cX8_holds 7 = .ok (.if_icmp .le 5, 3) := by decide +kernel
theorem dX8_holds_10 : decode cX8_holds 10 = .ok (.iconst (-1), 1) := by decide +kernel
theorem dX8_holds_11 : decode cX8_holds 11 = .ok (.ireturn, 1) := by decide +kernel
theorem dX8_holds_12 : decode cX8_holds 12 = .ok (.iload_n 1, 1) := by decide +kernel
theorem dX8_holds_13 : decode cX8_holds 13 = .ok (.aload_n 0, 1) := by decide +kernel
theorem dX8_holds_14 : decode cX8_holds 14 = .ok (.getfield 10, 3) := by decide +kernel
theorem dX8_holds_17 : decode cX8_holds 17 = .ok (.getfield 171, 3) := by decide +kernel
theorem dX8_holds_20 : decode cX8_holds 20 = .ok (.getfield 178, 3) := by decide +kernel
theorem dX8_holds_23 : decode cX8_holds 23 = .ok (.if_icmp .ne 6, 3) := by decide +kernel
theorem dX8_holds_26 : decode cX8_holds 26 = .ok (.bipush (-2), 2) := by decide +kernel
theorem dX8_holds_28 : decode cX8_holds 28 = .ok (.ireturn, 1) := by decide +kernel
theorem dX8_holds_29 : decode cX8_holds 29 = .ok (.aload_n 0, 1) := by decide +kernel
theorem dX8_holds_30 : decode cX8_holds 30 = .ok (.getfield 19, 3) := by decide +kernel
theorem dX8_holds_33 : decode cX8_holds 33 = .ok (.aload_n 0, 1) := by decide +kernel
theorem dX8_holds_34 : decode cX8_holds 34 = .ok (.getfield 10, 3) := by decide +kernel
theorem dX8_holds_37 : decode cX8_holds 37 = .ok (.invokevirtual 47, 3) := by decide +kernel
theorem dX8_holds_40 : decode cX8_holds 40 = .ok (.aload_n 0, 1) := by decide +kernel
theorem dX8_holds_41 : decode cX8_holds 41 = .ok (.getfield 10, 3) := by decide +kernel
theorem dX8_holds_44 : decode cX8_holds 44 = .ok (.getfield 171, 3) := by decide +kernel
theorem dX8_holds_47 : decode cX8_holds 47 = .ok (.getfield 178, 3) := by decide +kernel
theorem dX8_holds_50 : decode cX8_holds 50 = .ok (.istore_n 2, 1) := by decide +kernel
theorem dX8_holds_51 : decode cX8_holds 51 = .ok (.aload_n 0, 1) := by decide +kernel
theorem dX8_holds_52 : decode cX8_holds 52 = .ok (.getfield 10, 3) := by decide +kernel
theorem dX8_holds_55 : decode cX8_holds 55 = .ok (.getfield 171, 3) := by decide +kernel
theorem dX8_holds_58 : decode cX8_holds 58 = .ok (.iload_n 1, 1) := by decide +kernel
theorem dX8_holds_59 : decode cX8_holds 59 = .ok (.putfield 178, 3) := by decide +kernel
theorem dX8_holds_62 : decode cX8_holds 62 = .ok (.iload_n 2, 1) := by decide +kernel
theorem dX8_holds_63 : decode cX8_holds 63 = .ok (.ireturn, 1) := by decide +kernel
theorem dX8_wheel_0 : decode cX8_wheel 0 = .ok (.aload_n 0, 1) := by decide +kernel
theorem dX8_wheel_1 : decode cX8_wheel 1 = .ok (.getfield 10, 3) := by decide +kernel
theorem dX8_wheel_4 : decode cX8_wheel 4 = .ok (.getfield 171, 3) := by decide +kernel
theorem dX8_wheel_7 : decode cX8_wheel 7 = .ok (.astore_n 2, 1) := by decide +kernel
theorem dX8_wheel_8 : decode cX8_wheel 8 = .ok (.iload_n 1, 1) := by decide +kernel
theorem dX8_wheel_9 : decode cX8_wheel 9 = .ok (.tableswitch 74 0 4 #[35, 40, 45, 50, 55], 35) := by decide +kernel
theorem dX8_wheel_44 : decode cX8_wheel 44 = .ok (.aload_n 2, 1) := by decide +kernel
theorem dX8_wheel_45 : decode cX8_wheel 45 = .ok (.getfield 175, 3) := by decide +kernel
theorem dX8_wheel_48 : decode cX8_wheel 48 = .ok (.ireturn, 1) := by decide +kernel
theorem dX8_wheel_49 : decode cX8_wheel 49 = .ok (.aload_n 2, 1) := by decide +kernel
theorem dX8_wheel_50 : decode cX8_wheel 50 = .ok (.getfield 181, 3) := by decide +kernel
theorem dX8_wheel_53 : decode cX8_wheel 53 = .ok (.ireturn, 1) := by decide +kernel
theorem dX8_wheel_54 : decode cX8_wheel 54 = .ok (.aload_n 2, 1) := by decide +kernel
theorem dX8_wheel_55 : decode cX8_wheel 55 = .ok (.getfield 182, 3) := by decide +kernel
theorem dX8_wheel_58 : decode cX8_wheel 58 = .ok (.ireturn, 1) := by decide +kernel
theorem dX8_wheel_59 : decode cX8_wheel 59 = .ok (.aload_n 2, 1) := by decide +kernel
theorem dX8_wheel_60 : decode cX8_wheel 60 = .ok (.getfield 178, 3) := by decide +kernel
theorem dX8_wheel_63 : decode cX8_wheel 63 = .ok (.ireturn, 1) := by decide +kernel
theorem dX8_wheel_64 : decode cX8_wheel 64 = .ok (.aload_n 0, 1) := by decide +kernel
theorem dX8_wheel_65 : decode cX8_wheel 65 = .ok (.getfield 10, 3) := by decide +kernel
theorem dX8_wheel_68 : decode cX8_wheel 68 = .ok (.getfield 118, 3) := by decide +kernel
theorem dX8_wheel_71 : decode cX8_wheel 71 = .ok (.invokevirtual 185, 3) := by decide +kernel
theorem dX8_wheel_74 : decode cX8_wheel 74 = .ok (.ifCond .eq 7, 3) := by decide +kernel
theorem dX8_wheel_77 : decode cX8_wheel 77 = .ok (.iconst 1, 1) := by decide +kernel
theorem dX8_wheel_78 : decode cX8_wheel 78 = .ok (.goto 4, 3) := by decide +kernel
theorem dX8_wheel_81 : decode cX8_wheel 81 = .ok (.iconst 0, 1) := by decide +kernel
theorem dX8_wheel_82 : decode cX8_wheel 82 = .ok (.ireturn, 1) := by decide +kernel
theorem dX8_wheel_83 : decode cX8_wheel 83 = .ok (.ldc 151, 2) := by decide +kernel
theorem dX8_wheel_85 : decode cX8_wheel 85 = .ok (.ireturn, 1) := by decide +kernel
theorem dX8_offsets_0 : decode cX8_offsets 0 = .ok (.aload_n 0, 1) := by decide +kernel
theorem dX8_offsets_1 : decode cX8_offsets 1 = .ok (.getfield 10, 3) := by decide +kernel
theorem dX8_offsets_4 : decode cX8_offsets 4 = .ok (.iload_n 1, 1) := by decide +kernel
theorem dX8_offsets_5 : decode cX8_offsets 5 = .ok (.invokevirtual 188, 3) := by decide +kernel
theorem dX8_offsets_8 : decode cX8_offsets 8 = .ok (.astore_n 3, 1) := by decide +kernel
theorem dX8_offsets_9 : decode cX8_offsets 9 = .ok (.aload_n 3, 1) := by decide +kernel
theorem dX8_offsets_10 : decode cX8_offsets 10 = .ok (.ifnull 15, 3) := by decide +kernel
theorem dX8_offsets_13 : decode cX8_offsets 13 = .ok (.iload_n 2, 1) := by decide +kernel
theorem dX8_offsets_14 : decode cX8_offsets 14 = .ok (.ldc 192, 2) := by decide +kernel
theorem dX8_offsets_16 : decode cX8_offsets 16 = .ok (.if_icmp .lt 9, 3) := by decide +kernel
theorem dX8_offsets_19 : decode cX8_offsets 19 = .ok (.iload_n 2, 1) := by decide +kernel
theorem dX8_offsets_20 : decode cX8_offsets 20 = .ok (.ldc 193, 2) := by decide +kernel
theorem dX8_offsets_22 : decode cX8_offsets 22 = .ok (.if_icmp .le 5, 3) := by decide +kernel
theorem dX8_offsets_25 : decode cX8_offsets 25 = .ok (.iconst (-1), 1) := by decide +kernel
theorem dX8_offsets_26 : decode cX8_offsets 26 = .ok (.ireturn, 1) := by decide +kernel
theorem dX8_offsets_27 : decode cX8_offsets 27 = .ok (.iload_n 2, 1) := by decide +kernel
theorem dX8_offsets_28 : decode cX8_offsets 28 = .ok (.aload_n 3, 1) := by decide +kernel
theorem dX8_offsets_29 : decode cX8_offsets 29 = .ok (.getfield 194, 3) := by decide +kernel
theorem dX8_offsets_32 : decode cX8_offsets 32 = .ok (.if_icmp .ne 6, 3) := by decide +kernel
theorem dX8_offsets_35 : decode cX8_offsets 35 = .ok (.bipush (-2), 2) := by decide +kernel
theorem dX8_offsets_37 : decode cX8_offsets 37 = .ok (.ireturn, 1) := by decide +kernel
theorem dX8_offsets_38 : decode cX8_offsets 38 = .ok (.aload_n 0, 1) := by decide +kernel
theorem dX8_offsets_39 : decode cX8_offsets 39 = .ok (.getfield 19, 3) := by decide +kernel
theorem dX8_offsets_42 : decode cX8_offsets 42 = .ok (.aload_n 0, 1) := by decide +kernel
theorem dX8_offsets_43 : decode cX8_offsets 43 = .ok (.getfield 10, 3) := by decide +kernel
theorem dX8_offsets_46 : decode cX8_offsets 46 = .ok (.invokevirtual 47, 3) := by decide +kernel
theorem dX8_offsets_49 : decode cX8_offsets 49 = .ok (.aload_n 3, 1) := by decide +kernel
theorem dX8_offsets_50 : decode cX8_offsets 50 = .ok (.iload_n 2, 1) := by decide +kernel
theorem dX8_offsets_51 : decode cX8_offsets 51 = .ok (.putfield 194, 3) := by decide +kernel
theorem dX8_offsets_54 : decode cX8_offsets 54 = .ok (.iconst 1, 1) := by decide +kernel
theorem dX8_offsets_55 : decode cX8_offsets 55 = .ok (.ireturn, 1) := by decide +kernel
theorem dX8_chases_0 : decode cX8_chases 0 = .ok (.aload_n 0, 1) := by decide +kernel
theorem dX8_chases_1 : decode cX8_chases 1 = .ok (.getfield 10, 3) := by decide +kernel
theorem dX8_chases_4 : decode cX8_chases 4 = .ok (.iload_n 1, 1) := by decide +kernel
theorem dX8_chases_5 : decode cX8_chases 5 = .ok (.invokevirtual 188, 3) := by decide +kernel
theorem dX8_chases_8 : decode cX8_chases 8 = .ok (.astore_n 3, 1) := by decide +kernel
theorem dX8_chases_9 : decode cX8_chases 9 = .ok (.aload_n 3, 1) := by decide +kernel
theorem dX8_chases_10 : decode cX8_chases 10 = .ok (.ifnull 15, 3) := by decide +kernel
theorem dX8_chases_13 : decode cX8_chases 13 = .ok (.iload_n 2, 1) := by decide +kernel
theorem dX8_chases_14 : decode cX8_chases 14 = .ok (.iconst 1, 1) := by decide +kernel
theorem dX8_chases_15 : decode cX8_chases 15 = .ok (.if_icmp .lt 10, 3) := by decide +kernel
theorem dX8_chases_18 : decode cX8_chases 18 = .ok (.iload_n 2, 1) := by decide +kernel
theorem dX8_chases_19 : decode cX8_chases 19 = .ok (.sipush 1000, 3) := by decide +kernel
theorem dX8_chases_22 : decode cX8_chases 22 = .ok (.if_icmp .le 5, 3) := by decide +kernel
theorem dX8_chases_25 : decode cX8_chases 25 = .ok (.iconst (-1), 1) := by decide +kernel
theorem dX8_chases_26 : decode cX8_chases 26 = .ok (.ireturn, 1) := by decide +kernel
theorem dX8_chases_27 : decode cX8_chases 27 = .ok (.aload_n 0, 1) := by decide +kernel
theorem dX8_chases_28 : decode cX8_chases 28 = .ok (.getfield 19, 3) := by decide +kernel
theorem dX8_chases_31 : decode cX8_chases 31 = .ok (.aload_n 0, 1) := by decide +kernel
theorem dX8_chases_32 : decode cX8_chases 32 = .ok (.getfield 10, 3) := by decide +kernel
theorem dX8_chases_35 : decode cX8_chases 35 = .ok (.invokevirtual 47, 3) := by decide +kernel
theorem dX8_chases_38 : decode cX8_chases 38 = .ok (.iconst 0, 1) := by decide +kernel
theorem dX8_chases_39 : decode cX8_chases 39 = .ok (.istore 4, 2) := by decide +kernel
theorem dX8_chases_41 : decode cX8_chases 41 = .ok (.iload 4, 2) := by decide +kernel
theorem dX8_chases_43 : decode cX8_chases 43 = .ok (.iload_n 2, 1) := by decide +kernel
theorem dX8_chases_44 : decode cX8_chases 44 = .ok (.if_icmp .ge 30, 3) := by decide +kernel
theorem dX8_chases_47 : decode cX8_chases 47 = .ok (.aload_n 3, 1) := by decide +kernel
theorem dX8_chases_48 : decode cX8_chases 48 = .ok (.aload_n 0, 1) := by decide +kernel
theorem dX8_chases_49 : decode cX8_chases 49 = .ok (.getfield 10, 3) := by decide +kernel
theorem dX8_chases_52 : decode cX8_chases 52 = .ok (.getfield 171, 3) := by decide +kernel
theorem dX8_chases_55 : decode cX8_chases 55 = .ok (.getfield 175, 3) := by decide +kernel
theorem dX8_chases_58 : decode cX8_chases 58 = .ok (.aload_n 0, 1) := by decide +kernel
theorem dX8_chases_59 : decode cX8_chases 59 = .ok (.getfield 10, 3) := by decide +kernel
theorem dX8_chases_62 : decode cX8_chases 62 = .ok (.invokevirtual 197, 3) := by decide +kernel
theorem dX8_chases_65 : decode cX8_chases 65 = .ok (.invokevirtual 200, 3) := by decide +kernel
theorem dX8_chases_68 : decode cX8_chases 68 = .ok (.iinc 4 1, 3) := by decide +kernel
theorem dX8_chases_71 : decode cX8_chases 71 = .ok (.goto (-30), 3) := by decide +kernel
theorem dX8_chases_74 : decode cX8_chases 74 = .ok (.aload_n 3, 1) := by decide +kernel
theorem dX8_chases_75 : decode cX8_chases 75 = .ok (.getfield 204, 3) := by decide +kernel
theorem dX8_chases_78 : decode cX8_chases 78 = .ok (.ireturn, 1) := by decide +kernel
theorem dX8_chaser_0 : decode cX8_chaser 0 = .ok (.aload_n 0, 1) := by decide +kernel
theorem dX8_chaser_1 : decode cX8_chaser 1 = .ok (.getfield 10, 3) := by decide +kernel
theorem dX8_chaser_4 : decode cX8_chaser 4 = .ok (.iload_n 1, 1) := by decide +kernel
theorem dX8_chaser_5 : decode cX8_chaser 5 = .ok (.invokevirtual 188, 3) := by decide +kernel
theorem dX8_chaser_8 : decode cX8_chaser 8 = .ok (.astore_n 3, 1) := by decide +kernel
theorem dX8_chaser_9 : decode cX8_chaser 9 = .ok (.aload_n 3, 1) := by decide +kernel
theorem dX8_chaser_10 : decode cX8_chaser 10 = .ok (.ifnonnull 6, 3) := by decide +kernel
theorem dX8_chaser_13 : decode cX8_chaser 13 = .ok (.ldc 151, 2) := by decide +kernel
theorem dX8_chaser_15 : decode cX8_chaser 15 = .ok (.ireturn, 1) := by decide +kernel
theorem dX8_chaser_16 : decode cX8_chaser 16 = .ok (.iload_n 2, 1) := by decide +kernel
theorem dX8_chaser_17 : decode cX8_chaser 17 = .ok (.tableswitch 68 0 3 #[31, 36, 41, 46], 31) := by decide +kernel
theorem dX8_chaser_48 : decode cX8_chaser 48 = .ok (.aload_n 3, 1) := by decide +kernel
theorem dX8_chaser_49 : decode cX8_chaser 49 = .ok (.getfield 204, 3) := by decide +kernel
theorem dX8_chaser_52 : decode cX8_chaser 52 = .ok (.ireturn, 1) := by decide +kernel
theorem dX8_chaser_53 : decode cX8_chaser 53 = .ok (.aload_n 3, 1) := by decide +kernel
theorem dX8_chaser_54 : decode cX8_chaser 54 = .ok (.getfield 207, 3) := by decide +kernel
theorem dX8_chaser_57 : decode cX8_chaser 57 = .ok (.ireturn, 1) := by decide +kernel
theorem dX8_chaser_58 : decode cX8_chaser 58 = .ok (.aload_n 3, 1) := by decide +kernel
theorem dX8_chaser_59 : decode cX8_chaser 59 = .ok (.getfield 194, 3) := by decide +kernel
theorem dX8_chaser_62 : decode cX8_chaser 62 = .ok (.ireturn, 1) := by decide +kernel
theorem dX8_chaser_63 : decode cX8_chaser 63 = .ok (.aload_n 3, 1) := by decide +kernel
theorem dX8_chaser_64 : decode cX8_chaser 64 = .ok (.aload_n 0, 1) := by decide +kernel
theorem dX8_chaser_65 : decode cX8_chaser 65 = .ok (.getfield 10, 3) := by decide +kernel
theorem dX8_chaser_68 : decode cX8_chaser 68 = .ok (.getfield 171, 3) := by decide +kernel
theorem dX8_chaser_71 : decode cX8_chaser 71 = .ok (.getfield 175, 3) := by decide +kernel
theorem dX8_chaser_74 : decode cX8_chaser 74 = .ok (.aload_n 0, 1) := by decide +kernel
theorem dX8_chaser_75 : decode cX8_chaser 75 = .ok (.getfield 10, 3) := by decide +kernel
theorem dX8_chaser_78 : decode cX8_chaser 78 = .ok (.invokevirtual 197, 3) := by decide +kernel
theorem dX8_chaser_81 : decode cX8_chaser 81 = .ok (.invokevirtual 210, 3) := by decide +kernel
theorem dX8_chaser_84 : decode cX8_chaser 84 = .ok (.ireturn, 1) := by decide +kernel
theorem dX8_chaser_85 : decode cX8_chaser 85 = .ok (.ldc 151, 2) := by decide +kernel
theorem dX8_chaser_87 : decode cX8_chaser 87 = .ok (.ireturn, 1) := by decide +kernel
theorem dX8_there_0 : decode cX8_there 0 = .ok (.aload_n 0, 1) := by decide +kernel
theorem dX8_there_1 : decode cX8_there 1 = .ok (.getfield 10, 3) := by decide +kernel
theorem dX8_there_4 : decode cX8_there 4 = .ok (.iload_n 1, 1) := by decide +kernel
theorem dX8_there_5 : decode cX8_there 5 = .ok (.invokevirtual 188, 3) := by decide +kernel
theorem dX8_there_8 : decode cX8_there 8 = .ok (.astore_n 2, 1) := by decide +kernel
theorem dX8_there_9 : decode cX8_there 9 = .ok (.aload_n 2, 1) := by decide +kernel
theorem dX8_there_10 : decode cX8_there 10 = .ok (.ifnonnull 5, 3) := by decide +kernel
theorem dX8_there_13 : decode cX8_there 13 = .ok (.iconst (-1), 1) := by decide +kernel
theorem dX8_there_14 : decode cX8_there 14 = .ok (.ireturn, 1) := by decide +kernel
theorem dX8_there_15 : decode cX8_there 15 = .ok (.aload_n 0, 1) := by decide +kernel
theorem dX8_there_16 : decode cX8_there 16 = .ok (.getfield 30, 3) := by decide +kernel
theorem dX8_there_19 : decode cX8_there 19 = .ok (.aload_n 2, 1) := by decide +kernel
theorem dX8_there_20 : decode cX8_there 20 = .ok (.invokevirtual 213, 3) := by decide +kernel
theorem dX8_there_23 : decode cX8_there 23 = .ok (.iconst 0, 1) := by decide +kernel
theorem dX8_there_24 : decode cX8_there 24 = .ok (.istore_n 3, 1) := by decide +kernel
theorem dX8_there_25 : decode cX8_there 25 = .ok (.iload_n 3, 1) := by decide +kernel
theorem dX8_there_26 : decode cX8_there 26 = .ok (.sipush 3000, 3) := by decide +kernel
theorem dX8_there_29 : decode cX8_there 29 = .ok (.if_icmp .gt 62, 3) := by decide +kernel
theorem dX8_there_32 : decode cX8_there 32 = .ok (.aload_n 0, 1) := by decide +kernel
theorem dX8_there_33 : decode cX8_there 33 = .ok (.getfield 30, 3) := by decide +kernel
theorem dX8_there_36 : decode cX8_there 36 = .ok (.aload_n 0, 1) := by decide +kernel
theorem dX8_there_37 : decode cX8_there 37 = .ok (.getfield 10, 3) := by decide +kernel
theorem dX8_there_40 : decode cX8_there 40 = .ok (.getfield 171, 3) := by decide +kernel
theorem dX8_there_43 : decode cX8_there 43 = .ok (.getfield 175, 3) := by decide +kernel
theorem dX8_there_46 : decode cX8_there 46 = .ok (.aload_n 0, 1) := by decide +kernel
theorem dX8_there_47 : decode cX8_there 47 = .ok (.getfield 10, 3) := by decide +kernel
theorem dX8_there_50 : decode cX8_there 50 = .ok (.invokevirtual 197, 3) := by decide +kernel
theorem dX8_there_53 : decode cX8_there 53 = .ok (.invokevirtual 217, 3) := by decide +kernel
theorem dX8_there_56 : decode cX8_there 56 = .ok (.ifCond .eq 5, 3) := by decide +kernel
theorem dX8_there_59 : decode cX8_there 59 = .ok (.iload_n 3, 1) := by decide +kernel
theorem dX8_there_60 : decode cX8_there 60 = .ok (.ireturn, 1) := by decide +kernel
theorem dX8_there_61 : decode cX8_there 61 = .ok (.aload_n 0, 1) := by decide +kernel
theorem dX8_there_62 : decode cX8_there 62 = .ok (.getfield 30, 3) := by decide +kernel
theorem dX8_there_65 : decode cX8_there 65 = .ok (.aload_n 0, 1) := by decide +kernel
theorem dX8_there_66 : decode cX8_there 66 = .ok (.getfield 10, 3) := by decide +kernel
theorem dX8_there_69 : decode cX8_there 69 = .ok (.getfield 171, 3) := by decide +kernel
theorem dX8_there_72 : decode cX8_there 72 = .ok (.getfield 175, 3) := by decide +kernel
theorem dX8_there_75 : decode cX8_there 75 = .ok (.aload_n 0, 1) := by decide +kernel
theorem dX8_there_76 : decode cX8_there 76 = .ok (.getfield 10, 3) := by decide +kernel
theorem dX8_there_79 : decode cX8_there 79 = .ok (.invokevirtual 197, 3) := by decide +kernel
theorem dX8_there_82 : decode cX8_there 82 = .ok (.invokevirtual 200, 3) := by decide +kernel
theorem dX8_there_85 : decode cX8_there 85 = .ok (.iinc 3 1, 3) := by decide +kernel
theorem dX8_there_88 : decode cX8_there 88 = .ok (.goto (-63), 3) := by decide +kernel
theorem dX8_there_91 : decode cX8_there 91 = .ok (.bipush (-9), 2) := by decide +kernel
theorem dX8_there_93 : decode cX8_there 93 = .ok (.ireturn, 1) := by decide +kernel
theorem dX8_undo_0 : decode cX8_undo 0 = .ok (.aload_n 0, 1) := by decide +kernel
theorem dX8_undo_1 : decode cX8_undo 1 = .ok (.getfield 19, 3) := by decide +kernel
theorem dX8_undo_4 : decode cX8_undo 4 = .ok (.aload_n 0, 1) := by decide +kernel
theorem dX8_undo_5 : decode cX8_undo 5 = .ok (.getfield 10, 3) := by decide +kernel
theorem dX8_undo_8 : decode cX8_undo 8 = .ok (.invokevirtual 221, 3) := by decide +kernel
theorem dX8_undo_11 : decode cX8_undo 11 = .ok (.ifCond .eq 13, 3) := by decide +kernel
theorem dX8_undo_14 : decode cX8_undo 14 = .ok (.aload_n 0, 1) := by decide +kernel
theorem dX8_undo_15 : decode cX8_undo 15 = .ok (.getfield 19, 3) := by decide +kernel
theorem dX8_undo_18 : decode cX8_undo 18 = .ok (.getfield 225, 3) := by decide +kernel
theorem dX8_undo_21 : decode cX8_undo 21 = .ok (.goto 5, 3) := by decide +kernel
theorem dX8_undo_24 : decode cX8_undo 24 = .ok (.bipush (-2), 2) := by decide +kernel
theorem dX8_undo_26 : decode cX8_undo 26 = .ok (.ireturn, 1) := by decide +kernel
theorem dX8_sees_0 : decode cX8_sees 0 = .ok (.iload_n 1, 1) := by decide +kernel
theorem dX8_sees_1 : decode cX8_sees 1 = .ok (.invokestatic 63, 3) := by decide +kernel
theorem dX8_sees_4 : decode cX8_sees 4 = .ok (.ifCond .eq 13, 3) := by decide +kernel
theorem dX8_sees_7 : decode cX8_sees 7 = .ok (.iload_n 2, 1) := by decide +kernel
theorem dX8_sees_8 : decode cX8_sees 8 = .ok (.ifCond .ge 11, 3) := by decide +kernel
theorem dX8_sees_11 : decode cX8_sees 11 = .ok (.iload_n 2, 1) := by decide +kernel
theorem dX8_sees_12 : decode cX8_sees 12 = .ok (.bipush (-9), 2) := by decide +kernel
theorem dX8_sees_14 : decode cX8_sees 14 = .ok (.if_icmp .eq 5, 3) := by decide +kernel
theorem dX8_sees_17 : decode cX8_sees 17 = .ok (.iconst (-1), 1) := by decide +kernel
theorem dX8_sees_18 : decode cX8_sees 18 = .ok (.ireturn, 1) := by decide +kernel
theorem dX8_sees_19 : decode cX8_sees 19 = .ok (.aload_n 0, 1) := by decide +kernel
theorem dX8_sees_20 : decode cX8_sees 20 = .ok (.getfield 228, 3) := by decide +kernel
theorem dX8_sees_23 : decode cX8_sees 23 = .ok (.ifCond .lt 12, 3) := by decide +kernel
theorem dX8_sees_26 : decode cX8_sees 26 = .ok (.aload_n 0, 1) := by decide +kernel
theorem dX8_sees_27 : decode cX8_sees 27 = .ok (.getfield 228, 3) := by decide +kernel
theorem dX8_sees_30 : decode cX8_sees 30 = .ok (.bipush 6, 2) := by decide +kernel
theorem dX8_sees_32 : decode cX8_sees 32 = .ok (.if_icmp .lt 6, 3) := by decide +kernel
theorem dX8_sees_35 : decode cX8_sees 35 = .ok (.bipush (-3), 2) := by decide +kernel
theorem dX8_sees_37 : decode cX8_sees 37 = .ok (.ireturn, 1) := by decide +kernel
theorem dX8_sees_38 : decode cX8_sees 38 = .ok (.aload_n 0, 1) := by decide +kernel
theorem dX8_sees_39 : decode cX8_sees 39 = .ok (.getfield 34, 3) := by decide +kernel
theorem dX8_sees_42 : decode cX8_sees 42 = .ok (.aload_n 0, 1) := by decide +kernel
theorem dX8_sees_43 : decode cX8_sees 43 = .ok (.getfield 228, 3) := by decide +kernel
theorem dX8_sees_46 : decode cX8_sees 46 = .ok (.iload_n 1, 1) := by decide +kernel
theorem dX8_sees_47 : decode cX8_sees 47 = .ok (.iastore, 1) := by decide +kernel
theorem dX8_sees_48 : decode cX8_sees 48 = .ok (.aload_n 0, 1) := by decide +kernel
theorem dX8_sees_49 : decode cX8_sees 49 = .ok (.getfield 38, 3) := by decide +kernel
theorem dX8_sees_52 : decode cX8_sees 52 = .ok (.aload_n 0, 1) := by decide +kernel
theorem dX8_sees_53 : decode cX8_sees 53 = .ok (.getfield 228, 3) := by decide +kernel
theorem dX8_sees_56 : decode cX8_sees 56 = .ok (.iload_n 2, 1) := by decide +kernel
theorem dX8_sees_57 : decode cX8_sees 57 = .ok (.iastore, 1) := by decide +kernel
theorem dX8_sees_58 : decode cX8_sees 58 = .ok (.aload_n 0, 1) := by decide +kernel
theorem dX8_sees_59 : decode cX8_sees 59 = .ok (.dup, 1) := by decide +kernel
theorem dX8_sees_60 : decode cX8_sees 60 = .ok (.getfield 228, 3) := by decide +kernel
theorem dX8_sees_63 : decode cX8_sees 63 = .ok (.iconst 1, 1) := by decide +kernel
theorem dX8_sees_64 : decode cX8_sees 64 = .ok (.iadd, 1) := by decide +kernel
theorem dX8_sees_65 : decode cX8_sees 65 = .ok (.putfield 228, 3) := by decide +kernel
theorem dX8_sees_68 : decode cX8_sees 68 = .ok (.aload_n 0, 1) := by decide +kernel
theorem dX8_sees_69 : decode cX8_sees 69 = .ok (.getfield 228, 3) := by decide +kernel
theorem dX8_sees_72 : decode cX8_sees 72 = .ok (.ireturn, 1) := by decide +kernel
theorem dX8_forget_0 : decode cX8_forget 0 = .ok (.aload_n 0, 1) := by decide +kernel
theorem dX8_forget_1 : decode cX8_forget 1 = .ok (.getfield 228, 3) := by decide +kernel
theorem dX8_forget_4 : decode cX8_forget 4 = .ok (.istore_n 1, 1) := by decide +kernel
theorem dX8_forget_5 : decode cX8_forget 5 = .ok (.aload_n 0, 1) := by decide +kernel
theorem dX8_forget_6 : decode cX8_forget 6 = .ok (.iconst 0, 1) := by decide +kernel
theorem dX8_forget_7 : decode cX8_forget 7 = .ok (.putfield 228, 3) := by decide +kernel
theorem dX8_forget_10 : decode cX8_forget 10 = .ok (.iload_n 1, 1) := by decide +kernel
theorem dX8_forget_11 : decode cX8_forget 11 = .ok (.ireturn, 1) := by decide +kernel
theorem dX8_unseen_0 : decode cX8_unseen 0 = .ok (.iconst 0, 1) := by decide +kernel
theorem dX8_unseen_1 : decode cX8_unseen 1 = .ok (.istore_n 1, 1) := by decide +kernel
theorem dX8_unseen_2 : decode cX8_unseen 2 = .ok (.iconst 0, 1) := by decide +kernel
theorem dX8_unseen_3 : decode cX8_unseen 3 = .ok (.istore_n 2, 1) := by decide +kernel
theorem dX8_unseen_4 : decode cX8_unseen 4 = .ok (.iload_n 2, 1) := by decide +kernel
theorem dX8_unseen_5 : decode cX8_unseen 5 = .ok (.iconst 4, 1) := by decide +kernel
theorem dX8_unseen_6 : decode cX8_unseen 6 = .ok (.if_icmp .ge 23, 3) := by decide +kernel
theorem dX8_unseen_9 : decode cX8_unseen 9 = .ok (.aload_n 0, 1) := by decide +kernel
theorem dX8_unseen_10 : decode cX8_unseen 10 = .ok (.iload_n 2, 1) := by decide +kernel
theorem dX8_unseen_11 : decode cX8_unseen 11 = .ok (.invokevirtual 231, 3) := by decide +kernel
theorem dX8_unseen_14 : decode cX8_unseen 14 = .ok (.ifCond .eq 9, 3) := by decide +kernel
theorem dX8_unseen_17 : decode cX8_unseen 17 = .ok (.iload_n 1, 1) := by decide +kernel
theorem dX8_unseen_18 : decode cX8_unseen 18 = .ok (.iconst 1, 1) := by decide +kernel
theorem dX8_unseen_19 : decode cX8_unseen 19 = .ok (.iload_n 2, 1) := by decide +kernel
theorem dX8_unseen_20 : decode cX8_unseen 20 = .ok (.ishl, 1) := by decide +kernel
theorem dX8_unseen_21 : decode cX8_unseen 21 = .ok (.ior, 1) := by decide +kernel
theorem dX8_unseen_22 : decode cX8_unseen 22 = .ok (.istore_n 1, 1) := by decide +kernel
theorem dX8_unseen_23 : decode cX8_unseen 23 = .ok (.iinc 2 1, 3) := by decide +kernel
theorem dX8_unseen_26 : decode cX8_unseen 26 = .ok (.goto (-22), 3) := by decide +kernel
theorem dX8_unseen_29 : decode cX8_unseen 29 = .ok (.iload_n 1, 1) := by decide +kernel
theorem dX8_unseen_30 : decode cX8_unseen 30 = .ok (.ireturn, 1) := by decide +kernel
theorem dX8_keep_0 : decode cX8_keep 0 = .ok (.iload_n 1, 1) := by decide +kernel
theorem dX8_keep_1 : decode cX8_keep 1 = .ok (.ifCond .lt 12, 3) := by decide +kernel
theorem dX8_keep_4 : decode cX8_keep 4 = .ok (.iload_n 1, 1) := by decide +kernel
theorem dX8_keep_5 : decode cX8_keep 5 = .ok (.aload_n 0, 1) := by decide +kernel
theorem dX8_keep_6 : decode cX8_keep 6 = .ok (.getfield 23, 3) := by decide +kernel
theorem dX8_keep_9 : decode cX8_keep 9 = .ok (.arraylength, 1) := by decide +kernel
theorem dX8_keep_10 : decode cX8_keep 10 = .ok (.if_icmp .lt 5, 3) := by decide +kernel
theorem dX8_keep_13 : decode cX8_keep 13 = .ok (.iconst (-1), 1) := by decide +kernel
theorem dX8_keep_14 : decode cX8_keep 14 = .ok (.ireturn, 1) := by decide +kernel
theorem dX8_keep_15 : decode cX8_keep 15 = .ok (.aload_n 0, 1) := by decide +kernel
theorem dX8_keep_16 : decode cX8_keep 16 = .ok (.getfield 23, 3) := by decide +kernel
theorem dX8_keep_19 : decode cX8_keep 19 = .ok (.iload_n 1, 1) := by decide +kernel
theorem dX8_keep_20 : decode cX8_keep 20 = .ok (.aaload, 1) := by decide +kernel
theorem dX8_keep_21 : decode cX8_keep 21 = .ok (.astore_n 2, 1) := by decide +kernel
theorem dX8_keep_22 : decode cX8_keep 22 = .ok (.aload_n 2, 1) := by decide +kernel
theorem dX8_keep_23 : decode cX8_keep 23 = .ok (.ifnonnull 18, 3) := by decide +kernel
theorem dX8_keep_26 : decode cX8_keep 26 = .ok (.new 7, 3) := by decide +kernel
theorem dX8_keep_29 : decode cX8_keep 29 = .ok (.dup, 1) := by decide +kernel
theorem dX8_keep_30 : decode cX8_keep 30 = .ok (.invokespecial 9, 3) := by decide +kernel
theorem dX8_keep_33 : decode cX8_keep 33 = .ok (.astore_n 2, 1) := by decide +kernel
theorem dX8_keep_34 : decode cX8_keep 34 = .ok (.aload_n 0, 1) := by decide +kernel
theorem dX8_keep_35 : decode cX8_keep 35 = .ok (.getfield 23, 3) := by decide +kernel
theorem dX8_keep_38 : decode cX8_keep 38 = .ok (.iload_n 1, 1) := by decide +kernel
theorem dX8_keep_39 : decode cX8_keep 39 = .ok (.aload_n 2, 1) := by decide +kernel
theorem dX8_keep_40 : decode cX8_keep 40 = .ok (.aastore, 1) := by decide +kernel
theorem dX8_keep_41 : decode cX8_keep 41 = .ok (.aload_n 2, 1) := by decide +kernel
theorem dX8_keep_42 : decode cX8_keep 42 = .ok (.aload_n 0, 1) := by decide +kernel
theorem dX8_keep_43 : decode cX8_keep 43 = .ok (.getfield 10, 3) := by decide +kernel
theorem dX8_keep_46 : decode cX8_keep 46 = .ok (.invokevirtual 234, 3) := by decide +kernel
theorem dX8_keep_49 : decode cX8_keep 49 = .ok (.aload_n 0, 1) := by decide +kernel
theorem dX8_keep_50 : decode cX8_keep 50 = .ok (.getfield 10, 3) := by decide +kernel
theorem dX8_keep_53 : decode cX8_keep 53 = .ok (.getfield 78, 3) := by decide +kernel
theorem dX8_keep_56 : decode cX8_keep 56 = .ok (.getfield 82, 3) := by decide +kernel
theorem dX8_keep_59 : decode cX8_keep 59 = .ok (.ireturn, 1) := by decide +kernel
theorem dX8_back_0 : decode cX8_back 0 = .ok (.iload_n 1, 1) := by decide +kernel
theorem dX8_back_1 : decode cX8_back 1 = .ok (.ifCond .lt 12, 3) := by decide +kernel
theorem dX8_back_4 : decode cX8_back 4 = .ok (.iload_n 1, 1) := by decide +kernel
theorem dX8_back_5 : decode cX8_back 5 = .ok (.aload_n 0, 1) := by decide +kernel
theorem dX8_back_6 : decode cX8_back 6 = .ok (.getfield 23, 3) := by decide +kernel
theorem dX8_back_9 : decode cX8_back 9 = .ok (.arraylength, 1) := by decide +kernel
theorem dX8_back_10 : decode cX8_back 10 = .ok (.if_icmp .lt 5, 3) := by decide +kernel
theorem dX8_back_13 : decode cX8_back 13 = .ok (.iconst (-1), 1) := by decide +kernel
theorem dX8_back_14 : decode cX8_back 14 = .ok (.ireturn, 1) := by decide +kernel
theorem dX8_back_15 : decode cX8_back 15 = .ok (.aload_n 0, 1) := by decide +kernel
theorem dX8_back_16 : decode cX8_back 16 = .ok (.getfield 23, 3) := by decide +kernel
theorem dX8_back_19 : decode cX8_back 19 = .ok (.iload_n 1, 1) := by decide +kernel
theorem dX8_back_20 : decode cX8_back 20 = .ok (.aaload, 1) := by decide +kernel
theorem dX8_back_21 : decode cX8_back 21 = .ok (.astore_n 2, 1) := by decide +kernel
theorem dX8_back_22 : decode cX8_back 22 = .ok (.aload_n 2, 1) := by decide +kernel
theorem dX8_back_23 : decode cX8_back 23 = .ok (.ifnonnull 6, 3) := by decide +kernel
theorem dX8_back_26 : decode cX8_back 26 = .ok (.bipush (-2), 2) := by decide +kernel
theorem dX8_back_28 : decode cX8_back 28 = .ok (.ireturn, 1) := by decide +kernel
theorem dX8_back_29 : decode cX8_back 29 = .ok (.aload_n 0, 1) := by decide +kernel
theorem dX8_back_30 : decode cX8_back 30 = .ok (.getfield 10, 3) := by decide +kernel
theorem dX8_back_33 : decode cX8_back 33 = .ok (.aload_n 2, 1) := by decide +kernel
theorem dX8_back_34 : decode cX8_back 34 = .ok (.invokevirtual 234, 3) := by decide +kernel
theorem dX8_back_37 : decode cX8_back 37 = .ok (.aload_n 0, 1) := by decide +kernel
theorem dX8_back_38 : decode cX8_back 38 = .ok (.getfield 19, 3) := by decide +kernel
theorem dX8_back_41 : decode cX8_back 41 = .ok (.iconst 0, 1) := by decide +kernel
theorem dX8_back_42 : decode cX8_back 42 = .ok (.putfield 225, 3) := by decide +kernel
theorem dX8_back_45 : decode cX8_back 45 = .ok (.aload_n 0, 1) := by decide +kernel
theorem dX8_back_46 : decode cX8_back 46 = .ok (.getfield 10, 3) := by decide +kernel
theorem dX8_back_49 : decode cX8_back 49 = .ok (.getfield 78, 3) := by decide +kernel
theorem dX8_back_52 : decode cX8_back 52 = .ok (.getfield 82, 3) := by decide +kernel
theorem dX8_back_55 : decode cX8_back 55 = .ok (.ireturn, 1) := by decide +kernel
theorem dX8_count_0 : decode cX8_count 0 = .ok (.iload_n 1, 1) := by decide +kernel
theorem dX8_count_1 : decode cX8_count 1 = .ok (.tableswitch 105 0 6 #[43, 51, 59, 70, 81, 92, 97], 43) := by decide +kernel
theorem dX8_count_44 : decode cX8_count 44 = .ok (.aload_n 0, 1) := by decide +kernel
theorem dX8_count_45 : decode cX8_count 45 = .ok (.getfield 10, 3) := by decide +kernel
theorem dX8_count_48 : decode cX8_count 48 = .ok (.getfield 43, 3) := by decide +kernel
theorem dX8_count_51 : decode cX8_count 51 = .ok (.ireturn, 1) := by decide +kernel
theorem dX8_count_52 : decode cX8_count 52 = .ok (.aload_n 0, 1) := by decide +kernel
theorem dX8_count_53 : decode cX8_count 53 = .ok (.getfield 10, 3) := by decide +kernel
theorem dX8_count_56 : decode cX8_count 56 = .ok (.invokevirtual 197, 3) := by decide +kernel
theorem dX8_count_59 : decode cX8_count 59 = .ok (.ireturn, 1) := by decide +kernel
theorem dX8_count_60 : decode cX8_count 60 = .ok (.aload_n 0, 1) := by decide +kernel
theorem dX8_count_61 : decode cX8_count 61 = .ok (.getfield 10, 3) := by decide +kernel
theorem dX8_count_64 : decode cX8_count 64 = .ok (.getfield 78, 3) := by decide +kernel
theorem dX8_count_67 : decode cX8_count 67 = .ok (.getfield 82, 3) := by decide +kernel
theorem dX8_count_70 : decode cX8_count 70 = .ok (.ireturn, 1) := by decide +kernel
theorem dX8_count_71 : decode cX8_count 71 = .ok (.aload_n 0, 1) := by decide +kernel
theorem dX8_count_72 : decode cX8_count 72 = .ok (.getfield 10, 3) := by decide +kernel
theorem dX8_count_75 : decode cX8_count 75 = .ok (.getfield 78, 3) := by decide +kernel
theorem dX8_count_78 : decode cX8_count 78 = .ok (.invokevirtual 89, 3) := by decide +kernel
theorem dX8_count_81 : decode cX8_count 81 = .ok (.ireturn, 1) := by decide +kernel
theorem dX8_count_82 : decode cX8_count 82 = .ok (.aload_n 0, 1) := by decide +kernel
theorem dX8_count_83 : decode cX8_count 83 = .ok (.getfield 10, 3) := by decide +kernel
theorem dX8_count_86 : decode cX8_count 86 = .ok (.getfield 78, 3) := by decide +kernel
theorem dX8_count_89 : decode cX8_count 89 = .ok (.getfield 93, 3) := by decide +kernel
theorem dX8_count_92 : decode cX8_count 92 = .ok (.ireturn, 1) := by decide +kernel
theorem dX8_count_93 : decode cX8_count 93 = .ok (.aload_n 0, 1) := by decide +kernel
theorem dX8_count_94 : decode cX8_count 94 = .ok (.getfield 228, 3) := by decide +kernel
theorem dX8_count_97 : decode cX8_count 97 = .ok (.ireturn, 1) := by decide +kernel
theorem dX8_count_98 : decode cX8_count 98 = .ok (.aload_n 0, 1) := by decide +kernel
theorem dX8_count_99 : decode cX8_count 99 = .ok (.getfield 19, 3) := by decide +kernel
theorem dX8_count_102 : decode cX8_count 102 = .ok (.getfield 225, 3) := by decide +kernel
theorem dX8_count_105 : decode cX8_count 105 = .ok (.ireturn, 1) := by decide +kernel
theorem dX8_count_106 : decode cX8_count 106 = .ok (.iconst (-1), 1) := by decide +kernel
theorem dX8_count_107 : decode cX8_count 107 = .ok (.ireturn, 1) := by decide +kernel
theorem dX8_isFrame_0 : decode cX8_isFrame 0 = .ok (.iload_n 1, 1) := by decide +kernel
theorem dX8_isFrame_1 : decode cX8_isFrame 1 = .ok (.ifCond .lt 18, 3) := by decide +kernel
theorem dX8_isFrame_4 : decode cX8_isFrame 4 = .ok (.iload_n 1, 1) := by decide +kernel
theorem dX8_isFrame_5 : decode cX8_isFrame 5 = .ok (.aload_n 0, 1) := by decide +kernel
theorem dX8_isFrame_6 : decode cX8_isFrame 6 = .ok (.getfield 10, 3) := by decide +kernel
theorem dX8_isFrame_9 : decode cX8_isFrame 9 = .ok (.invokevirtual 197, 3) := by decide +kernel
theorem dX8_isFrame_12 : decode cX8_isFrame 12 = .ok (.if_icmp .ge 7, 3) := by decide +kernel
theorem dX8_isFrame_15 : decode cX8_isFrame 15 = .ok (.iconst 1, 1) := by decide +kernel
theorem dX8_isFrame_16 : decode cX8_isFrame 16 = .ok (.goto 4, 3) := by decide +kernel
theorem dX8_isFrame_19 : decode cX8_isFrame 19 = .ok (.iconst 0, 1) := by decide +kernel
theorem dX8_isFrame_20 : decode cX8_isFrame 20 = .ok (.ireturn, 1) := by decide +kernel
theorem dX8_isNumber_0 : decode cX8_isNumber 0 = .ok (.iload_n 0, 1) := by decide +kernel
theorem dX8_isNumber_1 : decode cX8_isNumber 1 = .ok (.ifCond .lt 13, 3) := by decide +kernel
theorem dX8_isNumber_4 : decode cX8_isNumber 4 = .ok (.iload_n 0, 1) := by decide +kernel
theorem dX8_isNumber_5 : decode cX8_isNumber 5 = .ok (.ldc 236, 2) := by decide +kernel
theorem dX8_isNumber_7 : decode cX8_isNumber 7 = .ok (.if_icmp .gt 7, 3) := by decide +kernel
theorem dX8_isNumber_10 : decode cX8_isNumber 10 = .ok (.iconst 1, 1) := by decide +kernel
theorem dX8_isNumber_11 : decode cX8_isNumber 11 = .ok (.goto 4, 3) := by decide +kernel
theorem dX8_isNumber_14 : decode cX8_isNumber 14 = .ok (.iconst 0, 1) := by decide +kernel
theorem dX8_isNumber_15 : decode cX8_isNumber 15 = .ok (.ireturn, 1) := by decide +kernel
theorem dX8_agrees_0 : decode cX8_agrees 0 = .ok (.iconst 0, 1) := by decide +kernel
theorem dX8_agrees_1 : decode cX8_agrees 1 = .ok (.istore_n 2, 1) := by decide +kernel
theorem dX8_agrees_2 : decode cX8_agrees 2 = .ok (.iload_n 2, 1) := by decide +kernel
theorem dX8_agrees_3 : decode cX8_agrees 3 = .ok (.aload_n 0, 1) := by decide +kernel
theorem dX8_agrees_4 : decode cX8_agrees 4 = .ok (.getfield 228, 3) := by decide +kernel
theorem dX8_agrees_7 : decode cX8_agrees 7 = .ok (.if_icmp .ge 36, 3) := by decide +kernel
theorem dX8_agrees_10 : decode cX8_agrees 10 = .ok (.iload_n 2, 1) := by decide +kernel
theorem dX8_agrees_11 : decode cX8_agrees 11 = .ok (.bipush 6, 2) := by decide +kernel
theorem dX8_agrees_13 : decode cX8_agrees 13 = .ok (.if_icmp .ge 30, 3) := by decide +kernel
theorem dX8_agrees_16 : decode cX8_agrees 16 = .ok (.iload_n 1, 1) := by decide +kernel
theorem dX8_agrees_17 : decode cX8_agrees 17 = .ok (.aload_n 0, 1) := by decide +kernel
theorem dX8_agrees_18 : decode cX8_agrees 18 = .ok (.getfield 34, 3) := by decide +kernel
theorem dX8_agrees_21 : decode cX8_agrees 21 = .ok (.iload_n 2, 1) := by decide +kernel
theorem dX8_agrees_22 : decode cX8_agrees 22 = .ok (.iaload, 1) := by decide +kernel
theorem dX8_agrees_23 : decode cX8_agrees 23 = .ok (.invokestatic 66, 3) := by decide +kernel
theorem dX8_agrees_26 : decode cX8_agrees 26 = .ok (.aload_n 0, 1) := by decide +kernel
theorem dX8_agrees_27 : decode cX8_agrees 27 = .ok (.getfield 38, 3) := by decide +kernel
theorem dX8_agrees_30 : decode cX8_agrees 30 = .ok (.iload_n 2, 1) := by decide +kernel
theorem dX8_agrees_31 : decode cX8_agrees 31 = .ok (.iaload, 1) := by decide +kernel
theorem dX8_agrees_32 : decode cX8_agrees 32 = .ok (.if_icmp .eq 5, 3) := by decide +kernel
theorem dX8_agrees_35 : decode cX8_agrees 35 = .ok (.iconst 0, 1) := by decide +kernel
theorem dX8_agrees_36 : decode cX8_agrees 36 = .ok (.ireturn, 1) := by decide +kernel
theorem dX8_agrees_37 : decode cX8_agrees 37 = .ok (.iinc 2 1, 3) := by decide +kernel
theorem dX8_agrees_40 : decode cX8_agrees 40 = .ok (.goto (-38), 3) := by decide +kernel
theorem dX8_agrees_43 : decode cX8_agrees 43 = .ok (.iconst 1, 1) := by decide +kernel
theorem dX8_agrees_44 : decode cX8_agrees 44 = .ok (.ireturn, 1) := by decide +kernel
end
section
theorem dX9_init_0 : decode cX9_init 0 = .ok (.aload_n 0, 1) := by decide +kernel
theorem dX9_init_1 : decode cX9_init 1 = .ok (.invokespecial 1, 3) := by decide +kernel
theorem dX9_init_4 : decode cX9_init 4 = .ok (.aload_n 0, 1) := by decide +kernel
theorem dX9_init_5 : decode cX9_init 5 = .ok (.bipush 95, 2) := by decide +kernel
theorem dX9_init_7 : decode cX9_init 7 = .ok (.newarray .int, 2) := by decide +kernel
theorem dX9_init_9 : decode cX9_init 9 = .ok (.putfield 7, 3) := by decide +kernel
theorem dX9_init_12 : decode cX9_init 12 = .ok (.aload_n 0, 1) := by decide +kernel
theorem dX9_init_13 : decode cX9_init 13 = .ok (.sipush 760, 3) := by decide +kernel
theorem dX9_init_16 : decode cX9_init 16 = .ok (.newarray .int, 2) := by decide +kernel
theorem dX9_init_18 : decode cX9_init 18 = .ok (.putfield 13, 3) := by decide +kernel
theorem dX9_init_21 : decode cX9_init 21 = .ok (.aload_n 0, 1) := by decide +kernel
theorem dX9_init_22 : decode cX9_init 22 = .ok (.sipush 190, 3) := by decide +kernel
theorem dX9_init_25 : decode cX9_init 25 = .ok (.newarray .int, 2) := by decide +kernel
theorem dX9_init_27 : decode cX9_init 27 = .ok (.putfield 16, 3) := by decide +kernel
theorem dX9_init_30 : decode cX9_init 30 = .ok (.aload_n 0, 1) := by decide +kernel
theorem dX9_init_31 : decode cX9_init 31 = .ok (.iconst 2, 1) := by decide +kernel
theorem dX9_init_32 : decode cX9_init 32 = .ok (.newarray .boolean, 2) := by decide +kernel
theorem dX9_init_34 : decode cX9_init 34 = .ok (.putfield 19, 3) := by decide +kernel
theorem dX9_init_37 : decode cX9_init 37 = .ok (.aload_n 0, 1) := by decide +kernel
theorem dX9_init_38 : decode cX9_init 38 = .ok (.bipush 6, 2) := by decide +kernel
theorem dX9_init_40 : decode cX9_init 40 = .ok (.newarray .int, 2) := by decide +kernel
theorem dX9_init_42 : decode cX9_init 42 = .ok (.putfield 23, 3) := by decide +kernel
theorem dX9_init_45 : decode cX9_init 45 = .ok (.aload_n 0, 1) := by decide +kernel
theorem dX9_init_46 : decode cX9_init 46 = .ok (.bipush 6, 2) := by decide +kernel
theorem dX9_init_48 : decode cX9_init 48 = .ok (.newarray .int, 2) := by decide +kernel
theorem dX9_init_50 : decode cX9_init 50 = .ok (.putfield 26, 3) := by decide +kernel
theorem dX9_init_53 : decode cX9_init 53 = .ok (.aload_n 0, 1) := by decide +kernel
theorem dX9_init_54 : decode cX9_init 54 = .ok (.getfield 7, 3) := by decide +kernel
theorem dX9_init_57 : decode cX9_init 57 = .ok (.iconst 0, 1) := by decide +kernel
theorem dX9_init_58 : decode cX9_init 58 = .ok (.iconst 1, 1) := by decide +kernel
theorem dX9_init_59 : decode cX9_init 59 = .ok (.iastore, 1) := by decide +kernel
theorem dX9_init_60 : decode cX9_init 60 = .ok (.aload_n 0, 1) := by decide +kernel
theorem dX9_init_61 : decode cX9_init 61 = .ok (.getfield 7, 3) := by decide +kernel
theorem dX9_init_64 : decode cX9_init 64 = .ok (.bipush 21, 2) := by decide +kernel
theorem dX9_init_66 : decode cX9_init 66 = .ok (.bipush 40, 2) := by decide +kernel
theorem dX9_init_68 : decode cX9_init 68 = .ok (.iastore, 1) := by decide +kernel
theorem dX9_init_69 : decode cX9_init 69 = .ok (.aload_n 0, 1) := by decide +kernel
theorem dX9_init_70 : decode cX9_init 70 = .ok (.getfield 7, 3) := by decide +kernel
theorem dX9_init_73 : decode cX9_init 73 = .ok (.bipush 35, 2) := by decide +kernel
theorem dX9_init_75 : decode cX9_init 75 = .ok (.iconst 1, 1) := by decide +kernel
theorem dX9_init_76 : decode cX9_init 76 = .ok (.iastore, 1) := by decide +kernel
theorem dX9_init_77 : decode cX9_init 77 = .ok (.aload_n 0, 1) := by decide +kernel
theorem dX9_init_78 : decode cX9_init 78 = .ok (.getfield 7, 3) := by decide +kernel
theorem dX9_init_81 : decode cX9_init 81 = .ok (.bipush 37, 2) := by decide +kernel
theorem dX9_init_83 : decode cX9_init 83 = .ok (.iconst 5, 1) := by decide +kernel
theorem dX9_init_84 : decode cX9_init 84 = .ok (.iastore, 1) := by decide +kernel
theorem dX9_init_85 : decode cX9_init 85 = .ok (.return_, 1) := by decide +kernel
theorem dX9_in_0 : decode cX9_in 0 = .ok (.iload_n 0, 1) := by decide +kernel
theorem dX9_in_1 : decode cX9_in 1 = .ok (.iload_n 1, 1) := by decide +kernel
theorem dX9_in_2 : decode cX9_in 2 = .ok (.if_icmp .lt 12, 3) := by decide +kernel
theorem dX9_in_5 : decode cX9_in 5 = .ok (.iload_n 0, 1) := by decide +kernel
theorem dX9_in_6 : decode cX9_in 6 = .ok (.iload_n 2, 1) := by decide +kernel
theorem dX9_in_7 : decode cX9_in 7 = .ok (.if_icmp .gt 7, 3) := by decide +kernel
theorem dX9_in_10 : decode cX9_in 10 = .ok (.iconst 1, 1) := by decide +kernel
theorem dX9_in_11 : decode cX9_in 11 = .ok (.goto 4, 3) := by decide +kernel
theorem dX9_in_14 : decode cX9_in 14 = .ok (.iconst 0, 1) := by decide +kernel
theorem dX9_in_15 : decode cX9_in 15 = .ok (.ireturn, 1) := by decide +kernel
theorem dX9_size_0 : decode cX9_size 0 = .ok (.iload_n 0, 1) := by decide +kernel
theorem dX9_size_1 : decode cX9_size 1 = .ok (.ifCond .ge 8, 3) := by decide +kernel
theorem dX9_size_4 : decode cX9_size 4 = .ok (.iload_n 0, 1) := by decide +kernel
theorem dX9_size_5 : decode cX9_size 5 = .ok (.ineg, 1) := by decide +kernel
theorem dX9_size_6 : decode cX9_size 6 = .ok (.goto 4, 3) := by decide +kernel
theorem dX9_size_9 : decode cX9_size 9 = .ok (.iload_n 0, 1) := by decide +kernel
theorem dX9_size_10 : decode cX9_size 10 = .ok (.ireturn, 1) := by decide +kernel
theorem dX9_second_0 : decode cX9_second 0 = .ok (.iload_n 0, 1) := by decide +kernel
theorem dX9_second_1 : decode cX9_second 1 = .ok (.ifCond .ne 8, 3) := by decide +kernel
theorem dX9_second_4 : decode cX9_second 4 = .ok (.bipush 24, 2) := by decide +kernel
theorem dX9_second_6 : decode cX9_second 6 = .ok (.goto 15, 3) := by decide +kernel
theorem dX9_second_9 : decode cX9_second 9 = .ok (.iload_n 0, 1) := by decide +kernel
theorem dX9_second_10 : decode cX9_second 10 = .ok (.iconst 1, 1) := by decide +kernel
theorem dX9_second_11 : decode cX9_second 11 = .ok (.if_icmp .ne 8, 3) := by decide +kernel
theorem dX9_second_14 : decode cX9_second 14 = .ok (.bipush 25, 2) := by decide +kernel
theorem dX9_second_16 : decode cX9_second 16 = .ok (.goto 5, 3) := by decide +kernel
theorem dX9_second_19 : decode cX9_second 19 = .ok (.bipush 30, 2) := by decide +kernel
theorem dX9_second_21 : decode cX9_second 21 = .ok (.ireturn, 1) := by decide +kernel
theorem dX9_dayOf_0 : decode cX9_dayOf 0 = .ok (.iload_n 0, 1) := by decide +kernel
theorem dX9_dayOf_1 : decode cX9_dayOf 1 = .ok (.iconst 3, 1) := by decide +kernel
theorem dX9_dayOf_2 : decode cX9_dayOf 2 = .ok (.if_icmp .ne 8, 3) := by decide +kernel
theorem dX9_dayOf_5 : decode cX9_dayOf 5 = .ok (.ldc 33, 2) := by decide +kernel
theorem dX9_dayOf_7 : decode cX9_dayOf 7 = .ok (.goto 10, 3) := by decide +kernel
theorem dX9_dayOf_10 : decode cX9_dayOf 10 = .ok (.ldc 34, 2) := by decide +kernel
theorem dX9_dayOf_12 : decode cX9_dayOf 12 = .ok (.iload_n 0, 1) := by decide +kernel
theorem dX9_dayOf_13 : decode cX9_dayOf 13 = .ok (.invokestatic 35, 3) := by decide +kernel
theorem dX9_dayOf_16 : decode cX9_dayOf 16 = .ok (.imul, 1) := by decide +kernel
theorem dX9_dayOf_17 : decode cX9_dayOf 17 = .ok (.ireturn, 1) := by decide +kernel
theorem dX9_day_0 : decode cX9_day 0 = .ok (.aload_n 0, 1) := by decide +kernel
theorem dX9_day_1 : decode cX9_day 1 = .ok (.getfield 7, 3) := by decide +kernel
theorem dX9_day_4 : decode cX9_day 4 = .ok (.iconst 0, 1) := by decide +kernel
theorem dX9_day_5 : decode cX9_day 5 = .ok (.iaload, 1) := by decide +kernel
theorem dX9_day_6 : decode cX9_day 6 = .ok (.invokestatic 39, 3) := by decide +kernel
theorem dX9_day_9 : decode cX9_day 9 = .ok (.ireturn, 1) := by decide +kernel
theorem dX9_around_0 : decode cX9_around 0 = .ok (.iload_n 1, 1) := by decide +kernel
theorem dX9_around_1 : decode cX9_around 1 = .ok (.aload_n 0, 1) := by decide +kernel
theorem dX9_around_2 : decode cX9_around 2 = .ok (.invokevirtual 42, 3) := by decide +kernel
theorem dX9_around_5 : decode cX9_around 5 = .ok (.irem, 1) := by decide +kernel
theorem dX9_around_6 : decode cX9_around 6 = .ok (.istore_n 2, 1) := by decide +kernel
theorem dX9_around_7 : decode cX9_around 7 = .ok (.iload_n 2, 1) := by decide +kernel
theorem dX9_around_8 : decode cX9_around 8 = .ok (.ifCond .ge 12, 3) := by decide +kernel
theorem dX9_around_11 : decode cX9_around 11 = .ok (.iload_n 2, 1) := by decide +kernel
theorem dX9_around_12 : decode cX9_around 12 = .ok (.aload_n 0, 1) := by decide +kernel
theorem dX9_around_13 : decode cX9_around 13 = .ok (.invokevirtual 42, 3) := by decide +kernel
theorem dX9_around_16 : decode cX9_around 16 = .ok (.iadd, 1) := by decide +kernel
theorem dX9_around_17 : decode cX9_around 17 = .ok (.goto 4, 3) := by decide +kernel
theorem dX9_around_20 : decode cX9_around 20 = .ok (.iload_n 2, 1) := by decide +kernel
theorem dX9_around_21 : decode cX9_around 21 = .ok (.ireturn, 1) := by decide +kernel
theorem dX9_isFrame_0 : decode cX9_isFrame 0 = .ok (.iload_n 1, 1) := by decide +kernel
theorem dX9_isFrame_1 : decode cX9_isFrame 1 = .ok (.iconst 0, 1) := by decide +kernel
theorem dX9_isFrame_2 : decode cX9_isFrame 2 = .ok (.aload_n 0, 1) := by decide +kernel
theorem dX9_isFrame_3 : decode cX9_isFrame 3 = .ok (.invokevirtual 42, 3) := by decide +kernel
theorem dX9_isFrame_6 : decode cX9_isFrame 6 = .ok (.iconst 1, 1) := by decide +kernel
theorem dX9_isFrame_7 : decode cX9_isFrame 7 = .ok (.isub, 1) := by decide +kernel
theorem dX9_isFrame_8 : decode cX9_isFrame 8 = .ok (.invokestatic 46, 3) := by decide +kernel
theorem dX9_isFrame_11 : decode cX9_isFrame 11 = .ok (.ireturn, 1) := by decide +kernel
theorem dX9_rank_0 : decode cX9_rank 0 = .ok (.iload_n 0, 1) := by decide +kernel
theorem dX9_rank_1 : decode cX9_rank 1 = .ok (.iconst 3, 1) := by decide +kernel
theorem dX9_rank_2 : decode cX9_rank 2 = .ok (.if_icmp .ge 5, 3) := by decide +kernel
theorem dX9_rank_5 : decode cX9_rank 5 = .ok (.iload_n 1, 1) := by decide +kernel
theorem dX9_rank_6 : decode cX9_rank 6 = .ok (.ireturn, 1) := by decide +kernel
theorem dX9_rank_7 : decode cX9_rank 7 = .ok (.iload_n 1, 1) := by decide +kernel
theorem dX9_rank_8 : decode cX9_rank 8 = .ok (.sipush 17982, 3) := by decide +kernel
theorem dX9_rank_11 : decode cX9_rank 11 = .ok (.idiv, 1) := by decide +kernel
theorem dX9_rank_12 : decode cX9_rank 12 = .ok (.istore_n 2, 1) := by decide +kernel
theorem dX9_rank_13 : decode cX9_rank 13 = .ok (.iload_n 1, 1) := by decide +kernel
theorem dX9_rank_14 : decode cX9_rank 14 = .ok (.sipush 17982, 3) := by decide +kernel
theorem dX9_rank_17 : decode cX9_rank 17 = .ok (.irem, 1) := by decide +kernel
theorem dX9_rank_18 : decode cX9_rank 18 = .ok (.istore_n 3, 1) := by decide +kernel
theorem dX9_rank_19 : decode cX9_rank 19 = .ok (.iload_n 1, 1) := by decide +kernel
theorem dX9_rank_20 : decode cX9_rank 20 = .ok (.bipush 18, 2) := by decide +kernel
theorem dX9_rank_22 : decode cX9_rank 22 = .ok (.iload_n 2, 1) := by decide +kernel
theorem dX9_rank_23 : decode cX9_rank 23 = .ok (.imul, 1) := by decide +kernel
theorem dX9_rank_24 : decode cX9_rank 24 = .ok (.iadd, 1) := by decide +kernel
theorem dX9_rank_25 : decode cX9_rank 25 = .ok (.iload_n 3, 1) := by decide +kernel
theorem dX9_rank_26 : decode cX9_rank 26 = .ok (.sipush 1800, 3) := by decide +kernel
theorem dX9_rank_29 : decode cX9_rank 29 = .ok (.if_icmp .ge 7, 3) := by decide +kernel
theorem dX9_rank_32 : decode cX9_rank 32 = .ok (.iconst 0, 1) := by decide +kernel
theorem dX9_rank_33 : decode cX9_rank 33 = .ok (.goto 16, 3) := by decide +kernel
theorem dX9_rank_36 : decode cX9_rank 36 = .ok (.iconst 2, 1) := by decide +kernel
theorem dX9_rank_37 : decode cX9_rank 37 = .ok (.iconst 1, 1) := by decide +kernel
theorem dX9_rank_38 : decode cX9_rank 38 = .ok (.iload_n 3, 1) := by decide +kernel
theorem dX9_rank_39 : decode cX9_rank 39 = .ok (.sipush 1800, 3) := by decide +kernel
theorem dX9_rank_42 : decode cX9_rank 42 = .ok (.isub, 1) := by decide +kernel
theorem dX9_rank_43 : decode cX9_rank 43 = .ok (.sipush 1798, 3) := by decide +kernel
theorem dX9_rank_46 : decode cX9_rank 46 = .ok (.idiv, 1) := by decide +kernel
theorem dX9_rank_47 : decode cX9_rank 47 = .ok (.iadd, 1) := by decide +kernel
theorem dX9_rank_48 : decode cX9_rank 48 = .ok (.imul, 1) := by decide +kernel
theorem dX9_rank_49 : decode cX9_rank 49 = .ok (.iadd, 1) := by decide +kernel
theorem dX9_rank_50 : decode cX9_rank 50 = .ok (.ireturn, 1) := by decide +kernel
theorem dX9_numberOf_0 : decode cX9_numberOf 0 = .ok (.iload_n 0, 1) := by decide +kernel
theorem dX9_numberOf_1 : decode cX9_numberOf 1 = .ok (.iload_n 1, 1) := by decide +kernel
theorem dX9_numberOf_2 : decode cX9_numberOf 2 = .ok (.invokestatic 50, 3) := by decide +kernel
theorem dX9_numberOf_5 : decode cX9_numberOf 5 = .ok (.istore_n 2, 1) := by decide +kernel
theorem dX9_numberOf_6 : decode cX9_numberOf 6 = .ok (.iload_n 0, 1) := by decide +kernel
theorem dX9_numberOf_7 : decode cX9_numberOf 7 = .ok (.invokestatic 35, 3) := by decide +kernel
theorem dX9_numberOf_10 : decode cX9_numberOf 10 = .ok (.istore_n 3, 1) := by decide +kernel
theorem dX9_numberOf_11 : decode cX9_numberOf 11 = .ok (.iload_n 2, 1) := by decide +kernel
theorem dX9_numberOf_12 : decode cX9_numberOf 12 = .ok (.iload_n 3, 1) := by decide +kernel
theorem dX9_numberOf_13 : decode cX9_numberOf 13 = .ok (.idiv, 1) := by decide +kernel
theorem dX9_numberOf_14 : decode cX9_numberOf 14 = .ok (.istore 4, 2) := by decide +kernel
theorem dX9_numberOf_16 : decode cX9_numberOf 16 = .ok (.iload 4, 2) := by decide +kernel
theorem dX9_numberOf_18 : decode cX9_numberOf 18 = .ok (.sipush 3600, 3) := by decide +kernel
theorem dX9_numberOf_21 : decode cX9_numberOf 21 = .ok (.idiv, 1) := by decide +kernel
theorem dX9_numberOf_22 : decode cX9_numberOf 22 = .ok (.ldc 54, 2) := by decide +kernel
theorem dX9_numberOf_24 : decode cX9_numberOf 24 = .ok (.imul, 1) := by decide +kernel
theorem dX9_numberOf_25 : decode cX9_numberOf 25 = .ok (.iload 4, 2) := by decide +kernel
theorem dX9_numberOf_27 : decode cX9_numberOf 27 = .ok (.bipush 60, 2) := by decide +kernel
theorem dX9_numberOf_29 : decode cX9_numberOf 29 = .ok (.idiv, 1) := by decide +kernel
theorem dX9_numberOf_30 : decode cX9_numberOf 30 = .ok (.bipush 60, 2) := by decide +kernel
theorem dX9_numberOf_32 : decode cX9_numberOf 32 = .ok (.irem, 1) := by decide +kernel
theorem dX9_numberOf_33 : decode cX9_numberOf 33 = .ok (.sipush 10000, 3) := by decide +kernel
theorem dX9_numberOf_36 : decode cX9_numberOf 36 = .ok (.imul, 1) := by decide +kernel
theorem dX9_numberOf_37 : decode cX9_numberOf 37 = .ok (.iadd, 1) := by decide +kernel
theorem dX9_numberOf_38 : decode cX9_numberOf 38 = .ok (.iload 4, 2) := by decide +kernel
theorem dX9_numberOf_40 : decode cX9_numberOf 40 = .ok (.bipush 60, 2) := by decide +kernel
theorem dX9_numberOf_42 : decode cX9_numberOf 42 = .ok (.irem, 1) := by decide +kernel
theorem dX9_numberOf_43 : decode cX9_numberOf 43 = .ok (.bipush 100, 2) := by decide +kernel
theorem dX9_numberOf_45 : decode cX9_numberOf 45 = .ok (.imul, 1) := by decide +kernel
theorem dX9_numberOf_46 : decode cX9_numberOf 46 = .ok (.iadd, 1) := by decide +kernel
theorem dX9_numberOf_47 : decode cX9_numberOf 47 = .ok (.iload_n 2, 1) := by decide +kernel
theorem dX9_numberOf_48 : decode cX9_numberOf 48 = .ok (.iload_n 3, 1) := by decide +kernel
theorem dX9_numberOf_49 : decode cX9_numberOf 49 = .ok (.irem, 1) := by decide +kernel
theorem dX9_numberOf_50 : decode cX9_numberOf 50 = .ok (.iadd, 1) := by decide +kernel
theorem dX9_numberOf_51 : decode cX9_numberOf 51 = .ok (.ireturn, 1) := by decide +kernel
theorem dX9_frameOf_0 : decode cX9_frameOf 0 = .ok (.iload_n 1, 1) := by decide +kernel
theorem dX9_frameOf_1 : decode cX9_frameOf 1 = .ok (.bipush 100, 2) := by decide +kernel
theorem dX9_frameOf_3 : decode cX9_frameOf 3 = .ok (.irem, 1) := by decide +kernel
theorem dX9_frameOf_4 : decode cX9_frameOf 4 = .ok (.istore_n 2, 1) := by decide +kernel
theorem dX9_frameOf_5 : decode cX9_frameOf 5 = .ok (.iload_n 1, 1) := by decide +kernel
theorem dX9_frameOf_6 : decode cX9_frameOf 6 = .ok (.bipush 100, 2) := by decide +kernel
theorem dX9_frameOf_8 : decode cX9_frameOf 8 = .ok (.idiv, 1) := by decide +kernel
theorem dX9_frameOf_9 : decode cX9_frameOf 9 = .ok (.bipush 100, 2) := by decide +kernel
theorem dX9_frameOf_11 : decode cX9_frameOf 11 = .ok (.irem, 1) := by decide +kernel
theorem dX9_frameOf_12 : decode cX9_frameOf 12 = .ok (.istore_n 3, 1) := by decide +kernel
theorem dX9_frameOf_13 : decode cX9_frameOf 13 = .ok (.iload_n 1, 1) := by decide +kernel
theorem dX9_frameOf_14 : decode cX9_frameOf 14 = .ok (.sipush 10000, 3) := by decide +kernel
theorem dX9_frameOf_17 : decode cX9_frameOf 17 = .ok (.idiv, 1) := by decide +kernel
theorem dX9_frameOf_18 : decode cX9_frameOf 18 = .ok (.bipush 100, 2) := by decide +kernel
theorem dX9_frameOf_20 : decode cX9_frameOf 20 = .ok (.irem, 1) := by decide +kernel
theorem dX9_frameOf_21 : decode cX9_frameOf 21 = .ok (.istore 4, 2) := by decide +kernel
theorem dX9_frameOf_23 : decode cX9_frameOf 23 = .ok (.iload_n 1, 1) := by decide +kernel
theorem dX9_frameOf_24 : decode cX9_frameOf 24 = .ok (.ldc 54, 2) := by decide +kernel
theorem dX9_frameOf_26 : decode cX9_frameOf 26 = .ok (.idiv, 1) := by decide +kernel
theorem dX9_frameOf_27 : decode cX9_frameOf 27 = .ok (.istore 5, 2) := by decide +kernel
theorem dX9_frameOf_29 : decode cX9_frameOf 29 = .ok (.iload_n 2, 1) := by decide +kernel
theorem dX9_frameOf_30 : decode cX9_frameOf 30 = .ok (.iload_n 0, 1) := by decide +kernel
theorem dX9_frameOf_31 : decode cX9_frameOf 31 = .ok (.invokestatic 35, 3) := by decide +kernel
theorem dX9_frameOf_34 : decode cX9_frameOf 34 = .ok (.if_icmp .ge 23, 3) := by decide +kernel
theorem dX9_frameOf_37 : decode cX9_frameOf 37 = .ok (.iload_n 3, 1) := by decide +kernel
theorem dX9_frameOf_38 : decode cX9_frameOf 38 = .ok (.bipush 59, 2) := by decide +kernel
theorem dX9_frameOf_40 : decode cX9_frameOf 40 = .ok (.if_icmp .gt 17, 3) := by decide +kernel
theorem dX9_frameOf_43 : decode cX9_frameOf 43 = .ok (.iload 4, 2) := by decide +kernel
theorem dX9_frameOf_45 : decode cX9_frameOf 45 = .ok (.bipush 59, 2) := by decide +kernel
theorem dX9_frameOf_47 : decode cX9_frameOf 47 = .ok (.if_icmp .gt 10, 3) := by decide +kernel
theorem dX9_frameOf_50 : decode cX9_frameOf 50 = .ok (.iload 5, 2) := by decide +kernel
theorem dX9_frameOf_52 : decode cX9_frameOf 52 = .ok (.bipush 23, 2) := by decide +kernel
theorem dX9_frameOf_54 : decode cX9_frameOf 54 = .ok (.if_icmp .le 6, 3) := by decide +kernel
theorem dX9_frameOf_57 : decode cX9_frameOf 57 = .ok (.bipush (-9), 2) := by decide +kernel
theorem dX9_frameOf_59 : decode cX9_frameOf 59 = .ok (.ireturn, 1) := by decide +kernel
theorem dX9_frameOf_60 : decode cX9_frameOf 60 = .ok (.bipush 60, 2) := by decide +kernel
theorem dX9_frameOf_62 : decode cX9_frameOf 62 = .ok (.iload 5, 2) := by decide +kernel
theorem dX9_frameOf_64 : decode cX9_frameOf 64 = .ok (.imul, 1) := by decide +kernel
theorem dX9_frameOf_65 : decode cX9_frameOf 65 = .ok (.iload 4, 2) := by decide +kernel
theorem dX9_frameOf_67 : decode cX9_frameOf 67 = .ok (.iadd, 1) := by decide +kernel
theorem dX9_frameOf_68 : decode cX9_frameOf 68 = .ok (.istore 6, 2) := by decide +kernel
theorem dX9_frameOf_70 : decode cX9_frameOf 70 = .ok (.bipush 60, 2) := by decide +kernel
theorem dX9_frameOf_72 : decode cX9_frameOf 72 = .ok (.iload 6, 2) := by decide +kernel
theorem dX9_frameOf_74 : decode cX9_frameOf 74 = .ok (.imul, 1) := by decide +kernel
theorem dX9_frameOf_75 : decode cX9_frameOf 75 = .ok (.iload_n 3, 1) := by decide +kernel
theorem dX9_frameOf_76 : decode cX9_frameOf 76 = .ok (.iadd, 1) := by decide +kernel
theorem dX9_frameOf_77 : decode cX9_frameOf 77 = .ok (.iload_n 0, 1) := by decide +kernel
theorem dX9_frameOf_78 : decode cX9_frameOf 78 = .ok (.invokestatic 35, 3) := by decide +kernel
theorem dX9_frameOf_81 : decode cX9_frameOf 81 = .ok (.imul, 1) := by decide +kernel
theorem dX9_frameOf_82 : decode cX9_frameOf 82 = .ok (.iload_n 2, 1) := by decide +kernel
theorem dX9_frameOf_83 : decode cX9_frameOf 83 = .ok (.iadd, 1) := by decide +kernel
theorem dX9_frameOf_84 : decode cX9_frameOf 84 = .ok (.istore 7, 2) := by decide +kernel
theorem dX9_frameOf_86 : decode cX9_frameOf 86 = .ok (.iload_n 0, 1) := by decide +kernel
theorem dX9_frameOf_87 : decode cX9_frameOf 87 = .ok (.iconst 3, 1) := by decide +kernel
theorem dX9_frameOf_88 : decode cX9_frameOf 88 = .ok (.if_icmp .ge 6, 3) := by decide +kernel
theorem dX9_frameOf_91 : decode cX9_frameOf 91 = .ok (.iload 7, 2) := by decide +kernel
theorem dX9_frameOf_93 : decode cX9_frameOf 93 = .ok (.ireturn, 1) := by decide +kernel
theorem dX9_frameOf_94 : decode cX9_frameOf 94 = .ok (.iload 4, 2) := by decide +kernel
theorem dX9_frameOf_96 : decode cX9_frameOf 96 = .ok (.bipush 10, 2) := by decide +kernel
theorem dX9_frameOf_98 : decode cX9_frameOf 98 = .ok (.irem, 1) := by decide +kernel
theorem dX9_frameOf_99 : decode cX9_frameOf 99 = .ok (.ifCond .le 17, 3) := by decide +kernel
theorem dX9_frameOf_102 : decode cX9_frameOf 102 = .ok (.iload_n 3, 1) := by decide +kernel
theorem dX9_frameOf_103 : decode cX9_frameOf 103 = .ok (.ifCond .ne 13, 3) := by decide +kernel
theorem dX9_frameOf_106 : decode cX9_frameOf 106 = .ok (.iload_n 2, 1) := by decide +kernel
theorem dX9_frameOf_107 : decode cX9_frameOf 107 = .ok (.iconst 2, 1) := by decide +kernel
theorem dX9_frameOf_108 : decode cX9_frameOf 108 = .ok (.if_icmp .ge 8, 3) := by decide +kernel
theorem dX9_frameOf_111 : decode cX9_frameOf 111 = .ok (.bipush (-9), 2) := by decide +kernel
theorem dX9_frameOf_113 : decode cX9_frameOf 113 = .ok (.goto 16, 3) := by decide +kernel
theorem dX9_frameOf_116 : decode cX9_frameOf 116 = .ok (.iload 7, 2) := by decide +kernel
theorem dX9_frameOf_118 : decode cX9_frameOf 118 = .ok (.iconst 2, 1) := by decide +kernel
theorem dX9_frameOf_119 : decode cX9_frameOf 119 = .ok (.iload 6, 2) := by decide +kernel
theorem dX9_frameOf_121 : decode cX9_frameOf 121 = .ok (.iload 6, 2) := by decide +kernel
theorem dX9_frameOf_123 : decode cX9_frameOf 123 = .ok (.bipush 10, 2) := by decide +kernel
theorem dX9_frameOf_125 : decode cX9_frameOf 125 = .ok (.idiv, 1) := by decide +kernel
theorem dX9_frameOf_126 : decode cX9_frameOf 126 = .ok (.isub, 1) := by decide +kernel
theorem dX9_frameOf_127 : decode cX9_frameOf 127 = .ok (.imul, 1) := by decide +kernel
theorem dX9_frameOf_128 : decode cX9_frameOf 128 = .ok (.isub, 1) := by decide +kernel
theorem dX9_frameOf_129 : decode cX9_frameOf 129 = .ok (.ireturn, 1) := by decide +kernel
theorem dX9_number_0 : decode cX9_number 0 = .ok (.aload_n 0, 1) := by decide +kernel
theorem dX9_number_1 : decode cX9_number 1 = .ok (.iconst 0, 1) := by decide +kernel
theorem dX9_number_2 : decode cX9_number 2 = .ok (.putfield 29, 3) := by decide +kernel
theorem dX9_number_5 : decode cX9_number 5 = .ok (.aload_n 0, 1) := by decide +kernel
theorem dX9_number_6 : decode cX9_number 6 = .ok (.iload_n 1, 1) := by decide +kernel
theorem dX9_number_7 : decode cX9_number 7 = .ok (.invokevirtual 55, 3) := by decide +kernel
theorem dX9_number_10 : decode cX9_number 10 = .ok (.ifCond .eq 16, 3) := by decide +kernel
theorem dX9_number_13 : decode cX9_number 13 = .ok (.aload_n 0, 1) := by decide +kernel
theorem dX9_number_14 : decode cX9_number 14 = .ok (.getfield 7, 3) := by decide +kernel
theorem dX9_number_17 : decode cX9_number 17 = .ok (.iconst 0, 1) := by decide +kernel
theorem dX9_number_18 : decode cX9_number 18 = .ok (.iaload, 1) := by decide +kernel
theorem dX9_number_19 : decode cX9_number 19 = .ok (.iload_n 1, 1) := by decide +kernel
theorem dX9_number_20 : decode cX9_number 20 = .ok (.invokestatic 59, 3) := by decide +kernel
theorem dX9_number_23 : decode cX9_number 23 = .ok (.goto 4, 3) := by decide +kernel
theorem dX9_number_26 : decode cX9_number 26 = .ok (.iconst (-1), 1) := by decide +kernel
theorem dX9_number_27 : decode cX9_number 27 = .ok (.ireturn, 1) := by decide +kernel
theorem dX9_frame_0 : decode cX9_frame 0 = .ok (.aload_n 0, 1) := by decide +kernel
theorem dX9_frame_1 : decode cX9_frame 1 = .ok (.iconst 0, 1) := by decide +kernel
theorem dX9_frame_2 : decode cX9_frame 2 = .ok (.putfield 29, 3) := by decide +kernel
theorem dX9_frame_5 : decode cX9_frame 5 = .ok (.iload_n 1, 1) := by decide +kernel
theorem dX9_frame_6 : decode cX9_frame 6 = .ok (.iconst 0, 1) := by decide +kernel
theorem dX9_frame_7 : decode cX9_frame 7 = .ok (.ldc 62, 2) := by decide +kernel
theorem dX9_frame_9 : decode cX9_frame 9 = .ok (.invokestatic 46, 3) := by decide +kernel
theorem dX9_frame_12 : decode cX9_frame 12 = .ok (.ifCond .eq 16, 3) := by decide +kernel
theorem dX9_frame_15 : decode cX9_frame 15 = .ok (.aload_n 0, 1) := by decide +kernel
theorem dX9_frame_16 : decode cX9_frame 16 = .ok (.getfield 7, 3) := by decide +kernel
theorem dX9_frame_19 : decode cX9_frame 19 = .ok (.iconst 0, 1) := by decide +kernel
theorem dX9_frame_20 : decode cX9_frame 20 = .ok (.iaload, 1) := by decide +kernel
theorem dX9_frame_21 : decode cX9_frame 21 = .ok (.iload_n 1, 1) := by decide +kernel
theorem dX9_frame_22 : decode cX9_frame 22 = .ok (.invokestatic 63, 3) := by decide +kernel
theorem dX9_frame_25 : decode cX9_frame 25 = .ok (.goto 4, 3) := by decide +kernel
theorem dX9_frame_28 : decode cX9_frame 28 = .ok (.iconst (-1), 1) := by decide +kernel
theorem dX9_frame_29 : decode cX9_frame 29 = .ok (.ireturn, 1) := by decide +kernel
theorem dX9_dropped_0 : decode cX9_dropped 0 = .ok (.aload_n 0, 1) := by decide +kernel
theorem dX9_dropped_1 : decode cX9_dropped 1 = .ok (.iconst 0, 1) := by decide +kernel
theorem dX9_dropped_2 : decode cX9_dropped 2 = .ok (.putfield 29, 3) := by decide +kernel
theorem dX9_dropped_5 : decode cX9_dropped 5 = .ok (.aload_n 0, 1) := by decide +kernel
theorem dX9_dropped_6 : decode cX9_dropped 6 = .ok (.iload_n 1, 1) := by decide +kernel
theorem dX9_dropped_7 : decode cX9_dropped 7 = .ok (.invokevirtual 55, 3) := by decide +kernel
theorem dX9_dropped_10 : decode cX9_dropped 10 = .ok (.ifCond .eq 11, 3) := by decide +kernel
theorem dX9_dropped_13 : decode cX9_dropped 13 = .ok (.aload_n 0, 1) := by decide +kernel
theorem dX9_dropped_14 : decode cX9_dropped 14 = .ok (.iload_n 2, 1) := by decide +kernel
theorem dX9_dropped_15 : decode cX9_dropped 15 = .ok (.invokevirtual 55, 3) := by decide +kernel
theorem dX9_dropped_18 : decode cX9_dropped 18 = .ok (.ifCond .ne 5, 3) := by decide +kernel
theorem dX9_dropped_21 : decode cX9_dropped 21 = .ok (.iconst (-1), 1) := by decide +kernel
theorem dX9_dropped_22 : decode cX9_dropped 22 = .ok (.ireturn, 1) := by decide +kernel
theorem dX9_dropped_23 : decode cX9_dropped 23 = .ok (.aload_n 0, 1) := by decide +kernel
theorem dX9_dropped_24 : decode cX9_dropped 24 = .ok (.getfield 7, 3) := by decide +kernel
theorem dX9_dropped_27 : decode cX9_dropped 27 = .ok (.iconst 0, 1) := by decide +kernel
theorem dX9_dropped_28 : decode cX9_dropped 28 = .ok (.iaload, 1) := by decide +kernel
theorem dX9_dropped_29 : decode cX9_dropped 29 = .ok (.iload_n 2, 1) := by decide +kernel
theorem dX9_dropped_30 : decode cX9_dropped 30 = .ok (.invokestatic 50, 3) := by decide +kernel
theorem dX9_dropped_33 : decode cX9_dropped 33 = .ok (.iload_n 2, 1) := by decide +kernel
theorem dX9_dropped_34 : decode cX9_dropped 34 = .ok (.isub, 1) := by decide +kernel
theorem dX9_dropped_35 : decode cX9_dropped 35 = .ok (.aload_n 0, 1) := by decide +kernel
theorem dX9_dropped_36 : decode cX9_dropped 36 = .ok (.getfield 7, 3) := by decide +kernel
theorem dX9_dropped_39 : decode cX9_dropped 39 = .ok (.iconst 0, 1) := by decide +kernel
theorem dX9_dropped_40 : decode cX9_dropped 40 = .ok (.iaload, 1) := by decide +kernel
theorem dX9_dropped_41 : decode cX9_dropped 41 = .ok (.iload_n 1, 1) := by decide +kernel
theorem dX9_dropped_42 : decode cX9_dropped 42 = .ok (.invokestatic 50, 3) := by decide +kernel
theorem dX9_dropped_45 : decode cX9_dropped 45 = .ok (.iload_n 1, 1) := by decide +kernel
theorem dX9_dropped_46 : decode cX9_dropped 46 = .ok (.isub, 1) := by decide +kernel
theorem dX9_dropped_47 : decode cX9_dropped 47 = .ok (.isub, 1) := by decide +kernel
theorem dX9_dropped_48 : decode cX9_dropped 48 = .ok (.istore_n 3, 1) := by decide +kernel
theorem dX9_dropped_49 : decode cX9_dropped 49 = .ok (.iload_n 2, 1) := by decide +kernel
theorem dX9_dropped_50 : decode cX9_dropped 50 = .ok (.iload_n 1, 1) := by decide +kernel
theorem dX9_dropped_51 : decode cX9_dropped 51 = .ok (.if_icmp .ge 21, 3) := by decide +kernel
theorem dX9_dropped_54 : decode cX9_dropped 54 = .ok (.aload_n 0, 1) := by decide +kernel
theorem dX9_dropped_55 : decode cX9_dropped 55 = .ok (.getfield 7, 3) := by decide +kernel
theorem dX9_dropped_58 : decode cX9_dropped 58 = .ok (.iconst 0, 1) := by decide +kernel
theorem dX9_dropped_59 : decode cX9_dropped 59 = .ok (.iaload, 1) := by decide +kernel
theorem dX9_dropped_60 : decode cX9_dropped 60 = .ok (.iconst 3, 1) := by decide +kernel
theorem dX9_dropped_61 : decode cX9_dropped 61 = .ok (.if_icmp .ne 11, 3) := by decide +kernel
theorem dX9_dropped_64 : decode cX9_dropped 64 = .ok (.iload_n 3, 1) := by decide +kernel
theorem dX9_dropped_65 : decode cX9_dropped 65 = .ok (.sipush 2592, 3) := by decide +kernel
theorem dX9_dropped_68 : decode cX9_dropped 68 = .ok (.iadd, 1) := by decide +kernel
theorem dX9_dropped_69 : decode cX9_dropped 69 = .ok (.goto 4, 3) := by decide +kernel
theorem dX9_dropped_72 : decode cX9_dropped 72 = .ok (.iload_n 3, 1) := by decide +kernel
theorem dX9_dropped_73 : decode cX9_dropped 73 = .ok (.ireturn, 1) := by decide +kernel
theorem dX9_notes_0 : decode cX9_notes 0 = .ok (.aload_n 0, 1) := by decide +kernel
theorem dX9_notes_1 : decode cX9_notes 1 = .ok (.getfield 66, 3) := by decide +kernel
theorem dX9_notes_4 : decode cX9_notes 4 = .ok (.bipush 8, 2) := by decide +kernel
theorem dX9_notes_6 : decode cX9_notes 6 = .ok (.if_icmp .ne 43, 3) := by decide +kernel
theorem dX9_notes_9 : decode cX9_notes 9 = .ok (.iconst 0, 1) := by decide +kernel
theorem dX9_notes_10 : decode cX9_notes 10 = .ok (.istore_n 1, 1) := by decide +kernel
theorem dX9_notes_11 : decode cX9_notes 11 = .ok (.iload_n 1, 1) := by decide +kernel
theorem dX9_notes_12 : decode cX9_notes 12 = .ok (.sipush 665, 3) := by decide +kernel
theorem dX9_notes_15 : decode cX9_notes 15 = .ok (.if_icmp .ge 24, 3) := by decide +kernel
theorem dX9_notes_18 : decode cX9_notes 18 = .ok (.aload_n 0, 1) := by decide +kernel
theorem dX9_notes_19 : decode cX9_notes 19 = .ok (.getfield 13, 3) := by decide +kernel
theorem dX9_notes_22 : decode cX9_notes 22 = .ok (.iload_n 1, 1) := by decide +kernel
theorem dX9_notes_23 : decode cX9_notes 23 = .ok (.aload_n 0, 1) := by decide +kernel
theorem dX9_notes_24 : decode cX9_notes 24 = .ok (.getfield 13, 3) := by decide +kernel
theorem dX9_notes_27 : decode cX9_notes 27 = .ok (.iload_n 1, 1) := by decide +kernel
theorem dX9_notes_28 : decode cX9_notes 28 = .ok (.bipush 95, 2) := by decide +kernel
theorem dX9_notes_30 : decode cX9_notes 30 = .ok (.iadd, 1) := by decide +kernel
theorem dX9_notes_31 : decode cX9_notes 31 = .ok (.iaload, 1) := by decide +kernel
theorem dX9_notes_32 : decode cX9_notes 32 = .ok (.iastore, 1) := by decide +kernel
theorem dX9_notes_33 : decode cX9_notes 33 = .ok (.iinc 1 1, 3) := by decide +kernel
theorem dX9_notes_36 : decode cX9_notes 36 = .ok (.goto (-25), 3) := by decide +kernel
theorem dX9_notes_39 : decode cX9_notes 39 = .ok (.aload_n 0, 1) := by decide +kernel
theorem dX9_notes_40 : decode cX9_notes 40 = .ok (.dup, 1) := by decide +kernel
theorem dX9_notes_41 : decode cX9_notes 41 = .ok (.getfield 66, 3) := by decide +kernel
theorem dX9_notes_44 : decode cX9_notes 44 = .ok (.iconst 1, 1) := by decide +kernel
theorem dX9_notes_45 : decode cX9_notes 45 = .ok (.isub, 1) := by decide +kernel
theorem dX9_notes_46 : decode cX9_notes 46 = .ok (.putfield 66, 3) := by decide +kernel
theorem dX9_notes_49 : decode cX9_notes 49 = .ok (.iconst 0, 1) := by decide +kernel
theorem dX9_notes_50 : decode cX9_notes 50 = .ok (.istore_n 1, 1) := by decide +kernel
theorem dX9_notes_51 : decode cX9_notes 51 = .ok (.iload_n 1, 1) := by decide +kernel
theorem dX9_notes_52 : decode cX9_notes 52 = .ok (.bipush 95, 2) := by decide +kernel
theorem dX9_notes_54 : decode cX9_notes 54 = .ok (.if_icmp .ge 29, 3) := by decide +kernel
theorem dX9_notes_57 : decode cX9_notes 57 = .ok (.aload_n 0, 1) := by decide +kernel
theorem dX9_notes_58 : decode cX9_notes 58 = .ok (.getfield 13, 3) := by decide +kernel
theorem dX9_notes_61 : decode cX9_notes 61 = .ok (.bipush 95, 2) := by decide +kernel
theorem dX9_notes_63 : decode cX9_notes 63 = .ok (.aload_n 0, 1) := by decide +kernel
theorem dX9_notes_64 : decode cX9_notes 64 = .ok (.getfield 66, 3) := by decide +kernel
theorem dX9_notes_67 : decode cX9_notes 67 = .ok (.imul, 1) := by decide +kernel
theorem dX9_notes_68 : decode cX9_notes 68 = .ok (.iload_n 1, 1) := by decide +kernel
theorem dX9_notes_69 : decode cX9_notes 69 = .ok (.iadd, 1) := by decide +kernel
theorem dX9_notes_70 : decode cX9_notes 70 = .ok (.aload_n 0, 1) := by decide +kernel
theorem dX9_notes_71 : decode cX9_notes 71 = .ok (.getfield 7, 3) := by decide +kernel
theorem dX9_notes_74 : decode cX9_notes 74 = .ok (.iload_n 1, 1) := by decide +kernel
theorem dX9_notes_75 : decode cX9_notes 75 = .ok (.iaload, 1) := by decide +kernel
theorem dX9_notes_76 : decode cX9_notes 76 = .ok (.iastore, 1) := by decide +kernel
theorem dX9_notes_77 : decode cX9_notes 77 = .ok (.iinc 1 1, 3) := by decide +kernel
theorem dX9_notes_80 : decode cX9_notes 80 = .ok (.goto (-29), 3) := by decide +kernel
theorem dX9_notes_83 : decode cX9_notes 83 = .ok (.aload_n 0, 1) := by decide +kernel
theorem dX9_notes_84 : decode cX9_notes 84 = .ok (.dup, 1) := by decide +kernel
theorem dX9_notes_85 : decode cX9_notes 85 = .ok (.getfield 66, 3) := by decide +kernel
theorem dX9_notes_88 : decode cX9_notes 88 = .ok (.iconst 1, 1) := by decide +kernel
theorem dX9_notes_89 : decode cX9_notes 89 = .ok (.iadd, 1) := by decide +kernel
theorem dX9_notes_90 : decode cX9_notes 90 = .ok (.putfield 66, 3) := by decide +kernel
theorem dX9_notes_93 : decode cX9_notes 93 = .ok (.return_, 1) := by decide +kernel
theorem dX9_rates_0 : decode cX9_rates 0 = .ok (.aload_n 0, 1) := by decide +kernel
theorem dX9_rates_1 : decode cX9_rates 1 = .ok (.iconst 0, 1) := by decide +kernel
theorem dX9_rates_2 : decode cX9_rates 2 = .ok (.putfield 29, 3) := by decide +kernel
theorem dX9_rates_5 : decode cX9_rates 5 = .ok (.iload_n 1, 1) := by decide +kernel
theorem dX9_rates_6 : decode cX9_rates 6 = .ok (.iconst 0, 1) := by decide +kernel
theorem dX9_rates_7 : decode cX9_rates 7 = .ok (.iconst 3, 1) := by decide +kernel
theorem dX9_rates_8 : decode cX9_rates 8 = .ok (.invokestatic 46, 3) := by decide +kernel
theorem dX9_rates_11 : decode cX9_rates 11 = .ok (.ifCond .ne 5, 3) := by decide +kernel
theorem dX9_rates_14 : decode cX9_rates 14 = .ok (.iconst (-1), 1) := by decide +kernel
theorem dX9_rates_15 : decode cX9_rates 15 = .ok (.ireturn, 1) := by decide +kernel
theorem dX9_rates_16 : decode cX9_rates 16 = .ok (.aload_n 0, 1) := by decide +kernel
theorem dX9_rates_17 : decode cX9_rates 17 = .ok (.getfield 7, 3) := by decide +kernel
theorem dX9_rates_20 : decode cX9_rates 20 = .ok (.iconst 0, 1) := by decide +kernel
theorem dX9_rates_21 : decode cX9_rates 21 = .ok (.iaload, 1) := by decide +kernel
theorem dX9_rates_22 : decode cX9_rates 22 = .ok (.istore_n 2, 1) := by decide +kernel
theorem dX9_rates_23 : decode cX9_rates 23 = .ok (.iload_n 2, 1) := by decide +kernel
theorem dX9_rates_24 : decode cX9_rates 24 = .ok (.iload_n 1, 1) := by decide +kernel
theorem dX9_rates_25 : decode cX9_rates 25 = .ok (.if_icmp .ne 6, 3) := by decide +kernel
theorem dX9_rates_28 : decode cX9_rates 28 = .ok (.bipush (-2), 2) := by decide +kernel
theorem dX9_rates_30 : decode cX9_rates 30 = .ok (.ireturn, 1) := by decide +kernel
theorem dX9_rates_31 : decode cX9_rates 31 = .ok (.aload_n 0, 1) := by decide +kernel
theorem dX9_rates_32 : decode cX9_rates 32 = .ok (.invokevirtual 69, 3) := by decide +kernel
theorem dX9_rates_35 : decode cX9_rates 35 = .ok (.aload_n 0, 1) := by decide +kernel
theorem dX9_rates_36 : decode cX9_rates 36 = .ok (.getfield 7, 3) := by decide +kernel
theorem dX9_rates_39 : decode cX9_rates 39 = .ok (.iconst 0, 1) := by decide +kernel
theorem dX9_rates_40 : decode cX9_rates 40 = .ok (.iload_n 1, 1) := by decide +kernel
theorem dX9_rates_41 : decode cX9_rates 41 = .ok (.iastore, 1) := by decide +kernel
theorem dX9_rates_42 : decode cX9_rates 42 = .ok (.iconst 0, 1) := by decide +kernel
theorem dX9_rates_43 : decode cX9_rates 43 = .ok (.istore_n 3, 1) := by decide +kernel
theorem dX9_rates_44 : decode cX9_rates 44 = .ok (.iload_n 3, 1) := by decide +kernel
theorem dX9_rates_45 : decode cX9_rates 45 = .ok (.aload_n 0, 1) := by decide +kernel
theorem dX9_rates_46 : decode cX9_rates 46 = .ok (.getfield 7, 3) := by decide +kernel
theorem dX9_rates_49 : decode cX9_rates 49 = .ok (.iconst 1, 1) := by decide +kernel
theorem dX9_rates_50 : decode cX9_rates 50 = .ok (.iaload, 1) := by decide +kernel
theorem dX9_rates_51 : decode cX9_rates 51 = .ok (.if_icmp .ge 33, 3) := by decide +kernel
theorem dX9_rates_54 : decode cX9_rates 54 = .ok (.aload_n 0, 1) := by decide +kernel
theorem dX9_rates_55 : decode cX9_rates 55 = .ok (.getfield 7, 3) := by decide +kernel
theorem dX9_rates_58 : decode cX9_rates 58 = .ok (.iconst 2, 1) := by decide +kernel
theorem dX9_rates_59 : decode cX9_rates 59 = .ok (.iconst 3, 1) := by decide +kernel
theorem dX9_rates_60 : decode cX9_rates 60 = .ok (.iload_n 3, 1) := by decide +kernel
theorem dX9_rates_61 : decode cX9_rates 61 = .ok (.imul, 1) := by decide +kernel
theorem dX9_rates_62 : decode cX9_rates 62 = .ok (.iadd, 1) := by decide +kernel
theorem dX9_rates_63 : decode cX9_rates 63 = .ok (.aload_n 0, 1) := by decide +kernel
theorem dX9_rates_64 : decode cX9_rates 64 = .ok (.aload_n 0, 1) := by decide +kernel
theorem dX9_rates_65 : decode cX9_rates 65 = .ok (.getfield 7, 3) := by decide +kernel
theorem dX9_rates_68 : decode cX9_rates 68 = .ok (.iconst 2, 1) := by decide +kernel
theorem dX9_rates_69 : decode cX9_rates 69 = .ok (.iconst 3, 1) := by decide +kernel
theorem dX9_rates_70 : decode cX9_rates 70 = .ok (.iload_n 3, 1) := by decide +kernel
theorem dX9_rates_71 : decode cX9_rates 71 = .ok (.imul, 1) := by decide +kernel
theorem dX9_rates_72 : decode cX9_rates 72 = .ok (.iadd, 1) := by decide +kernel
theorem dX9_rates_73 : decode cX9_rates 73 = .ok (.iaload, 1) := by decide +kernel
theorem dX9_rates_74 : decode cX9_rates 74 = .ok (.invokevirtual 72, 3) := by decide +kernel
theorem dX9_rates_77 : decode cX9_rates 77 = .ok (.iastore, 1) := by decide +kernel
theorem dX9_rates_78 : decode cX9_rates 78 = .ok (.iinc 3 1, 3) := by decide +kernel
theorem dX9_rates_81 : decode cX9_rates 81 = .ok (.goto (-37), 3) := by decide +kernel
theorem dX9_rates_84 : decode cX9_rates 84 = .ok (.aload_n 0, 1) := by decide +kernel
theorem dX9_rates_85 : decode cX9_rates 85 = .ok (.getfield 7, 3) := by decide +kernel
theorem dX9_rates_88 : decode cX9_rates 88 = .ok (.bipush 34, 2) := by decide +kernel
theorem dX9_rates_90 : decode cX9_rates 90 = .ok (.aload_n 0, 1) := by decide +kernel
theorem dX9_rates_91 : decode cX9_rates 91 = .ok (.aload_n 0, 1) := by decide +kernel
theorem dX9_rates_92 : decode cX9_rates 92 = .ok (.getfield 7, 3) := by decide +kernel
theorem dX9_rates_95 : decode cX9_rates 95 = .ok (.bipush 34, 2) := by decide +kernel
theorem dX9_rates_97 : decode cX9_rates 97 = .ok (.iaload, 1) := by decide +kernel
theorem dX9_rates_98 : decode cX9_rates 98 = .ok (.invokevirtual 72, 3) := by decide +kernel
theorem dX9_rates_101 : decode cX9_rates 101 = .ok (.iastore, 1) := by decide +kernel
theorem dX9_rates_102 : decode cX9_rates 102 = .ok (.iconst 0, 1) := by decide +kernel
theorem dX9_rates_103 : decode cX9_rates 103 = .ok (.istore_n 3, 1) := by decide +kernel
theorem dX9_rates_104 : decode cX9_rates 104 = .ok (.iload_n 3, 1) := by decide +kernel
theorem dX9_rates_105 : decode cX9_rates 105 = .ok (.iconst 3, 1) := by decide +kernel
theorem dX9_rates_106 : decode cX9_rates 106 = .ok (.if_icmp .ge 35, 3) := by decide +kernel
theorem dX9_rates_109 : decode cX9_rates 109 = .ok (.aload_n 0, 1) := by decide +kernel
theorem dX9_rates_110 : decode cX9_rates 110 = .ok (.getfield 7, 3) := by decide +kernel
theorem dX9_rates_113 : decode cX9_rates 113 = .ok (.bipush 38, 2) := by decide +kernel
theorem dX9_rates_115 : decode cX9_rates 115 = .ok (.iconst 3, 1) := by decide +kernel
theorem dX9_rates_116 : decode cX9_rates 116 = .ok (.iload_n 3, 1) := by decide +kernel
theorem dX9_rates_117 : decode cX9_rates 117 = .ok (.imul, 1) := by decide +kernel
theorem dX9_rates_118 : decode cX9_rates 118 = .ok (.iadd, 1) := by decide +kernel
theorem dX9_rates_119 : decode cX9_rates 119 = .ok (.aload_n 0, 1) := by decide +kernel
theorem dX9_rates_120 : decode cX9_rates 120 = .ok (.aload_n 0, 1) := by decide +kernel
theorem dX9_rates_121 : decode cX9_rates 121 = .ok (.getfield 7, 3) := by decide +kernel
theorem dX9_rates_124 : decode cX9_rates 124 = .ok (.bipush 38, 2) := by decide +kernel
theorem dX9_rates_126 : decode cX9_rates 126 = .ok (.iconst 3, 1) := by decide +kernel
theorem dX9_rates_127 : decode cX9_rates 127 = .ok (.iload_n 3, 1) := by decide +kernel
theorem dX9_rates_128 : decode cX9_rates 128 = .ok (.imul, 1) := by decide +kernel
theorem dX9_rates_129 : decode cX9_rates 129 = .ok (.iadd, 1) := by decide +kernel
theorem dX9_rates_130 : decode cX9_rates 130 = .ok (.iaload, 1) := by decide +kernel
theorem dX9_rates_131 : decode cX9_rates 131 = .ok (.invokevirtual 72, 3) := by decide +kernel
theorem dX9_rates_134 : decode cX9_rates 134 = .ok (.iastore, 1) := by decide +kernel
theorem dX9_rates_135 : decode cX9_rates 135 = .ok (.iinc 3 1, 3) := by decide +kernel
theorem dX9_rates_138 : decode cX9_rates 138 = .ok (.goto (-34), 3) := by decide +kernel
theorem dX9_rates_141 : decode cX9_rates 141 = .ok (.iload_n 2, 1) := by decide +kernel
theorem dX9_rates_142 : decode cX9_rates 142 = .ok (.ireturn, 1) := by decide +kernel
theorem dX9_tape_0 : decode cX9_tape 0 = .ok (.iconst 0, 1) := by decide +kernel
theorem dX9_tape_1 : decode cX9_tape 1 = .ok (.istore_n 1, 1) := by decide +kernel
theorem dX9_tape_2 : decode cX9_tape 2 = .ok (.iconst 0, 1) := by decide +kernel
theorem dX9_tape_3 : decode cX9_tape 3 = .ok (.istore_n 2, 1) := by decide +kernel
theorem dX9_tape_4 : decode cX9_tape 4 = .ok (.iload_n 2, 1) := by decide +kernel
theorem dX9_tape_5 : decode cX9_tape 5 = .ok (.aload_n 0, 1) := by decide +kernel
theorem dX9_tape_6 : decode cX9_tape 6 = .ok (.getfield 7, 3) := by decide +kernel
theorem dX9_tape_9 : decode cX9_tape 9 = .ok (.iconst 1, 1) := by decide +kernel
theorem dX9_tape_10 : decode cX9_tape 10 = .ok (.iaload, 1) := by decide +kernel
theorem dX9_tape_11 : decode cX9_tape 11 = .ok (.if_icmp .ge 27, 3) := by decide +kernel
theorem dX9_tape_14 : decode cX9_tape 14 = .ok (.iload_n 1, 1) := by decide +kernel
theorem dX9_tape_15 : decode cX9_tape 15 = .ok (.bipush 48, 2) := by decide +kernel
theorem dX9_tape_17 : decode cX9_tape 17 = .ok (.aload_n 0, 1) := by decide +kernel
theorem dX9_tape_18 : decode cX9_tape 18 = .ok (.getfield 7, 3) := by decide +kernel
theorem dX9_tape_21 : decode cX9_tape 21 = .ok (.iconst 2, 1) := by decide +kernel
theorem dX9_tape_22 : decode cX9_tape 22 = .ok (.iconst 3, 1) := by decide +kernel
theorem dX9_tape_23 : decode cX9_tape 23 = .ok (.iload_n 2, 1) := by decide +kernel
theorem dX9_tape_24 : decode cX9_tape 24 = .ok (.imul, 1) := by decide +kernel
theorem dX9_tape_25 : decode cX9_tape 25 = .ok (.iadd, 1) := by decide +kernel
theorem dX9_tape_26 : decode cX9_tape 26 = .ok (.iconst 1, 1) := by decide +kernel
theorem dX9_tape_27 : decode cX9_tape 27 = .ok (.iadd, 1) := by decide +kernel
theorem dX9_tape_28 : decode cX9_tape 28 = .ok (.iaload, 1) := by decide +kernel
theorem dX9_tape_29 : decode cX9_tape 29 = .ok (.imul, 1) := by decide +kernel
theorem dX9_tape_30 : decode cX9_tape 30 = .ok (.iadd, 1) := by decide +kernel
theorem dX9_tape_31 : decode cX9_tape 31 = .ok (.istore_n 1, 1) := by decide +kernel
theorem dX9_tape_32 : decode cX9_tape 32 = .ok (.iinc 2 1, 3) := by decide +kernel
theorem dX9_tape_35 : decode cX9_tape 35 = .ok (.goto (-31), 3) := by decide +kernel
theorem dX9_tape_38 : decode cX9_tape 38 = .ok (.iload_n 1, 1) := by decide +kernel
theorem dX9_tape_39 : decode cX9_tape 39 = .ok (.ireturn, 1) := by decide +kernel
theorem dX9_lays_0 : decode cX9_lays 0 = .ok (.aload_n 0, 1) := by decide +kernel
theorem dX9_lays_1 : decode cX9_lays 1 = .ok (.iconst 0, 1) := by decide +kernel
theorem dX9_lays_2 : decode cX9_lays 2 = .ok (.putfield 29, 3) := by decide +kernel
theorem dX9_lays_5 : decode cX9_lays 5 = .ok (.aload_n 0, 1) := by decide +kernel
theorem dX9_lays_6 : decode cX9_lays 6 = .ok (.iload_n 1, 1) := by decide +kernel
theorem dX9_lays_7 : decode cX9_lays 7 = .ok (.invokevirtual 55, 3) := by decide +kernel
theorem dX9_lays_10 : decode cX9_lays 10 = .ok (.ifCond .eq 23, 3) := by decide +kernel
theorem dX9_lays_13 : decode cX9_lays 13 = .ok (.iload_n 2, 1) := by decide +kernel
theorem dX9_lays_14 : decode cX9_lays 14 = .ok (.iconst 1, 1) := by decide +kernel
theorem dX9_lays_15 : decode cX9_lays 15 = .ok (.bipush 40, 2) := by decide +kernel
theorem dX9_lays_17 : decode cX9_lays 17 = .ok (.invokestatic 46, 3) := by decide +kernel
theorem dX9_lays_20 : decode cX9_lays 20 = .ok (.ifCond .eq 13, 3) := by decide +kernel
theorem dX9_lays_23 : decode cX9_lays 23 = .ok (.iload_n 3, 1) := by decide +kernel
theorem dX9_lays_24 : decode cX9_lays 24 = .ok (.iconst 0, 1) := by decide +kernel
theorem dX9_lays_25 : decode cX9_lays 25 = .ok (.bipush 15, 2) := by decide +kernel
theorem dX9_lays_27 : decode cX9_lays 27 = .ok (.invokestatic 46, 3) := by decide +kernel
theorem dX9_lays_30 : decode cX9_lays 30 = .ok (.ifCond .ne 5, 3) := by decide +kernel
theorem dX9_lays_33 : decode cX9_lays 33 = .ok (.iconst (-1), 1) := by decide +kernel
theorem dX9_lays_34 : decode cX9_lays 34 = .ok (.ireturn, 1) := by decide +kernel
theorem dX9_lays_35 : decode cX9_lays 35 = .ok (.aload_n 0, 1) := by decide +kernel
theorem dX9_lays_36 : decode cX9_lays 36 = .ok (.getfield 7, 3) := by decide +kernel
theorem dX9_lays_39 : decode cX9_lays 39 = .ok (.iconst 1, 1) := by decide +kernel
theorem dX9_lays_40 : decode cX9_lays 40 = .ok (.iaload, 1) := by decide +kernel
theorem dX9_lays_41 : decode cX9_lays 41 = .ok (.bipush 6, 2) := by decide +kernel
theorem dX9_lays_43 : decode cX9_lays 43 = .ok (.if_icmp .ne 6, 3) := by decide +kernel
theorem dX9_lays_46 : decode cX9_lays 46 = .ok (.bipush (-3), 2) := by decide +kernel
theorem dX9_lays_48 : decode cX9_lays 48 = .ok (.ireturn, 1) := by decide +kernel
theorem dX9_lays_49 : decode cX9_lays 49 = .ok (.aload_n 0, 1) := by decide +kernel
theorem dX9_lays_50 : decode cX9_lays 50 = .ok (.invokevirtual 69, 3) := by decide +kernel
theorem dX9_lays_53 : decode cX9_lays 53 = .ok (.iconst 2, 1) := by decide +kernel
theorem dX9_lays_54 : decode cX9_lays 54 = .ok (.iconst 3, 1) := by decide +kernel
theorem dX9_lays_55 : decode cX9_lays 55 = .ok (.aload_n 0, 1) := by decide +kernel
theorem dX9_lays_56 : decode cX9_lays 56 = .ok (.getfield 7, 3) := by decide +kernel
theorem dX9_lays_59 : decode cX9_lays 59 = .ok (.iconst 1, 1) := by decide +kernel
theorem dX9_lays_60 : decode cX9_lays 60 = .ok (.iaload, 1) := by decide +kernel
theorem dX9_lays_61 : decode cX9_lays 61 = .ok (.imul, 1) := by decide +kernel
theorem dX9_lays_62 : decode cX9_lays 62 = .ok (.iadd, 1) := by decide +kernel
theorem dX9_lays_63 : decode cX9_lays 63 = .ok (.istore 4, 2) := by decide +kernel
theorem dX9_lays_65 : decode cX9_lays 65 = .ok (.aload_n 0, 1) := by decide +kernel
theorem dX9_lays_66 : decode cX9_lays 66 = .ok (.getfield 7, 3) := by decide +kernel
theorem dX9_lays_69 : decode cX9_lays 69 = .ok (.iload 4, 2) := by decide +kernel
theorem dX9_lays_71 : decode cX9_lays 71 = .ok (.iload_n 1, 1) := by decide +kernel
theorem dX9_lays_72 : decode cX9_lays 72 = .ok (.iastore, 1) := by decide +kernel
theorem dX9_lays_73 : decode cX9_lays 73 = .ok (.aload_n 0, 1) := by decide +kernel
theorem dX9_lays_74 : decode cX9_lays 74 = .ok (.getfield 7, 3) := by decide +kernel
theorem dX9_lays_77 : decode cX9_lays 77 = .ok (.iload 4, 2) := by decide +kernel
theorem dX9_lays_79 : decode cX9_lays 79 = .ok (.iconst 1, 1) := by decide +kernel
theorem dX9_lays_80 : decode cX9_lays 80 = .ok (.iadd, 1) := by decide +kernel
theorem dX9_lays_81 : decode cX9_lays 81 = .ok (.iload_n 2, 1) := by decide +kernel
theorem dX9_lays_82 : decode cX9_lays 82 = .ok (.iastore, 1) := by decide +kernel
theorem dX9_lays_83 : decode cX9_lays 83 = .ok (.aload_n 0, 1) := by decide +kernel
theorem dX9_lays_84 : decode cX9_lays 84 = .ok (.getfield 7, 3) := by decide +kernel
theorem dX9_lays_87 : decode cX9_lays 87 = .ok (.iload 4, 2) := by decide +kernel
theorem dX9_lays_89 : decode cX9_lays 89 = .ok (.iconst 2, 1) := by decide +kernel
theorem dX9_lays_90 : decode cX9_lays 90 = .ok (.iadd, 1) := by decide +kernel
theorem dX9_lays_91 : decode cX9_lays 91 = .ok (.iload_n 3, 1) := by decide +kernel
theorem dX9_lays_92 : decode cX9_lays 92 = .ok (.iastore, 1) := by decide +kernel
theorem dX9_lays_93 : decode cX9_lays 93 = .ok (.aload_n 0, 1) := by decide +kernel
theorem dX9_lays_94 : decode cX9_lays 94 = .ok (.getfield 7, 3) := by decide +kernel
theorem dX9_lays_97 : decode cX9_lays 97 = .ok (.iconst 1, 1) := by decide +kernel
theorem dX9_lays_98 : decode cX9_lays 98 = .ok (.dup2, 1) := by decide +kernel
theorem dX9_lays_99 : decode cX9_lays 99 = .ok (.iaload, 1) := by decide +kernel
theorem dX9_lays_100 : decode cX9_lays 100 = .ok (.iconst 1, 1) := by decide +kernel
theorem dX9_lays_101 : decode cX9_lays 101 = .ok (.iadd, 1) := by decide +kernel
theorem dX9_lays_102 : decode cX9_lays 102 = .ok (.iastore, 1) := by decide +kernel
theorem dX9_lays_103 : decode cX9_lays 103 = .ok (.aload_n 0, 1) := by decide +kernel
theorem dX9_lays_104 : decode cX9_lays 104 = .ok (.getfield 7, 3) := by decide +kernel
theorem dX9_lays_107 : decode cX9_lays 107 = .ok (.iconst 1, 1) := by decide +kernel
theorem dX9_lays_108 : decode cX9_lays 108 = .ok (.iaload, 1) := by decide +kernel
theorem dX9_lays_109 : decode cX9_lays 109 = .ok (.ireturn, 1) := by decide +kernel
theorem dX9_winds_0 : decode cX9_winds 0 = .ok (.aload_n 0, 1) := by decide +kernel
theorem dX9_winds_1 : decode cX9_winds 1 = .ok (.iconst 0, 1) := by decide +kernel
theorem dX9_winds_2 : decode cX9_winds 2 = .ok (.putfield 29, 3) := by decide +kernel
theorem dX9_winds_5 : decode cX9_winds 5 = .ok (.iload_n 1, 1) := by decide +kernel
theorem dX9_winds_6 : decode cX9_winds 6 = .ok (.iconst 0, 1) := by decide +kernel
theorem dX9_winds_7 : decode cX9_winds 7 = .ok (.aload_n 0, 1) := by decide +kernel
theorem dX9_winds_8 : decode cX9_winds 8 = .ok (.invokevirtual 75, 3) := by decide +kernel
theorem dX9_winds_11 : decode cX9_winds 11 = .ok (.invokestatic 46, 3) := by decide +kernel
theorem dX9_winds_14 : decode cX9_winds 14 = .ok (.ifCond .ne 5, 3) := by decide +kernel
theorem dX9_winds_17 : decode cX9_winds 17 = .ok (.iconst (-1), 1) := by decide +kernel
theorem dX9_winds_18 : decode cX9_winds 18 = .ok (.ireturn, 1) := by decide +kernel
theorem dX9_winds_19 : decode cX9_winds 19 = .ok (.aload_n 0, 1) := by decide +kernel
theorem dX9_winds_20 : decode cX9_winds 20 = .ok (.getfield 7, 3) := by decide +kernel
theorem dX9_winds_23 : decode cX9_winds 23 = .ok (.bipush 20, 2) := by decide +kernel
theorem dX9_winds_25 : decode cX9_winds 25 = .ok (.iaload, 1) := by decide +kernel
theorem dX9_winds_26 : decode cX9_winds 26 = .ok (.istore_n 2, 1) := by decide +kernel
theorem dX9_winds_27 : decode cX9_winds 27 = .ok (.iload_n 2, 1) := by decide +kernel
theorem dX9_winds_28 : decode cX9_winds 28 = .ok (.iload_n 1, 1) := by decide +kernel
theorem dX9_winds_29 : decode cX9_winds 29 = .ok (.if_icmp .ne 6, 3) := by decide +kernel
theorem dX9_winds_32 : decode cX9_winds 32 = .ok (.bipush (-2), 2) := by decide +kernel
theorem dX9_winds_34 : decode cX9_winds 34 = .ok (.ireturn, 1) := by decide +kernel
theorem dX9_winds_35 : decode cX9_winds 35 = .ok (.aload_n 0, 1) := by decide +kernel
theorem dX9_winds_36 : decode cX9_winds 36 = .ok (.invokevirtual 69, 3) := by decide +kernel
theorem dX9_winds_39 : decode cX9_winds 39 = .ok (.aload_n 0, 1) := by decide +kernel
theorem dX9_winds_40 : decode cX9_winds 40 = .ok (.getfield 7, 3) := by decide +kernel
theorem dX9_winds_43 : decode cX9_winds 43 = .ok (.bipush 20, 2) := by decide +kernel
theorem dX9_winds_45 : decode cX9_winds 45 = .ok (.iload_n 1, 1) := by decide +kernel
theorem dX9_winds_46 : decode cX9_winds 46 = .ok (.iastore, 1) := by decide +kernel
theorem dX9_winds_47 : decode cX9_winds 47 = .ok (.iload_n 2, 1) := by decide +kernel
theorem dX9_winds_48 : decode cX9_winds 48 = .ok (.ireturn, 1) := by decide +kernel
theorem dX9_figures_0 : decode cX9_figures 0 = .ok (.iload_n 0, 1) := by decide +kernel
theorem dX9_figures_1 : decode cX9_figures 1 = .ok (.bipush 10, 2) := by decide +kernel
theorem dX9_figures_3 : decode cX9_figures 3 = .ok (.irem, 1) := by decide +kernel
theorem dX9_figures_4 : decode cX9_figures 4 = .ok (.iload_n 0, 1) := by decide +kernel
theorem dX9_figures_5 : decode cX9_figures 5 = .ok (.bipush 10, 2) := by decide +kernel
theorem dX9_figures_7 : decode cX9_figures 7 = .ok (.idiv, 1) := by decide +kernel
theorem dX9_figures_8 : decode cX9_figures 8 = .ok (.iconst 4, 1) := by decide +kernel
theorem dX9_figures_9 : decode cX9_figures 9 = .ok (.ishl, 1) := by decide +kernel
theorem dX9_figures_10 : decode cX9_figures 10 = .ok (.ior, 1) := by decide +kernel
theorem dX9_figures_11 : decode cX9_figures 11 = .ok (.ireturn, 1) := by decide +kernel
theorem dX9_wordOf_0 : decode cX9_wordOf 0 = .ok (.aload_n 0, 1) := by decide +kernel
theorem dX9_wordOf_1 : decode cX9_wordOf 1 = .ok (.getfield 7, 3) := by decide +kernel
theorem dX9_wordOf_4 : decode cX9_wordOf 4 = .ok (.iconst 0, 1) := by decide +kernel
theorem dX9_wordOf_5 : decode cX9_wordOf 5 = .ok (.iaload, 1) := by decide +kernel
theorem dX9_wordOf_6 : decode cX9_wordOf 6 = .ok (.iload_n 1, 1) := by decide +kernel
theorem dX9_wordOf_7 : decode cX9_wordOf 7 = .ok (.invokestatic 59, 3) := by decide +kernel
theorem dX9_wordOf_10 : decode cX9_wordOf 10 = .ok (.istore_n 3, 1) := by decide +kernel
theorem dX9_wordOf_11 : decode cX9_wordOf 11 = .ok (.iload_n 3, 1) := by decide +kernel
theorem dX9_wordOf_12 : decode cX9_wordOf 12 = .ok (.bipush 100, 2) := by decide +kernel
theorem dX9_wordOf_14 : decode cX9_wordOf 14 = .ok (.irem, 1) := by decide +kernel
theorem dX9_wordOf_15 : decode cX9_wordOf 15 = .ok (.invokestatic 78, 3) := by decide +kernel
theorem dX9_wordOf_18 : decode cX9_wordOf 18 = .ok (.iload_n 3, 1) := by decide +kernel
theorem dX9_wordOf_19 : decode cX9_wordOf 19 = .ok (.bipush 100, 2) := by decide +kernel
theorem dX9_wordOf_21 : decode cX9_wordOf 21 = .ok (.idiv, 1) := by decide +kernel
theorem dX9_wordOf_22 : decode cX9_wordOf 22 = .ok (.bipush 100, 2) := by decide +kernel
theorem dX9_wordOf_24 : decode cX9_wordOf 24 = .ok (.irem, 1) := by decide +kernel
theorem dX9_wordOf_25 : decode cX9_wordOf 25 = .ok (.invokestatic 78, 3) := by decide +kernel
theorem dX9_wordOf_28 : decode cX9_wordOf 28 = .ok (.bipush 6, 2) := by decide +kernel
theorem dX9_wordOf_30 : decode cX9_wordOf 30 = .ok (.ishl, 1) := by decide +kernel
theorem dX9_wordOf_31 : decode cX9_wordOf 31 = .ok (.ior, 1) := by decide +kernel
theorem dX9_wordOf_32 : decode cX9_wordOf 32 = .ok (.iload_n 3, 1) := by decide +kernel
theorem dX9_wordOf_33 : decode cX9_wordOf 33 = .ok (.sipush 10000, 3) := by decide +kernel
theorem dX9_wordOf_36 : decode cX9_wordOf 36 = .ok (.idiv, 1) := by decide +kernel
theorem dX9_wordOf_37 : decode cX9_wordOf 37 = .ok (.bipush 100, 2) := by decide +kernel
theorem dX9_wordOf_39 : decode cX9_wordOf 39 = .ok (.irem, 1) := by decide +kernel
theorem dX9_wordOf_40 : decode cX9_wordOf 40 = .ok (.invokestatic 78, 3) := by decide +kernel
theorem dX9_wordOf_43 : decode cX9_wordOf 43 = .ok (.bipush 13, 2) := by decide +kernel
theorem dX9_wordOf_45 : decode cX9_wordOf 45 = .ok (.ishl, 1) := by decide +kernel
theorem dX9_wordOf_46 : decode cX9_wordOf 46 = .ok (.ior, 1) := by decide +kernel
theorem dX9_wordOf_47 : decode cX9_wordOf 47 = .ok (.iload_n 3, 1) := by decide +kernel
theorem dX9_wordOf_48 : decode cX9_wordOf 48 = .ok (.ldc 54, 2) := by decide +kernel
theorem dX9_wordOf_50 : decode cX9_wordOf 50 = .ok (.idiv, 1) := by decide +kernel
theorem dX9_wordOf_51 : decode cX9_wordOf 51 = .ok (.invokestatic 78, 3) := by decide +kernel
theorem dX9_wordOf_54 : decode cX9_wordOf 54 = .ok (.bipush 20, 2) := by decide +kernel
theorem dX9_wordOf_56 : decode cX9_wordOf 56 = .ok (.ishl, 1) := by decide +kernel
theorem dX9_wordOf_57 : decode cX9_wordOf 57 = .ok (.ior, 1) := by decide +kernel
theorem dX9_wordOf_58 : decode cX9_wordOf 58 = .ok (.istore 4, 2) := by decide +kernel
theorem dX9_wordOf_60 : decode cX9_wordOf 60 = .ok (.iload 4, 2) := by decide +kernel
theorem dX9_wordOf_62 : decode cX9_wordOf 62 = .ok (.aload_n 0, 1) := by decide +kernel
theorem dX9_wordOf_63 : decode cX9_wordOf 63 = .ok (.getfield 7, 3) := by decide +kernel
theorem dX9_wordOf_66 : decode cX9_wordOf 66 = .ok (.iconst 0, 1) := by decide +kernel
theorem dX9_wordOf_67 : decode cX9_wordOf 67 = .ok (.iaload, 1) := by decide +kernel
theorem dX9_wordOf_68 : decode cX9_wordOf 68 = .ok (.iconst 3, 1) := by decide +kernel
theorem dX9_wordOf_69 : decode cX9_wordOf 69 = .ok (.if_icmp .ne 8, 3) := by decide +kernel
theorem dX9_wordOf_72 : decode cX9_wordOf 72 = .ok (.ldc 81, 2) := by decide +kernel
theorem dX9_wordOf_74 : decode cX9_wordOf 74 = .ok (.goto 4, 3) := by decide +kernel
theorem dX9_wordOf_77 : decode cX9_wordOf 77 = .ok (.iconst 0, 1) := by decide +kernel
theorem dX9_wordOf_78 : decode cX9_wordOf 78 = .ok (.ior, 1) := by decide +kernel
theorem dX9_wordOf_79 : decode cX9_wordOf 79 = .ok (.istore 4, 2) := by decide +kernel
theorem dX9_wordOf_81 : decode cX9_wordOf 81 = .ok (.iload 4, 2) := by decide +kernel
theorem dX9_wordOf_83 : decode cX9_wordOf 83 = .ok (.iload_n 2, 1) := by decide +kernel
theorem dX9_wordOf_84 : decode cX9_wordOf 84 = .ok (.bipush 28, 2) := by decide +kernel
theorem dX9_wordOf_86 : decode cX9_wordOf 86 = .ok (.ishl, 1) := by decide +kernel
theorem dX9_wordOf_87 : decode cX9_wordOf 87 = .ok (.ior, 1) := by decide +kernel
theorem dX9_wordOf_88 : decode cX9_wordOf 88 = .ok (.istore 4, 2) := by decide +kernel
theorem dX9_wordOf_90 : decode cX9_wordOf 90 = .ok (.iload 4, 2) := by decide +kernel
theorem dX9_wordOf_92 : decode cX9_wordOf 92 = .ok (.invokestatic 82, 3) := by decide +kernel
theorem dX9_wordOf_95 : decode cX9_wordOf 95 = .ok (.ifCond .eq 8, 3) := by decide +kernel
theorem dX9_wordOf_98 : decode cX9_wordOf 98 = .ok (.iload 4, 2) := by decide +kernel
theorem dX9_wordOf_100 : decode cX9_wordOf 100 = .ok (.goto 8, 3) := by decide +kernel
theorem dX9_wordOf_103 : decode cX9_wordOf 103 = .ok (.iload 4, 2) := by decide +kernel
theorem dX9_wordOf_105 : decode cX9_wordOf 105 = .ok (.ldc 85, 2) := by decide +kernel
theorem dX9_wordOf_107 : decode cX9_wordOf 107 = .ok (.ior, 1) := by decide +kernel
theorem dX9_wordOf_108 : decode cX9_wordOf 108 = .ok (.ireturn, 1) := by decide +kernel
theorem dX9_isEven_0 : decode cX9_isEven 0 = .ok (.iconst 1, 1) := by decide +kernel
theorem dX9_isEven_1 : decode cX9_isEven 1 = .ok (.istore_n 1, 1) := by decide +kernel
theorem dX9_isEven_2 : decode cX9_isEven 2 = .ok (.iconst 0, 1) := by decide +kernel
theorem dX9_isEven_3 : decode cX9_isEven 3 = .ok (.istore_n 2, 1) := by decide +kernel
theorem dX9_isEven_4 : decode cX9_isEven 4 = .ok (.iload_n 2, 1) := by decide +kernel
theorem dX9_isEven_5 : decode cX9_isEven 5 = .ok (.bipush 32, 2) := by decide +kernel
theorem dX9_isEven_7 : decode cX9_isEven 7 = .ok (.if_icmp .ge 33, 3) := by decide +kernel
theorem dX9_isEven_10 : decode cX9_isEven 10 = .ok (.iload_n 1, 1) := by decide +kernel
theorem dX9_isEven_11 : decode cX9_isEven 11 = .ok (.iload_n 0, 1) := by decide +kernel
theorem dX9_isEven_12 : decode cX9_isEven 12 = .ok (.iload_n 2, 1) := by decide +kernel
theorem dX9_isEven_13 : decode cX9_isEven 13 = .ok (.iushr, 1) := by decide +kernel
theorem dX9_isEven_14 : decode cX9_isEven 14 = .ok (.iconst 1, 1) := by decide +kernel
theorem dX9_isEven_15 : decode cX9_isEven 15 = .ok (.iand, 1) := by decide +kernel
theorem dX9_isEven_16 : decode cX9_isEven 16 = .ok (.iconst 1, 1) := by decide +kernel
theorem dX9_isEven_17 : decode cX9_isEven 17 = .ok (.if_icmp .ne 7, 3) := by decide +kernel
theorem dX9_isEven_20 : decode cX9_isEven 20 = .ok (.iconst 1, 1) := by decide +kernel
theorem dX9_isEven_21 : decode cX9_isEven 21 = .ok (.goto 4, 3) := by decide +kernel
theorem dX9_isEven_24 : decode cX9_isEven 24 = .ok (.iconst 0, 1) := by decide +kernel
theorem dX9_isEven_25 : decode cX9_isEven 25 = .ok (.if_icmp .eq 7, 3) := by decide +kernel
theorem dX9_isEven_28 : decode cX9_isEven 28 = .ok (.iconst 1, 1) := by decide +kernel
theorem dX9_isEven_29 : decode cX9_isEven 29 = .ok (.goto 4, 3) := by decide +kernel
theorem dX9_isEven_32 : decode cX9_isEven 32 = .ok (.iconst 0, 1) := by decide +kernel
theorem dX9_isEven_33 : decode cX9_isEven 33 = .ok (.istore_n 1, 1) := by decide +kernel
theorem dX9_isEven_34 : decode cX9_isEven 34 = .ok (.iinc 2 1, 3) := by decide +kernel
theorem dX9_isEven_37 : decode cX9_isEven 37 = .ok (.goto (-33), 3) := by decide +kernel
theorem dX9_isEven_40 : decode cX9_isEven 40 = .ok (.iload_n 1, 1) := by decide +kernel
theorem dX9_isEven_41 : decode cX9_isEven 41 = .ok (.ireturn, 1) := by decide +kernel
theorem dX9_sync_0 : decode cX9_sync 0 = .ok (.iload_n 0, 1) := by decide +kernel
theorem dX9_sync_1 : decode cX9_sync 1 = .ok (.iconst 2, 1) := by decide +kernel
theorem dX9_sync_2 : decode cX9_sync 2 = .ok (.if_icmp .lt 9, 3) := by decide +kernel
theorem dX9_sync_5 : decode cX9_sync 5 = .ok (.iload_n 0, 1) := by decide +kernel
theorem dX9_sync_6 : decode cX9_sync 6 = .ok (.bipush 14, 2) := by decide +kernel
theorem dX9_sync_8 : decode cX9_sync 8 = .ok (.if_icmp .ne 7, 3) := by decide +kernel
theorem dX9_sync_11 : decode cX9_sync 11 = .ok (.iconst 0, 1) := by decide +kernel
theorem dX9_sync_12 : decode cX9_sync 12 = .ok (.goto 4, 3) := by decide +kernel
theorem dX9_sync_15 : decode cX9_sync 15 = .ok (.iconst 1, 1) := by decide +kernel
theorem dX9_sync_16 : decode cX9_sync 16 = .ok (.ireturn, 1) := by decide +kernel
theorem dX9_bitAt_0 : decode cX9_bitAt 0 = .ok (.iload_n 1, 1) := by decide +kernel
theorem dX9_bitAt_1 : decode cX9_bitAt 1 = .ok (.istore_n 2, 1) := by decide +kernel
theorem dX9_bitAt_2 : decode cX9_bitAt 2 = .ok (.iconst 0, 1) := by decide +kernel
theorem dX9_bitAt_3 : decode cX9_bitAt 3 = .ok (.istore_n 3, 1) := by decide +kernel
theorem dX9_bitAt_4 : decode cX9_bitAt 4 = .ok (.iload_n 2, 1) := by decide +kernel
theorem dX9_bitAt_5 : decode cX9_bitAt 5 = .ok (.bipush 48, 2) := by decide +kernel
theorem dX9_bitAt_7 : decode cX9_bitAt 7 = .ok (.aload_n 0, 1) := by decide +kernel
theorem dX9_bitAt_8 : decode cX9_bitAt 8 = .ok (.getfield 7, 3) := by decide +kernel
theorem dX9_bitAt_11 : decode cX9_bitAt 11 = .ok (.iconst 2, 1) := by decide +kernel
theorem dX9_bitAt_12 : decode cX9_bitAt 12 = .ok (.iconst 3, 1) := by decide +kernel
theorem dX9_bitAt_13 : decode cX9_bitAt 13 = .ok (.iload_n 3, 1) := by decide +kernel
theorem dX9_bitAt_14 : decode cX9_bitAt 14 = .ok (.imul, 1) := by decide +kernel
theorem dX9_bitAt_15 : decode cX9_bitAt 15 = .ok (.iadd, 1) := by decide +kernel
theorem dX9_bitAt_16 : decode cX9_bitAt 16 = .ok (.iconst 1, 1) := by decide +kernel
theorem dX9_bitAt_17 : decode cX9_bitAt 17 = .ok (.iadd, 1) := by decide +kernel
theorem dX9_bitAt_18 : decode cX9_bitAt 18 = .ok (.iaload, 1) := by decide +kernel
theorem dX9_bitAt_19 : decode cX9_bitAt 19 = .ok (.imul, 1) := by decide +kernel
theorem dX9_bitAt_20 : decode cX9_bitAt 20 = .ok (.if_icmp .lt 27, 3) := by decide +kernel
theorem dX9_bitAt_23 : decode cX9_bitAt 23 = .ok (.iload_n 2, 1) := by decide +kernel
theorem dX9_bitAt_24 : decode cX9_bitAt 24 = .ok (.bipush 48, 2) := by decide +kernel
theorem dX9_bitAt_26 : decode cX9_bitAt 26 = .ok (.aload_n 0, 1) := by decide +kernel
theorem dX9_bitAt_27 : decode cX9_bitAt 27 = .ok (.getfield 7, 3) := by decide +kernel
theorem dX9_bitAt_30 : decode cX9_bitAt 30 = .ok (.iconst 2, 1) := by decide +kernel
theorem dX9_bitAt_31 : decode cX9_bitAt 31 = .ok (.iconst 3, 1) := by decide +kernel
theorem dX9_bitAt_32 : decode cX9_bitAt 32 = .ok (.iload_n 3, 1) := by decide +kernel
theorem dX9_bitAt_33 : decode cX9_bitAt 33 = .ok (.imul, 1) := by decide +kernel
theorem dX9_bitAt_34 : decode cX9_bitAt 34 = .ok (.iadd, 1) := by decide +kernel
theorem dX9_bitAt_35 : decode cX9_bitAt 35 = .ok (.iconst 1, 1) := by decide +kernel
theorem dX9_bitAt_36 : decode cX9_bitAt 36 = .ok (.iadd, 1) := by decide +kernel
theorem dX9_bitAt_37 : decode cX9_bitAt 37 = .ok (.iaload, 1) := by decide +kernel
theorem dX9_bitAt_38 : decode cX9_bitAt 38 = .ok (.imul, 1) := by decide +kernel
theorem dX9_bitAt_39 : decode cX9_bitAt 39 = .ok (.isub, 1) := by decide +kernel
theorem dX9_bitAt_40 : decode cX9_bitAt 40 = .ok (.istore_n 2, 1) := by decide +kernel
theorem dX9_bitAt_41 : decode cX9_bitAt 41 = .ok (.iinc 3 1, 3) := by decide +kernel
theorem dX9_bitAt_44 : decode cX9_bitAt 44 = .ok (.goto (-40), 3) := by decide +kernel
theorem dX9_bitAt_47 : decode cX9_bitAt 47 = .ok (.aload_n 0, 1) := by decide +kernel
theorem dX9_bitAt_48 : decode cX9_bitAt 48 = .ok (.aload_n 0, 1) := by decide +kernel
theorem dX9_bitAt_49 : decode cX9_bitAt 49 = .ok (.getfield 7, 3) := by decide +kernel
theorem dX9_bitAt_52 : decode cX9_bitAt 52 = .ok (.iconst 2, 1) := by decide +kernel
theorem dX9_bitAt_53 : decode cX9_bitAt 53 = .ok (.iconst 3, 1) := by decide +kernel
theorem dX9_bitAt_54 : decode cX9_bitAt 54 = .ok (.iload_n 3, 1) := by decide +kernel
theorem dX9_bitAt_55 : decode cX9_bitAt 55 = .ok (.imul, 1) := by decide +kernel
theorem dX9_bitAt_56 : decode cX9_bitAt 56 = .ok (.iadd, 1) := by decide +kernel
theorem dX9_bitAt_57 : decode cX9_bitAt 57 = .ok (.iaload, 1) := by decide +kernel
theorem dX9_bitAt_58 : decode cX9_bitAt 58 = .ok (.iload_n 2, 1) := by decide +kernel
theorem dX9_bitAt_59 : decode cX9_bitAt 59 = .ok (.bipush 48, 2) := by decide +kernel
theorem dX9_bitAt_61 : decode cX9_bitAt 61 = .ok (.idiv, 1) := by decide +kernel
theorem dX9_bitAt_62 : decode cX9_bitAt 62 = .ok (.iadd, 1) := by decide +kernel
theorem dX9_bitAt_63 : decode cX9_bitAt 63 = .ok (.invokevirtual 72, 3) := by decide +kernel
theorem dX9_bitAt_66 : decode cX9_bitAt 66 = .ok (.istore 4, 2) := by decide +kernel
theorem dX9_bitAt_68 : decode cX9_bitAt 68 = .ok (.iload_n 2, 1) := by decide +kernel
theorem dX9_bitAt_69 : decode cX9_bitAt 69 = .ok (.bipush 48, 2) := by decide +kernel
theorem dX9_bitAt_71 : decode cX9_bitAt 71 = .ok (.irem, 1) := by decide +kernel
theorem dX9_bitAt_72 : decode cX9_bitAt 72 = .ok (.istore 5, 2) := by decide +kernel
theorem dX9_bitAt_74 : decode cX9_bitAt 74 = .ok (.iload 5, 2) := by decide +kernel
theorem dX9_bitAt_76 : decode cX9_bitAt 76 = .ok (.bipush 32, 2) := by decide +kernel
theorem dX9_bitAt_78 : decode cX9_bitAt 78 = .ok (.if_icmp .ge 29, 3) := by decide +kernel
theorem dX9_bitAt_81 : decode cX9_bitAt 81 = .ok (.aload_n 0, 1) := by decide +kernel
theorem dX9_bitAt_82 : decode cX9_bitAt 82 = .ok (.iload 4, 2) := by decide +kernel
theorem dX9_bitAt_84 : decode cX9_bitAt 84 = .ok (.aload_n 0, 1) := by decide +kernel
theorem dX9_bitAt_85 : decode cX9_bitAt 85 = .ok (.getfield 7, 3) := by decide +kernel
theorem dX9_bitAt_88 : decode cX9_bitAt 88 = .ok (.iconst 2, 1) := by decide +kernel
theorem dX9_bitAt_89 : decode cX9_bitAt 89 = .ok (.iconst 3, 1) := by decide +kernel
theorem dX9_bitAt_90 : decode cX9_bitAt 90 = .ok (.iload_n 3, 1) := by decide +kernel
theorem dX9_bitAt_91 : decode cX9_bitAt 91 = .ok (.imul, 1) := by decide +kernel
theorem dX9_bitAt_92 : decode cX9_bitAt 92 = .ok (.iadd, 1) := by decide +kernel
theorem dX9_bitAt_93 : decode cX9_bitAt 93 = .ok (.iconst 2, 1) := by decide +kernel
theorem dX9_bitAt_94 : decode cX9_bitAt 94 = .ok (.iadd, 1) := by decide +kernel
theorem dX9_bitAt_95 : decode cX9_bitAt 95 = .ok (.iaload, 1) := by decide +kernel
theorem dX9_bitAt_96 : decode cX9_bitAt 96 = .ok (.invokevirtual 86, 3) := by decide +kernel
theorem dX9_bitAt_99 : decode cX9_bitAt 99 = .ok (.iload 5, 2) := by decide +kernel
theorem dX9_bitAt_101 : decode cX9_bitAt 101 = .ok (.iushr, 1) := by decide +kernel
theorem dX9_bitAt_102 : decode cX9_bitAt 102 = .ok (.iconst 1, 1) := by decide +kernel
theorem dX9_bitAt_103 : decode cX9_bitAt 103 = .ok (.iand, 1) := by decide +kernel
theorem dX9_bitAt_104 : decode cX9_bitAt 104 = .ok (.goto 11, 3) := by decide +kernel
theorem dX9_bitAt_107 : decode cX9_bitAt 107 = .ok (.iload 5, 2) := by decide +kernel
theorem dX9_bitAt_109 : decode cX9_bitAt 109 = .ok (.bipush 32, 2) := by decide +kernel
theorem dX9_bitAt_111 : decode cX9_bitAt 111 = .ok (.isub, 1) := by decide +kernel
theorem dX9_bitAt_112 : decode cX9_bitAt 112 = .ok (.invokestatic 89, 3) := by decide +kernel
theorem dX9_bitAt_115 : decode cX9_bitAt 115 = .ok (.ireturn, 1) := by decide +kernel
theorem dX9_bit_0 : decode cX9_bit 0 = .ok (.aload_n 0, 1) := by decide +kernel
theorem dX9_bit_1 : decode cX9_bit 1 = .ok (.iconst 0, 1) := by decide +kernel
theorem dX9_bit_2 : decode cX9_bit 2 = .ok (.putfield 29, 3) := by decide +kernel
theorem dX9_bit_5 : decode cX9_bit 5 = .ok (.iload_n 1, 1) := by decide +kernel
theorem dX9_bit_6 : decode cX9_bit 6 = .ok (.iconst 0, 1) := by decide +kernel
theorem dX9_bit_7 : decode cX9_bit 7 = .ok (.aload_n 0, 1) := by decide +kernel
theorem dX9_bit_8 : decode cX9_bit 8 = .ok (.invokevirtual 75, 3) := by decide +kernel
theorem dX9_bit_11 : decode cX9_bit 11 = .ok (.iconst 1, 1) := by decide +kernel
theorem dX9_bit_12 : decode cX9_bit 12 = .ok (.isub, 1) := by decide +kernel
theorem dX9_bit_13 : decode cX9_bit 13 = .ok (.invokestatic 46, 3) := by decide +kernel
theorem dX9_bit_16 : decode cX9_bit 16 = .ok (.ifCond .eq 11, 3) := by decide +kernel
theorem dX9_bit_19 : decode cX9_bit 19 = .ok (.aload_n 0, 1) := by decide +kernel
theorem dX9_bit_20 : decode cX9_bit 20 = .ok (.iload_n 1, 1) := by decide +kernel
theorem dX9_bit_21 : decode cX9_bit 21 = .ok (.invokevirtual 92, 3) := by decide +kernel
theorem dX9_bit_24 : decode cX9_bit 24 = .ok (.goto 4, 3) := by decide +kernel
theorem dX9_bit_27 : decode cX9_bit 27 = .ok (.iconst (-1), 1) := by decide +kernel
theorem dX9_bit_28 : decode cX9_bit 28 = .ok (.ireturn, 1) := by decide +kernel
theorem dX9_plays_0 : decode cX9_plays 0 = .ok (.aload_n 0, 1) := by decide +kernel
theorem dX9_plays_1 : decode cX9_plays 1 = .ok (.iconst 0, 1) := by decide +kernel
theorem dX9_plays_2 : decode cX9_plays 2 = .ok (.putfield 29, 3) := by decide +kernel
theorem dX9_plays_5 : decode cX9_plays 5 = .ok (.iload_n 1, 1) := by decide +kernel
theorem dX9_plays_6 : decode cX9_plays 6 = .ok (.iconst 1, 1) := by decide +kernel
theorem dX9_plays_7 : decode cX9_plays 7 = .ok (.sipush 4800, 3) := by decide +kernel
theorem dX9_plays_10 : decode cX9_plays 10 = .ok (.invokestatic 46, 3) := by decide +kernel
theorem dX9_plays_13 : decode cX9_plays 13 = .ok (.ifCond .eq 34, 3) := by decide +kernel
theorem dX9_plays_16 : decode cX9_plays 16 = .ok (.iload_n 2, 1) := by decide +kernel
theorem dX9_plays_17 : decode cX9_plays 17 = .ok (.iconst 1, 1) := by decide +kernel
theorem dX9_plays_18 : decode cX9_plays 18 = .ok (.sipush 200, 3) := by decide +kernel
theorem dX9_plays_21 : decode cX9_plays 21 = .ok (.invokestatic 46, 3) := by decide +kernel
theorem dX9_plays_24 : decode cX9_plays 24 = .ok (.ifCond .eq 23, 3) := by decide +kernel
theorem dX9_plays_27 : decode cX9_plays 27 = .ok (.iload_n 3, 1) := by decide +kernel
theorem dX9_plays_28 : decode cX9_plays 28 = .ok (.iconst 0, 1) := by decide +kernel
theorem dX9_plays_29 : decode cX9_plays 29 = .ok (.bipush 9, 2) := by decide +kernel
theorem dX9_plays_31 : decode cX9_plays 31 = .ok (.invokestatic 46, 3) := by decide +kernel
theorem dX9_plays_34 : decode cX9_plays 34 = .ok (.ifCond .eq 13, 3) := by decide +kernel
theorem dX9_plays_37 : decode cX9_plays 37 = .ok (.iload 4, 2) := by decide +kernel
theorem dX9_plays_39 : decode cX9_plays 39 = .ok (.iconst 0, 1) := by decide +kernel
theorem dX9_plays_40 : decode cX9_plays 40 = .ok (.iconst 1, 1) := by decide +kernel
theorem dX9_plays_41 : decode cX9_plays 41 = .ok (.invokestatic 46, 3) := by decide +kernel
theorem dX9_plays_44 : decode cX9_plays 44 = .ok (.ifCond .ne 5, 3) := by decide +kernel
theorem dX9_plays_47 : decode cX9_plays 47 = .ok (.iconst (-1), 1) := by decide +kernel
theorem dX9_plays_48 : decode cX9_plays 48 = .ok (.ireturn, 1) := by decide +kernel
theorem dX9_plays_49 : decode cX9_plays 49 = .ok (.iload 4, 2) := by decide +kernel
theorem dX9_plays_51 : decode cX9_plays 51 = .ok (.ifCond .ne 18, 3) := by decide +kernel
theorem dX9_plays_54 : decode cX9_plays 54 = .ok (.aload_n 0, 1) := by decide +kernel
theorem dX9_plays_55 : decode cX9_plays 55 = .ok (.invokevirtual 75, 3) := by decide +kernel
theorem dX9_plays_58 : decode cX9_plays 58 = .ok (.aload_n 0, 1) := by decide +kernel
theorem dX9_plays_59 : decode cX9_plays 59 = .ok (.getfield 7, 3) := by decide +kernel
theorem dX9_plays_62 : decode cX9_plays 62 = .ok (.bipush 20, 2) := by decide +kernel
theorem dX9_plays_64 : decode cX9_plays 64 = .ok (.iaload, 1) := by decide +kernel
theorem dX9_plays_65 : decode cX9_plays 65 = .ok (.isub, 1) := by decide +kernel
theorem dX9_plays_66 : decode cX9_plays 66 = .ok (.goto 10, 3) := by decide +kernel
theorem dX9_plays_69 : decode cX9_plays 69 = .ok (.aload_n 0, 1) := by decide +kernel
theorem dX9_plays_70 : decode cX9_plays 70 = .ok (.getfield 7, 3) := by decide +kernel
theorem dX9_plays_73 : decode cX9_plays 73 = .ok (.bipush 20, 2) := by decide +kernel
theorem dX9_plays_75 : decode cX9_plays 75 = .ok (.iaload, 1) := by decide +kernel
theorem dX9_plays_76 : decode cX9_plays 76 = .ok (.istore 5, 2) := by decide +kernel
theorem dX9_plays_78 : decode cX9_plays 78 = .ok (.iload 5, 2) := by decide +kernel
theorem dX9_plays_80 : decode cX9_plays 80 = .ok (.ifCond .ne 6, 3) := by decide +kernel
theorem dX9_plays_83 : decode cX9_plays 83 = .ok (.bipush (-2), 2) := by decide +kernel
theorem dX9_plays_85 : decode cX9_plays 85 = .ok (.ireturn, 1) := by decide +kernel
theorem dX9_plays_86 : decode cX9_plays 86 = .ok (.aload_n 0, 1) := by decide +kernel
theorem dX9_plays_87 : decode cX9_plays 87 = .ok (.invokevirtual 69, 3) := by decide +kernel
theorem dX9_plays_90 : decode cX9_plays 90 = .ok (.iload_n 1, 1) := by decide +kernel
theorem dX9_plays_91 : decode cX9_plays 91 = .ok (.iload 5, 2) := by decide +kernel
theorem dX9_plays_93 : decode cX9_plays 93 = .ok (.if_icmp .ge 7, 3) := by decide +kernel
theorem dX9_plays_96 : decode cX9_plays 96 = .ok (.iload_n 1, 1) := by decide +kernel
theorem dX9_plays_97 : decode cX9_plays 97 = .ok (.goto 5, 3) := by decide +kernel
theorem dX9_plays_100 : decode cX9_plays 100 = .ok (.iload 5, 2) := by decide +kernel
theorem dX9_plays_102 : decode cX9_plays 102 = .ok (.istore 6, 2) := by decide +kernel
theorem dX9_plays_104 : decode cX9_plays 104 = .ok (.iconst 0, 1) := by decide +kernel
theorem dX9_plays_105 : decode cX9_plays 105 = .ok (.istore 7, 2) := by decide +kernel
theorem dX9_plays_107 : decode cX9_plays 107 = .ok (.iload 7, 2) := by decide +kernel
theorem dX9_plays_109 : decode cX9_plays 109 = .ok (.iload 6, 2) := by decide +kernel
theorem dX9_plays_111 : decode cX9_plays 111 = .ok (.if_icmp .ge 86, 3) := by decide +kernel
theorem dX9_plays_114 : decode cX9_plays 114 = .ok (.iload_n 2, 1) := by decide +kernel
theorem dX9_plays_115 : decode cX9_plays 115 = .ok (.iload 7, 2) := by decide +kernel
theorem dX9_plays_117 : decode cX9_plays 117 = .ok (.iload_n 3, 1) := by decide +kernel
theorem dX9_plays_118 : decode cX9_plays 118 = .ok (.imul, 1) := by decide +kernel
theorem dX9_plays_119 : decode cX9_plays 119 = .ok (.iconst 5, 1) := by decide +kernel
theorem dX9_plays_120 : decode cX9_plays 120 = .ok (.irem, 1) := by decide +kernel
theorem dX9_plays_121 : decode cX9_plays 121 = .ok (.iadd, 1) := by decide +kernel
theorem dX9_plays_122 : decode cX9_plays 122 = .ok (.istore 8, 2) := by decide +kernel
theorem dX9_plays_124 : decode cX9_plays 124 = .ok (.aload_n 0, 1) := by decide +kernel
theorem dX9_plays_125 : decode cX9_plays 125 = .ok (.getfield 7, 3) := by decide +kernel
theorem dX9_plays_128 : decode cX9_plays 128 = .ok (.bipush 20, 2) := by decide +kernel
theorem dX9_plays_130 : decode cX9_plays 130 = .ok (.dup2, 1) := by decide +kernel
theorem dX9_plays_131 : decode cX9_plays 131 = .ok (.iaload, 1) := by decide +kernel
theorem dX9_plays_132 : decode cX9_plays 132 = .ok (.iload 4, 2) := by decide +kernel
theorem dX9_plays_134 : decode cX9_plays 134 = .ok (.isub, 1) := by decide +kernel
theorem dX9_plays_135 : decode cX9_plays 135 = .ok (.iastore, 1) := by decide +kernel
theorem dX9_plays_136 : decode cX9_plays 136 = .ok (.aload_n 0, 1) := by decide +kernel
theorem dX9_plays_137 : decode cX9_plays 137 = .ok (.aload_n 0, 1) := by decide +kernel
theorem dX9_plays_138 : decode cX9_plays 138 = .ok (.getfield 7, 3) := by decide +kernel
theorem dX9_plays_141 : decode cX9_plays 141 = .ok (.bipush 20, 2) := by decide +kernel
theorem dX9_plays_143 : decode cX9_plays 143 = .ok (.iaload, 1) := by decide +kernel
theorem dX9_plays_144 : decode cX9_plays 144 = .ok (.invokevirtual 92, 3) := by decide +kernel
theorem dX9_plays_147 : decode cX9_plays 147 = .ok (.istore 9, 2) := by decide +kernel
theorem dX9_plays_149 : decode cX9_plays 149 = .ok (.aload_n 0, 1) := by decide +kernel
theorem dX9_plays_150 : decode cX9_plays 150 = .ok (.getfield 7, 3) := by decide +kernel
theorem dX9_plays_153 : decode cX9_plays 153 = .ok (.bipush 20, 2) := by decide +kernel
theorem dX9_plays_155 : decode cX9_plays 155 = .ok (.dup2, 1) := by decide +kernel
theorem dX9_plays_156 : decode cX9_plays 156 = .ok (.iaload, 1) := by decide +kernel
theorem dX9_plays_157 : decode cX9_plays 157 = .ok (.iconst 1, 1) := by decide +kernel
theorem dX9_plays_158 : decode cX9_plays 158 = .ok (.iload 4, 2) := by decide +kernel
theorem dX9_plays_160 : decode cX9_plays 160 = .ok (.isub, 1) := by decide +kernel
theorem dX9_plays_161 : decode cX9_plays 161 = .ok (.iadd, 1) := by decide +kernel
theorem dX9_plays_162 : decode cX9_plays 162 = .ok (.iastore, 1) := by decide +kernel
theorem dX9_plays_163 : decode cX9_plays 163 = .ok (.iload 9, 2) := by decide +kernel
theorem dX9_plays_165 : decode cX9_plays 165 = .ok (.ifCond .ne 14, 3) := by decide +kernel
theorem dX9_plays_168 : decode cX9_plays 168 = .ok (.aload_n 0, 1) := by decide +kernel
theorem dX9_plays_169 : decode cX9_plays 169 = .ok (.iconst 2, 1) := by decide +kernel
theorem dX9_plays_170 : decode cX9_plays 170 = .ok (.iload 8, 2) := by decide +kernel
theorem dX9_plays_172 : decode cX9_plays 172 = .ok (.imul, 1) := by decide +kernel
theorem dX9_plays_173 : decode cX9_plays 173 = .ok (.invokevirtual 95, 3) := by decide +kernel
theorem dX9_plays_176 : decode cX9_plays 176 = .ok (.goto 15, 3) := by decide +kernel
theorem dX9_plays_179 : decode cX9_plays 179 = .ok (.aload_n 0, 1) := by decide +kernel
theorem dX9_plays_180 : decode cX9_plays 180 = .ok (.iload 8, 2) := by decide +kernel
theorem dX9_plays_182 : decode cX9_plays 182 = .ok (.invokevirtual 95, 3) := by decide +kernel
theorem dX9_plays_185 : decode cX9_plays 185 = .ok (.aload_n 0, 1) := by decide +kernel
theorem dX9_plays_186 : decode cX9_plays 186 = .ok (.iload 8, 2) := by decide +kernel
theorem dX9_plays_188 : decode cX9_plays 188 = .ok (.invokevirtual 95, 3) := by decide +kernel
theorem dX9_plays_191 : decode cX9_plays 191 = .ok (.iinc 7 1, 3) := by decide +kernel
theorem dX9_plays_194 : decode cX9_plays 194 = .ok (.goto (-87), 3) := by decide +kernel
theorem dX9_plays_197 : decode cX9_plays 197 = .ok (.iload 6, 2) := by decide +kernel
theorem dX9_plays_199 : decode cX9_plays 199 = .ok (.ireturn, 1) := by decide +kernel
theorem dX9_cell_0 : decode cX9_cell 0 = .ok (.aload_n 0, 1) := by decide +kernel
theorem dX9_cell_1 : decode cX9_cell 1 = .ok (.getfield 7, 3) := by decide +kernel
theorem dX9_cell_4 : decode cX9_cell 4 = .ok (.bipush 21, 2) := by decide +kernel
theorem dX9_cell_6 : decode cX9_cell 6 = .ok (.iconst 3, 1) := by decide +kernel
theorem dX9_cell_7 : decode cX9_cell 7 = .ok (.aload_n 0, 1) := by decide +kernel
theorem dX9_cell_8 : decode cX9_cell 8 = .ok (.getfield 7, 3) := by decide +kernel
theorem dX9_cell_11 : decode cX9_cell 11 = .ok (.bipush 21, 2) := by decide +kernel
theorem dX9_cell_13 : decode cX9_cell 13 = .ok (.iaload, 1) := by decide +kernel
theorem dX9_cell_14 : decode cX9_cell 14 = .ok (.imul, 1) := by decide +kernel
theorem dX9_cell_15 : decode cX9_cell 15 = .ok (.iload_n 1, 1) := by decide +kernel
theorem dX9_cell_16 : decode cX9_cell 16 = .ok (.iadd, 1) := by decide +kernel
theorem dX9_cell_17 : decode cX9_cell 17 = .ok (.iconst 4, 1) := by decide +kernel
theorem dX9_cell_18 : decode cX9_cell 18 = .ok (.idiv, 1) := by decide +kernel
theorem dX9_cell_19 : decode cX9_cell 19 = .ok (.iastore, 1) := by decide +kernel
theorem dX9_cell_20 : decode cX9_cell 20 = .ok (.aload_n 0, 1) := by decide +kernel
theorem dX9_cell_21 : decode cX9_cell 21 = .ok (.getfield 7, 3) := by decide +kernel
theorem dX9_cell_24 : decode cX9_cell 24 = .ok (.bipush 21, 2) := by decide +kernel
theorem dX9_cell_26 : decode cX9_cell 26 = .ok (.aload_n 0, 1) := by decide +kernel
theorem dX9_cell_27 : decode cX9_cell 27 = .ok (.getfield 7, 3) := by decide +kernel
theorem dX9_cell_30 : decode cX9_cell 30 = .ok (.bipush 21, 2) := by decide +kernel
theorem dX9_cell_32 : decode cX9_cell 32 = .ok (.iaload, 1) := by decide +kernel
theorem dX9_cell_33 : decode cX9_cell 33 = .ok (.iconst 1, 1) := by decide +kernel
theorem dX9_cell_34 : decode cX9_cell 34 = .ok (.if_icmp .ge 7, 3) := by decide +kernel
theorem dX9_cell_37 : decode cX9_cell 37 = .ok (.iconst 1, 1) := by decide +kernel
theorem dX9_cell_38 : decode cX9_cell 38 = .ok (.goto 10, 3) := by decide +kernel
theorem dX9_cell_41 : decode cX9_cell 41 = .ok (.aload_n 0, 1) := by decide +kernel
theorem dX9_cell_42 : decode cX9_cell 42 = .ok (.getfield 7, 3) := by decide +kernel
theorem dX9_cell_45 : decode cX9_cell 45 = .ok (.bipush 21, 2) := by decide +kernel
theorem dX9_cell_47 : decode cX9_cell 47 = .ok (.iaload, 1) := by decide +kernel
theorem dX9_cell_48 : decode cX9_cell 48 = .ok (.iastore, 1) := by decide +kernel
theorem dX9_cell_49 : decode cX9_cell 49 = .ok (.return_, 1) := by decide +kernel
theorem dX9_comes_0 : decode cX9_comes 0 = .ok (.iconst 4, 1) := by decide +kernel
theorem dX9_comes_1 : decode cX9_comes 1 = .ok (.iload_n 1, 1) := by decide +kernel
theorem dX9_comes_2 : decode cX9_comes 2 = .ok (.imul, 1) := by decide +kernel
theorem dX9_comes_3 : decode cX9_comes 3 = .ok (.iconst 3, 1) := by decide +kernel
theorem dX9_comes_4 : decode cX9_comes 4 = .ok (.aload_n 0, 1) := by decide +kernel
theorem dX9_comes_5 : decode cX9_comes 5 = .ok (.getfield 7, 3) := by decide +kernel
theorem dX9_comes_8 : decode cX9_comes 8 = .ok (.bipush 21, 2) := by decide +kernel
theorem dX9_comes_10 : decode cX9_comes 10 = .ok (.iaload, 1) := by decide +kernel
theorem dX9_comes_11 : decode cX9_comes 11 = .ok (.imul, 1) := by decide +kernel
theorem dX9_comes_12 : decode cX9_comes 12 = .ok (.if_icmp .le 45, 3) := by decide +kernel
theorem dX9_comes_15 : decode cX9_comes 15 = .ok (.aload_n 0, 1) := by decide +kernel
theorem dX9_comes_16 : decode cX9_comes 16 = .ok (.getfield 7, 3) := by decide +kernel
theorem dX9_comes_19 : decode cX9_comes 19 = .ok (.bipush 22, 2) := by decide +kernel
theorem dX9_comes_21 : decode cX9_comes 21 = .ok (.iaload, 1) := by decide +kernel
theorem dX9_comes_22 : decode cX9_comes 22 = .ok (.ifCond .le 22, 3) := by decide +kernel
theorem dX9_comes_25 : decode cX9_comes 25 = .ok (.aload_n 0, 1) := by decide +kernel
theorem dX9_comes_26 : decode cX9_comes 26 = .ok (.getfield 7, 3) := by decide +kernel
theorem dX9_comes_29 : decode cX9_comes 29 = .ok (.bipush 22, 2) := by decide +kernel
theorem dX9_comes_31 : decode cX9_comes 31 = .ok (.iconst 0, 1) := by decide +kernel
theorem dX9_comes_32 : decode cX9_comes 32 = .ok (.iastore, 1) := by decide +kernel
theorem dX9_comes_33 : decode cX9_comes 33 = .ok (.aload_n 0, 1) := by decide +kernel
theorem dX9_comes_34 : decode cX9_comes 34 = .ok (.getfield 7, 3) := by decide +kernel
theorem dX9_comes_37 : decode cX9_comes 37 = .ok (.bipush 26, 2) := by decide +kernel
theorem dX9_comes_39 : decode cX9_comes 39 = .ok (.dup2, 1) := by decide +kernel
theorem dX9_comes_40 : decode cX9_comes 40 = .ok (.iaload, 1) := by decide +kernel
theorem dX9_comes_41 : decode cX9_comes 41 = .ok (.iconst 1, 1) := by decide +kernel
theorem dX9_comes_42 : decode cX9_comes 42 = .ok (.iadd, 1) := by decide +kernel
theorem dX9_comes_43 : decode cX9_comes 43 = .ok (.iastore, 1) := by decide +kernel
theorem dX9_comes_44 : decode cX9_comes 44 = .ok (.aload_n 0, 1) := by decide +kernel
theorem dX9_comes_45 : decode cX9_comes 45 = .ok (.iload_n 1, 1) := by decide +kernel
theorem dX9_comes_46 : decode cX9_comes 46 = .ok (.invokevirtual 99, 3) := by decide +kernel
theorem dX9_comes_49 : decode cX9_comes 49 = .ok (.aload_n 0, 1) := by decide +kernel
theorem dX9_comes_50 : decode cX9_comes 50 = .ok (.iconst 0, 1) := by decide +kernel
theorem dX9_comes_51 : decode cX9_comes 51 = .ok (.invokevirtual 102, 3) := by decide +kernel
theorem dX9_comes_54 : decode cX9_comes 54 = .ok (.goto 52, 3) := by decide +kernel
theorem dX9_comes_57 : decode cX9_comes 57 = .ok (.aload_n 0, 1) := by decide +kernel
theorem dX9_comes_58 : decode cX9_comes 58 = .ok (.getfield 7, 3) := by decide +kernel
theorem dX9_comes_61 : decode cX9_comes 61 = .ok (.bipush 22, 2) := by decide +kernel
theorem dX9_comes_63 : decode cX9_comes 63 = .ok (.iaload, 1) := by decide +kernel
theorem dX9_comes_64 : decode cX9_comes 64 = .ok (.ifCond .ne 14, 3) := by decide +kernel
theorem dX9_comes_67 : decode cX9_comes 67 = .ok (.aload_n 0, 1) := by decide +kernel
theorem dX9_comes_68 : decode cX9_comes 68 = .ok (.getfield 7, 3) := by decide +kernel
theorem dX9_comes_71 : decode cX9_comes 71 = .ok (.bipush 22, 2) := by decide +kernel
theorem dX9_comes_73 : decode cX9_comes 73 = .ok (.iload_n 1, 1) := by decide +kernel
theorem dX9_comes_74 : decode cX9_comes 74 = .ok (.iastore, 1) := by decide +kernel
theorem dX9_comes_75 : decode cX9_comes 75 = .ok (.goto 31, 3) := by decide +kernel
theorem dX9_comes_78 : decode cX9_comes 78 = .ok (.aload_n 0, 1) := by decide +kernel
theorem dX9_comes_79 : decode cX9_comes 79 = .ok (.getfield 7, 3) := by decide +kernel
theorem dX9_comes_82 : decode cX9_comes 82 = .ok (.bipush 22, 2) := by decide +kernel
theorem dX9_comes_84 : decode cX9_comes 84 = .ok (.iaload, 1) := by decide +kernel
theorem dX9_comes_85 : decode cX9_comes 85 = .ok (.iload_n 1, 1) := by decide +kernel
theorem dX9_comes_86 : decode cX9_comes 86 = .ok (.iadd, 1) := by decide +kernel
theorem dX9_comes_87 : decode cX9_comes 87 = .ok (.istore_n 2, 1) := by decide +kernel
theorem dX9_comes_88 : decode cX9_comes 88 = .ok (.aload_n 0, 1) := by decide +kernel
theorem dX9_comes_89 : decode cX9_comes 89 = .ok (.getfield 7, 3) := by decide +kernel
theorem dX9_comes_92 : decode cX9_comes 92 = .ok (.bipush 22, 2) := by decide +kernel
theorem dX9_comes_94 : decode cX9_comes 94 = .ok (.iconst 0, 1) := by decide +kernel
theorem dX9_comes_95 : decode cX9_comes 95 = .ok (.iastore, 1) := by decide +kernel
theorem dX9_comes_96 : decode cX9_comes 96 = .ok (.aload_n 0, 1) := by decide +kernel
theorem dX9_comes_97 : decode cX9_comes 97 = .ok (.iload_n 2, 1) := by decide +kernel
theorem dX9_comes_98 : decode cX9_comes 98 = .ok (.invokevirtual 99, 3) := by decide +kernel
theorem dX9_comes_101 : decode cX9_comes 101 = .ok (.aload_n 0, 1) := by decide +kernel
theorem dX9_comes_102 : decode cX9_comes 102 = .ok (.iconst 1, 1) := by decide +kernel
theorem dX9_comes_103 : decode cX9_comes 103 = .ok (.invokevirtual 102, 3) := by decide +kernel
theorem dX9_comes_106 : decode cX9_comes 106 = .ok (.return_, 1) := by decide +kernel
theorem dX9_isSync_0 : decode cX9_isSync 0 = .ok (.iconst 1, 1) := by decide +kernel
theorem dX9_isSync_1 : decode cX9_isSync 1 = .ok (.istore_n 3, 1) := by decide +kernel
theorem dX9_isSync_2 : decode cX9_isSync 2 = .ok (.iconst 0, 1) := by decide +kernel
theorem dX9_isSync_3 : decode cX9_isSync 3 = .ok (.istore 4, 2) := by decide +kernel
theorem dX9_isSync_5 : decode cX9_isSync 5 = .ok (.iload 4, 2) := by decide +kernel
theorem dX9_isSync_7 : decode cX9_isSync 7 = .ok (.bipush 16, 2) := by decide +kernel
theorem dX9_isSync_9 : decode cX9_isSync 9 = .ok (.if_icmp .ge 51, 3) := by decide +kernel
theorem dX9_isSync_12 : decode cX9_isSync 12 = .ok (.iload_n 3, 1) := by decide +kernel
theorem dX9_isSync_13 : decode cX9_isSync 13 = .ok (.ifCond .eq 39, 3) := by decide +kernel
theorem dX9_isSync_16 : decode cX9_isSync 16 = .ok (.aload_n 0, 1) := by decide +kernel
theorem dX9_isSync_17 : decode cX9_isSync 17 = .ok (.getfield 7, 3) := by decide +kernel
theorem dX9_isSync_20 : decode cX9_isSync 20 = .ok (.bipush 47, 2) := by decide +kernel
theorem dX9_isSync_22 : decode cX9_isSync 22 = .ok (.iload_n 1, 1) := by decide +kernel
theorem dX9_isSync_23 : decode cX9_isSync 23 = .ok (.iadd, 1) := by decide +kernel
theorem dX9_isSync_24 : decode cX9_isSync 24 = .ok (.iload 4, 2) := by decide +kernel
theorem dX9_isSync_26 : decode cX9_isSync 26 = .ok (.iadd, 1) := by decide +kernel
theorem dX9_isSync_27 : decode cX9_isSync 27 = .ok (.iaload, 1) := by decide +kernel
theorem dX9_isSync_28 : decode cX9_isSync 28 = .ok (.iload_n 2, 1) := by decide +kernel
theorem dX9_isSync_29 : decode cX9_isSync 29 = .ok (.ifCond .eq 8, 3) := by decide +kernel
theorem dX9_isSync_32 : decode cX9_isSync 32 = .ok (.iload 4, 2) := by decide +kernel
theorem dX9_isSync_34 : decode cX9_isSync 34 = .ok (.goto 8, 3) := by decide +kernel
theorem dX9_isSync_37 : decode cX9_isSync 37 = .ok (.bipush 15, 2) := by decide +kernel
theorem dX9_isSync_39 : decode cX9_isSync 39 = .ok (.iload 4, 2) := by decide +kernel
theorem dX9_isSync_41 : decode cX9_isSync 41 = .ok (.isub, 1) := by decide +kernel
theorem dX9_isSync_42 : decode cX9_isSync 42 = .ok (.invokestatic 89, 3) := by decide +kernel
theorem dX9_isSync_45 : decode cX9_isSync 45 = .ok (.if_icmp .ne 7, 3) := by decide +kernel
theorem dX9_isSync_48 : decode cX9_isSync 48 = .ok (.iconst 1, 1) := by decide +kernel
theorem dX9_isSync_49 : decode cX9_isSync 49 = .ok (.goto 4, 3) := by decide +kernel
theorem dX9_isSync_52 : decode cX9_isSync 52 = .ok (.iconst 0, 1) := by decide +kernel
theorem dX9_isSync_53 : decode cX9_isSync 53 = .ok (.istore_n 3, 1) := by decide +kernel
theorem dX9_isSync_54 : decode cX9_isSync 54 = .ok (.iinc 4 1, 3) := by decide +kernel
theorem dX9_isSync_57 : decode cX9_isSync 57 = .ok (.goto (-52), 3) := by decide +kernel
theorem dX9_isSync_60 : decode cX9_isSync 60 = .ok (.iload_n 3, 1) := by decide +kernel
theorem dX9_isSync_61 : decode cX9_isSync 61 = .ok (.ireturn, 1) := by decide +kernel
theorem dX9_tells_0 : decode cX9_tells 0 = .ok (.aload_n 0, 1) := by decide +kernel
theorem dX9_tells_1 : decode cX9_tells 1 = .ok (.getfield 7, 3) := by decide +kernel
theorem dX9_tells_4 : decode cX9_tells 4 = .ok (.bipush 23, 2) := by decide +kernel
theorem dX9_tells_6 : decode cX9_tells 6 = .ok (.iaload, 1) := by decide +kernel
theorem dX9_tells_7 : decode cX9_tells 7 = .ok (.bipush 48, 2) := by decide +kernel
theorem dX9_tells_9 : decode cX9_tells 9 = .ok (.if_icmp .ne 48, 3) := by decide +kernel
theorem dX9_tells_12 : decode cX9_tells 12 = .ok (.iconst 0, 1) := by decide +kernel
theorem dX9_tells_13 : decode cX9_tells 13 = .ok (.istore_n 2, 1) := by decide +kernel
theorem dX9_tells_14 : decode cX9_tells 14 = .ok (.iload_n 2, 1) := by decide +kernel
theorem dX9_tells_15 : decode cX9_tells 15 = .ok (.bipush 47, 2) := by decide +kernel
theorem dX9_tells_17 : decode cX9_tells 17 = .ok (.if_icmp .ge 29, 3) := by decide +kernel
theorem dX9_tells_20 : decode cX9_tells 20 = .ok (.aload_n 0, 1) := by decide +kernel
theorem dX9_tells_21 : decode cX9_tells 21 = .ok (.getfield 7, 3) := by decide +kernel
theorem dX9_tells_24 : decode cX9_tells 24 = .ok (.bipush 47, 2) := by decide +kernel
theorem dX9_tells_26 : decode cX9_tells 26 = .ok (.iload_n 2, 1) := by decide +kernel
theorem dX9_tells_27 : decode cX9_tells 27 = .ok (.iadd, 1) := by decide +kernel
theorem dX9_tells_28 : decode cX9_tells 28 = .ok (.aload_n 0, 1) := by decide +kernel
theorem dX9_tells_29 : decode cX9_tells 29 = .ok (.getfield 7, 3) := by decide +kernel
theorem dX9_tells_32 : decode cX9_tells 32 = .ok (.bipush 47, 2) := by decide +kernel
theorem dX9_tells_34 : decode cX9_tells 34 = .ok (.iload_n 2, 1) := by decide +kernel
theorem dX9_tells_35 : decode cX9_tells 35 = .ok (.iadd, 1) := by decide +kernel
theorem dX9_tells_36 : decode cX9_tells 36 = .ok (.iconst 1, 1) := by decide +kernel
theorem dX9_tells_37 : decode cX9_tells 37 = .ok (.iadd, 1) := by decide +kernel
theorem dX9_tells_38 : decode cX9_tells 38 = .ok (.iaload, 1) := by decide +kernel
theorem dX9_tells_39 : decode cX9_tells 39 = .ok (.iastore, 1) := by decide +kernel
theorem dX9_tells_40 : decode cX9_tells 40 = .ok (.iinc 2 1, 3) := by decide +kernel
theorem dX9_tells_43 : decode cX9_tells 43 = .ok (.goto (-29), 3) := by decide +kernel
theorem dX9_tells_46 : decode cX9_tells 46 = .ok (.aload_n 0, 1) := by decide +kernel
theorem dX9_tells_47 : decode cX9_tells 47 = .ok (.getfield 7, 3) := by decide +kernel
theorem dX9_tells_50 : decode cX9_tells 50 = .ok (.bipush 23, 2) := by decide +kernel
theorem dX9_tells_52 : decode cX9_tells 52 = .ok (.dup2, 1) := by decide +kernel
theorem dX9_tells_53 : decode cX9_tells 53 = .ok (.iaload, 1) := by decide +kernel
theorem dX9_tells_54 : decode cX9_tells 54 = .ok (.iconst 1, 1) := by decide +kernel
theorem dX9_tells_55 : decode cX9_tells 55 = .ok (.isub, 1) := by decide +kernel
theorem dX9_tells_56 : decode cX9_tells 56 = .ok (.iastore, 1) := by decide +kernel
theorem dX9_tells_57 : decode cX9_tells 57 = .ok (.aload_n 0, 1) := by decide +kernel
theorem dX9_tells_58 : decode cX9_tells 58 = .ok (.getfield 7, 3) := by decide +kernel
theorem dX9_tells_61 : decode cX9_tells 61 = .ok (.bipush 47, 2) := by decide +kernel
theorem dX9_tells_63 : decode cX9_tells 63 = .ok (.aload_n 0, 1) := by decide +kernel
theorem dX9_tells_64 : decode cX9_tells 64 = .ok (.getfield 7, 3) := by decide +kernel
theorem dX9_tells_67 : decode cX9_tells 67 = .ok (.bipush 23, 2) := by decide +kernel
theorem dX9_tells_69 : decode cX9_tells 69 = .ok (.iaload, 1) := by decide +kernel
theorem dX9_tells_70 : decode cX9_tells 70 = .ok (.iadd, 1) := by decide +kernel
theorem dX9_tells_71 : decode cX9_tells 71 = .ok (.iload_n 1, 1) := by decide +kernel
theorem dX9_tells_72 : decode cX9_tells 72 = .ok (.iastore, 1) := by decide +kernel
theorem dX9_tells_73 : decode cX9_tells 73 = .ok (.aload_n 0, 1) := by decide +kernel
theorem dX9_tells_74 : decode cX9_tells 74 = .ok (.getfield 7, 3) := by decide +kernel
theorem dX9_tells_77 : decode cX9_tells 77 = .ok (.bipush 23, 2) := by decide +kernel
theorem dX9_tells_79 : decode cX9_tells 79 = .ok (.dup2, 1) := by decide +kernel
theorem dX9_tells_80 : decode cX9_tells 80 = .ok (.iaload, 1) := by decide +kernel
theorem dX9_tells_81 : decode cX9_tells 81 = .ok (.iconst 1, 1) := by decide +kernel
theorem dX9_tells_82 : decode cX9_tells 82 = .ok (.iadd, 1) := by decide +kernel
theorem dX9_tells_83 : decode cX9_tells 83 = .ok (.iastore, 1) := by decide +kernel
theorem dX9_tells_84 : decode cX9_tells 84 = .ok (.aload_n 0, 1) := by decide +kernel
theorem dX9_tells_85 : decode cX9_tells 85 = .ok (.getfield 7, 3) := by decide +kernel
theorem dX9_tells_88 : decode cX9_tells 88 = .ok (.bipush 23, 2) := by decide +kernel
theorem dX9_tells_90 : decode cX9_tells 90 = .ok (.iaload, 1) := by decide +kernel
theorem dX9_tells_91 : decode cX9_tells 91 = .ok (.bipush 48, 2) := by decide +kernel
theorem dX9_tells_93 : decode cX9_tells 93 = .ok (.if_icmp .ge 4, 3) := by decide +kernel
theorem dX9_tells_96 : decode cX9_tells 96 = .ok (.return_, 1) := by decide +kernel
theorem dX9_tells_97 : decode cX9_tells 97 = .ok (.aload_n 0, 1) := by decide +kernel
theorem dX9_tells_98 : decode cX9_tells 98 = .ok (.bipush 32, 2) := by decide +kernel
theorem dX9_tells_100 : decode cX9_tells 100 = .ok (.iconst 1, 1) := by decide +kernel
theorem dX9_tells_101 : decode cX9_tells 101 = .ok (.invokevirtual 105, 3) := by decide +kernel
theorem dX9_tells_104 : decode cX9_tells 104 = .ok (.istore_n 2, 1) := by decide +kernel
theorem dX9_tells_105 : decode cX9_tells 105 = .ok (.iload_n 2, 1) := by decide +kernel
theorem dX9_tells_106 : decode cX9_tells 106 = .ok (.ifCond .ne 12, 3) := by decide +kernel
theorem dX9_tells_109 : decode cX9_tells 109 = .ok (.aload_n 0, 1) := by decide +kernel
theorem dX9_tells_110 : decode cX9_tells 110 = .ok (.iconst 0, 1) := by decide +kernel
theorem dX9_tells_111 : decode cX9_tells 111 = .ok (.iconst 0, 1) := by decide +kernel
theorem dX9_tells_112 : decode cX9_tells 112 = .ok (.invokevirtual 105, 3) := by decide +kernel
theorem dX9_tells_115 : decode cX9_tells 115 = .ok (.ifCond .eq 71, 3) := by decide +kernel
theorem dX9_tells_118 : decode cX9_tells 118 = .ok (.iconst 0, 1) := by decide +kernel
theorem dX9_tells_119 : decode cX9_tells 119 = .ok (.istore_n 3, 1) := by decide +kernel
theorem dX9_tells_120 : decode cX9_tells 120 = .ok (.iconst 0, 1) := by decide +kernel
theorem dX9_tells_121 : decode cX9_tells 121 = .ok (.istore 4, 2) := by decide +kernel
theorem dX9_tells_123 : decode cX9_tells 123 = .ok (.iload 4, 2) := by decide +kernel
theorem dX9_tells_125 : decode cX9_tells 125 = .ok (.bipush 32, 2) := by decide +kernel
theorem dX9_tells_127 : decode cX9_tells 127 = .ok (.if_icmp .ge 37, 3) := by decide +kernel
theorem dX9_tells_130 : decode cX9_tells 130 = .ok (.iload_n 3, 1) := by decide +kernel
theorem dX9_tells_131 : decode cX9_tells 131 = .ok (.aload_n 0, 1) := by decide +kernel
theorem dX9_tells_132 : decode cX9_tells 132 = .ok (.getfield 7, 3) := by decide +kernel
theorem dX9_tells_135 : decode cX9_tells 135 = .ok (.bipush 47, 2) := by decide +kernel
theorem dX9_tells_137 : decode cX9_tells 137 = .ok (.iload_n 2, 1) := by decide +kernel
theorem dX9_tells_138 : decode cX9_tells 138 = .ok (.ifCond .eq 8, 3) := by decide +kernel
theorem dX9_tells_141 : decode cX9_tells 141 = .ok (.iload 4, 2) := by decide +kernel
theorem dX9_tells_143 : decode cX9_tells 143 = .ok (.goto 8, 3) := by decide +kernel
theorem dX9_tells_146 : decode cX9_tells 146 = .ok (.bipush 47, 2) := by decide +kernel
theorem dX9_tells_148 : decode cX9_tells 148 = .ok (.iload 4, 2) := by decide +kernel
theorem dX9_tells_150 : decode cX9_tells 150 = .ok (.isub, 1) := by decide +kernel
theorem dX9_tells_151 : decode cX9_tells 151 = .ok (.iadd, 1) := by decide +kernel
theorem dX9_tells_152 : decode cX9_tells 152 = .ok (.iaload, 1) := by decide +kernel
theorem dX9_tells_153 : decode cX9_tells 153 = .ok (.iload 4, 2) := by decide +kernel
theorem dX9_tells_155 : decode cX9_tells 155 = .ok (.ishl, 1) := by decide +kernel
theorem dX9_tells_156 : decode cX9_tells 156 = .ok (.ior, 1) := by decide +kernel
theorem dX9_tells_157 : decode cX9_tells 157 = .ok (.istore_n 3, 1) := by decide +kernel
theorem dX9_tells_158 : decode cX9_tells 158 = .ok (.iinc 4 1, 3) := by decide +kernel
theorem dX9_tells_161 : decode cX9_tells 161 = .ok (.goto (-38), 3) := by decide +kernel
theorem dX9_tells_164 : decode cX9_tells 164 = .ok (.aload_n 0, 1) := by decide +kernel
theorem dX9_tells_165 : decode cX9_tells 165 = .ok (.getfield 7, 3) := by decide +kernel
theorem dX9_tells_168 : decode cX9_tells 168 = .ok (.bipush 23, 2) := by decide +kernel
theorem dX9_tells_170 : decode cX9_tells 170 = .ok (.iconst 0, 1) := by decide +kernel
theorem dX9_tells_171 : decode cX9_tells 171 = .ok (.iastore, 1) := by decide +kernel
theorem dX9_tells_172 : decode cX9_tells 172 = .ok (.aload_n 0, 1) := by decide +kernel
theorem dX9_tells_173 : decode cX9_tells 173 = .ok (.iload_n 3, 1) := by decide +kernel
theorem dX9_tells_174 : decode cX9_tells 174 = .ok (.iload_n 2, 1) := by decide +kernel
theorem dX9_tells_175 : decode cX9_tells 175 = .ok (.ifCond .eq 7, 3) := by decide +kernel
theorem dX9_tells_178 : decode cX9_tells 178 = .ok (.iconst 1, 1) := by decide +kernel
theorem dX9_tells_179 : decode cX9_tells 179 = .ok (.goto 4, 3) := by decide +kernel
theorem dX9_tells_182 : decode cX9_tells 182 = .ok (.iconst (-1), 1) := by decide +kernel
theorem dX9_tells_183 : decode cX9_tells 183 = .ok (.invokevirtual 109, 3) := by decide +kernel
theorem dX9_tells_186 : decode cX9_tells 186 = .ok (.return_, 1) := by decide +kernel
theorem dX9_areFigures_0 : decode cX9_areFigures 0 = .ok (.iload_n 0, 1) := by decide +kernel
theorem dX9_areFigures_1 : decode cX9_areFigures 1 = .ok (.bipush 15, 2) := by decide +kernel
theorem dX9_areFigures_3 : decode cX9_areFigures 3 = .ok (.iand, 1) := by decide +kernel
theorem dX9_areFigures_4 : decode cX9_areFigures 4 = .ok (.bipush 10, 2) := by decide +kernel
theorem dX9_areFigures_6 : decode cX9_areFigures 6 = .ok (.if_icmp .ge 43, 3) := by decide +kernel
theorem dX9_areFigures_9 : decode cX9_areFigures 9 = .ok (.iload_n 0, 1) := by decide +kernel
theorem dX9_areFigures_10 : decode cX9_areFigures 10 = .ok (.bipush 6, 2) := by decide +kernel
theorem dX9_areFigures_12 : decode cX9_areFigures 12 = .ok (.iushr, 1) := by decide +kernel
theorem dX9_areFigures_13 : decode cX9_areFigures 13 = .ok (.bipush 15, 2) := by decide +kernel
theorem dX9_areFigures_15 : decode cX9_areFigures 15 = .ok (.iand, 1) := by decide +kernel
theorem dX9_areFigures_16 : decode cX9_areFigures 16 = .ok (.bipush 10, 2) := by decide +kernel
theorem dX9_areFigures_18 : decode cX9_areFigures 18 = .ok (.if_icmp .ge 31, 3) := by decide +kernel
theorem dX9_areFigures_21 : decode cX9_areFigures 21 = .ok (.iload_n 0, 1) := by decide +kernel
theorem dX9_areFigures_22 : decode cX9_areFigures 22 = .ok (.bipush 13, 2) := by decide +kernel
theorem dX9_areFigures_24 : decode cX9_areFigures 24 = .ok (.iushr, 1) := by decide +kernel
theorem dX9_areFigures_25 : decode cX9_areFigures 25 = .ok (.bipush 15, 2) := by decide +kernel
theorem dX9_areFigures_27 : decode cX9_areFigures 27 = .ok (.iand, 1) := by decide +kernel
theorem dX9_areFigures_28 : decode cX9_areFigures 28 = .ok (.bipush 10, 2) := by decide +kernel
theorem dX9_areFigures_30 : decode cX9_areFigures 30 = .ok (.if_icmp .ge 19, 3) := by decide +kernel
theorem dX9_areFigures_33 : decode cX9_areFigures 33 = .ok (.iload_n 0, 1) := by decide +kernel
theorem dX9_areFigures_34 : decode cX9_areFigures 34 = .ok (.bipush 20, 2) := by decide +kernel
theorem dX9_areFigures_36 : decode cX9_areFigures 36 = .ok (.iushr, 1) := by decide +kernel
theorem dX9_areFigures_37 : decode cX9_areFigures 37 = .ok (.bipush 15, 2) := by decide +kernel
theorem dX9_areFigures_39 : decode cX9_areFigures 39 = .ok (.iand, 1) := by decide +kernel
theorem dX9_areFigures_40 : decode cX9_areFigures 40 = .ok (.bipush 10, 2) := by decide +kernel
theorem dX9_areFigures_42 : decode cX9_areFigures 42 = .ok (.if_icmp .ge 7, 3) := by decide +kernel
theorem dX9_areFigures_45 : decode cX9_areFigures 45 = .ok (.iconst 1, 1) := by decide +kernel
theorem dX9_areFigures_46 : decode cX9_areFigures 46 = .ok (.goto 4, 3) := by decide +kernel
theorem dX9_areFigures_49 : decode cX9_areFigures 49 = .ok (.iconst 0, 1) := by decide +kernel
theorem dX9_areFigures_50 : decode cX9_areFigures 50 = .ok (.ireturn, 1) := by decide +kernel
theorem dX9_two_0 : decode cX9_two 0 = .ok (.iload_n 0, 1) := by decide +kernel
theorem dX9_two_1 : decode cX9_two 1 = .ok (.iload_n 1, 1) := by decide +kernel
theorem dX9_two_2 : decode cX9_two 2 = .ok (.iushr, 1) := by decide +kernel
theorem dX9_two_3 : decode cX9_two 3 = .ok (.bipush 15, 2) := by decide +kernel
theorem dX9_two_5 : decode cX9_two 5 = .ok (.iand, 1) := by decide +kernel
theorem dX9_two_6 : decode cX9_two 6 = .ok (.bipush 10, 2) := by decide +kernel
theorem dX9_two_8 : decode cX9_two 8 = .ok (.iload_n 0, 1) := by decide +kernel
theorem dX9_two_9 : decode cX9_two 9 = .ok (.iload_n 1, 1) := by decide +kernel
theorem dX9_two_10 : decode cX9_two 10 = .ok (.iconst 4, 1) := by decide +kernel
theorem dX9_two_11 : decode cX9_two 11 = .ok (.iadd, 1) := by decide +kernel
theorem dX9_two_12 : decode cX9_two 12 = .ok (.iushr, 1) := by decide +kernel
theorem dX9_two_13 : decode cX9_two 13 = .ok (.iload_n 2, 1) := by decide +kernel
theorem dX9_two_14 : decode cX9_two 14 = .ok (.iand, 1) := by decide +kernel
theorem dX9_two_15 : decode cX9_two 15 = .ok (.imul, 1) := by decide +kernel
theorem dX9_two_16 : decode cX9_two 16 = .ok (.iadd, 1) := by decide +kernel
theorem dX9_two_17 : decode cX9_two 17 = .ok (.ireturn, 1) := by decide +kernel
theorem dX9_finds_0 : decode cX9_finds 0 = .ok (.ldc 54, 2) := by decide +kernel
theorem dX9_finds_2 : decode cX9_finds 2 = .ok (.iload_n 1, 1) := by decide +kernel
theorem dX9_finds_3 : decode cX9_finds 3 = .ok (.bipush 20, 2) := by decide +kernel
theorem dX9_finds_5 : decode cX9_finds 5 = .ok (.iconst 3, 1) := by decide +kernel
theorem dX9_finds_6 : decode cX9_finds 6 = .ok (.invokestatic 113, 3) := by decide +kernel
theorem dX9_finds_9 : decode cX9_finds 9 = .ok (.imul, 1) := by decide +kernel
theorem dX9_finds_10 : decode cX9_finds 10 = .ok (.sipush 10000, 3) := by decide +kernel
theorem dX9_finds_13 : decode cX9_finds 13 = .ok (.iload_n 1, 1) := by decide +kernel
theorem dX9_finds_14 : decode cX9_finds 14 = .ok (.bipush 13, 2) := by decide +kernel
theorem dX9_finds_16 : decode cX9_finds 16 = .ok (.bipush 7, 2) := by decide +kernel
theorem dX9_finds_18 : decode cX9_finds 18 = .ok (.invokestatic 113, 3) := by decide +kernel
theorem dX9_finds_21 : decode cX9_finds 21 = .ok (.imul, 1) := by decide +kernel
theorem dX9_finds_22 : decode cX9_finds 22 = .ok (.iadd, 1) := by decide +kernel
theorem dX9_finds_23 : decode cX9_finds 23 = .ok (.bipush 100, 2) := by decide +kernel
theorem dX9_finds_25 : decode cX9_finds 25 = .ok (.iload_n 1, 1) := by decide +kernel
theorem dX9_finds_26 : decode cX9_finds 26 = .ok (.bipush 6, 2) := by decide +kernel
theorem dX9_finds_28 : decode cX9_finds 28 = .ok (.bipush 7, 2) := by decide +kernel
theorem dX9_finds_30 : decode cX9_finds 30 = .ok (.invokestatic 113, 3) := by decide +kernel
theorem dX9_finds_33 : decode cX9_finds 33 = .ok (.imul, 1) := by decide +kernel
theorem dX9_finds_34 : decode cX9_finds 34 = .ok (.iadd, 1) := by decide +kernel
theorem dX9_finds_35 : decode cX9_finds 35 = .ok (.iload_n 1, 1) := by decide +kernel
theorem dX9_finds_36 : decode cX9_finds 36 = .ok (.iconst 0, 1) := by decide +kernel
theorem dX9_finds_37 : decode cX9_finds 37 = .ok (.iconst 3, 1) := by decide +kernel
theorem dX9_finds_38 : decode cX9_finds 38 = .ok (.invokestatic 113, 3) := by decide +kernel
theorem dX9_finds_41 : decode cX9_finds 41 = .ok (.iadd, 1) := by decide +kernel
theorem dX9_finds_42 : decode cX9_finds 42 = .ok (.istore_n 3, 1) := by decide +kernel
theorem dX9_finds_43 : decode cX9_finds 43 = .ok (.iload_n 1, 1) := by decide +kernel
theorem dX9_finds_44 : decode cX9_finds 44 = .ok (.invokestatic 82, 3) := by decide +kernel
theorem dX9_finds_47 : decode cX9_finds 47 = .ok (.ifCond .eq 38, 3) := by decide +kernel
theorem dX9_finds_50 : decode cX9_finds 50 = .ok (.iload_n 1, 1) := by decide +kernel
theorem dX9_finds_51 : decode cX9_finds 51 = .ok (.bipush 26, 2) := by decide +kernel
theorem dX9_finds_53 : decode cX9_finds 53 = .ok (.iushr, 1) := by decide +kernel
theorem dX9_finds_54 : decode cX9_finds 54 = .ok (.iconst 1, 1) := by decide +kernel
theorem dX9_finds_55 : decode cX9_finds 55 = .ok (.iand, 1) := by decide +kernel
theorem dX9_finds_56 : decode cX9_finds 56 = .ok (.aload_n 0, 1) := by decide +kernel
theorem dX9_finds_57 : decode cX9_finds 57 = .ok (.getfield 7, 3) := by decide +kernel
theorem dX9_finds_60 : decode cX9_finds 60 = .ok (.iconst 0, 1) := by decide +kernel
theorem dX9_finds_61 : decode cX9_finds 61 = .ok (.iaload, 1) := by decide +kernel
theorem dX9_finds_62 : decode cX9_finds 62 = .ok (.iconst 3, 1) := by decide +kernel
theorem dX9_finds_63 : decode cX9_finds 63 = .ok (.if_icmp .ne 7, 3) := by decide +kernel
theorem dX9_finds_66 : decode cX9_finds 66 = .ok (.iconst 1, 1) := by decide +kernel
theorem dX9_finds_67 : decode cX9_finds 67 = .ok (.goto 4, 3) := by decide +kernel
theorem dX9_finds_70 : decode cX9_finds 70 = .ok (.iconst 0, 1) := by decide +kernel
theorem dX9_finds_71 : decode cX9_finds 71 = .ok (.if_icmp .ne 14, 3) := by decide +kernel
theorem dX9_finds_74 : decode cX9_finds 74 = .ok (.iload_n 1, 1) := by decide +kernel
theorem dX9_finds_75 : decode cX9_finds 75 = .ok (.invokestatic 117, 3) := by decide +kernel
theorem dX9_finds_78 : decode cX9_finds 78 = .ok (.ifCond .eq 7, 3) := by decide +kernel
theorem dX9_finds_81 : decode cX9_finds 81 = .ok (.iconst 1, 1) := by decide +kernel
theorem dX9_finds_82 : decode cX9_finds 82 = .ok (.goto 4, 3) := by decide +kernel
theorem dX9_finds_85 : decode cX9_finds 85 = .ok (.iconst 0, 1) := by decide +kernel
theorem dX9_finds_86 : decode cX9_finds 86 = .ok (.istore 4, 2) := by decide +kernel
theorem dX9_finds_88 : decode cX9_finds 88 = .ok (.iload 4, 2) := by decide +kernel
theorem dX9_finds_90 : decode cX9_finds 90 = .ok (.ifCond .eq 16, 3) := by decide +kernel
theorem dX9_finds_93 : decode cX9_finds 93 = .ok (.aload_n 0, 1) := by decide +kernel
theorem dX9_finds_94 : decode cX9_finds 94 = .ok (.getfield 7, 3) := by decide +kernel
theorem dX9_finds_97 : decode cX9_finds 97 = .ok (.iconst 0, 1) := by decide +kernel
theorem dX9_finds_98 : decode cX9_finds 98 = .ok (.iaload, 1) := by decide +kernel
theorem dX9_finds_99 : decode cX9_finds 99 = .ok (.iload_n 3, 1) := by decide +kernel
theorem dX9_finds_100 : decode cX9_finds 100 = .ok (.invokestatic 63, 3) := by decide +kernel
theorem dX9_finds_103 : decode cX9_finds 103 = .ok (.goto 5, 3) := by decide +kernel
theorem dX9_finds_106 : decode cX9_finds 106 = .ok (.bipush (-9), 2) := by decide +kernel
theorem dX9_finds_108 : decode cX9_finds 108 = .ok (.istore 5, 2) := by decide +kernel
theorem dX9_finds_110 : decode cX9_finds 110 = .ok (.iload 5, 2) := by decide +kernel
theorem dX9_finds_112 : decode cX9_finds 112 = .ok (.bipush (-9), 2) := by decide +kernel
theorem dX9_finds_114 : decode cX9_finds 114 = .ok (.if_icmp .ne 15, 3) := by decide +kernel
theorem dX9_finds_117 : decode cX9_finds 117 = .ok (.aload_n 0, 1) := by decide +kernel
theorem dX9_finds_118 : decode cX9_finds 118 = .ok (.getfield 7, 3) := by decide +kernel
theorem dX9_finds_121 : decode cX9_finds 121 = .ok (.bipush 25, 2) := by decide +kernel
theorem dX9_finds_123 : decode cX9_finds 123 = .ok (.dup2, 1) := by decide +kernel
theorem dX9_finds_124 : decode cX9_finds 124 = .ok (.iaload, 1) := by decide +kernel
theorem dX9_finds_125 : decode cX9_finds 125 = .ok (.iconst 1, 1) := by decide +kernel
theorem dX9_finds_126 : decode cX9_finds 126 = .ok (.iadd, 1) := by decide +kernel
theorem dX9_finds_127 : decode cX9_finds 127 = .ok (.iastore, 1) := by decide +kernel
theorem dX9_finds_128 : decode cX9_finds 128 = .ok (.return_, 1) := by decide +kernel
theorem dX9_finds_129 : decode cX9_finds 129 = .ok (.aload_n 0, 1) := by decide +kernel
theorem dX9_finds_130 : decode cX9_finds 130 = .ok (.getfield 7, 3) := by decide +kernel
theorem dX9_finds_133 : decode cX9_finds 133 = .ok (.bipush 24, 2) := by decide +kernel
theorem dX9_finds_135 : decode cX9_finds 135 = .ok (.dup2, 1) := by decide +kernel
theorem dX9_finds_136 : decode cX9_finds 136 = .ok (.iaload, 1) := by decide +kernel
theorem dX9_finds_137 : decode cX9_finds 137 = .ok (.iconst 1, 1) := by decide +kernel
theorem dX9_finds_138 : decode cX9_finds 138 = .ok (.iadd, 1) := by decide +kernel
theorem dX9_finds_139 : decode cX9_finds 139 = .ok (.iastore, 1) := by decide +kernel
theorem dX9_finds_140 : decode cX9_finds 140 = .ok (.aload_n 0, 1) := by decide +kernel
theorem dX9_finds_141 : decode cX9_finds 141 = .ok (.getfield 7, 3) := by decide +kernel
theorem dX9_finds_144 : decode cX9_finds 144 = .ok (.bipush 29, 2) := by decide +kernel
theorem dX9_finds_146 : decode cX9_finds 146 = .ok (.iaload, 1) := by decide +kernel
theorem dX9_finds_147 : decode cX9_finds 147 = .ok (.iconst 1, 1) := by decide +kernel
theorem dX9_finds_148 : decode cX9_finds 148 = .ok (.if_icmp .ne 25, 3) := by decide +kernel
theorem dX9_finds_151 : decode cX9_finds 151 = .ok (.iload 5, 2) := by decide +kernel
theorem dX9_finds_153 : decode cX9_finds 153 = .ok (.aload_n 0, 1) := by decide +kernel
theorem dX9_finds_154 : decode cX9_finds 154 = .ok (.aload_n 0, 1) := by decide +kernel
theorem dX9_finds_155 : decode cX9_finds 155 = .ok (.getfield 7, 3) := by decide +kernel
theorem dX9_finds_158 : decode cX9_finds 158 = .ok (.bipush 30, 2) := by decide +kernel
theorem dX9_finds_160 : decode cX9_finds 160 = .ok (.iaload, 1) := by decide +kernel
theorem dX9_finds_161 : decode cX9_finds 161 = .ok (.iload_n 2, 1) := by decide +kernel
theorem dX9_finds_162 : decode cX9_finds 162 = .ok (.iadd, 1) := by decide +kernel
theorem dX9_finds_163 : decode cX9_finds 163 = .ok (.invokevirtual 72, 3) := by decide +kernel
theorem dX9_finds_166 : decode cX9_finds 166 = .ok (.if_icmp .ne 7, 3) := by decide +kernel
theorem dX9_finds_169 : decode cX9_finds 169 = .ok (.iconst 1, 1) := by decide +kernel
theorem dX9_finds_170 : decode cX9_finds 170 = .ok (.goto 4, 3) := by decide +kernel
theorem dX9_finds_173 : decode cX9_finds 173 = .ok (.iconst 0, 1) := by decide +kernel
theorem dX9_finds_174 : decode cX9_finds 174 = .ok (.istore 6, 2) := by decide +kernel
theorem dX9_finds_176 : decode cX9_finds 176 = .ok (.aload_n 0, 1) := by decide +kernel
theorem dX9_finds_177 : decode cX9_finds 177 = .ok (.getfield 7, 3) := by decide +kernel
theorem dX9_finds_180 : decode cX9_finds 180 = .ok (.bipush 27, 2) := by decide +kernel
theorem dX9_finds_182 : decode cX9_finds 182 = .ok (.dup2, 1) := by decide +kernel
theorem dX9_finds_183 : decode cX9_finds 183 = .ok (.iaload, 1) := by decide +kernel
theorem dX9_finds_184 : decode cX9_finds 184 = .ok (.aload_n 0, 1) := by decide +kernel
theorem dX9_finds_185 : decode cX9_finds 185 = .ok (.getfield 7, 3) := by decide +kernel
theorem dX9_finds_188 : decode cX9_finds 188 = .ok (.bipush 29, 2) := by decide +kernel
theorem dX9_finds_190 : decode cX9_finds 190 = .ok (.iaload, 1) := by decide +kernel
theorem dX9_finds_191 : decode cX9_finds 191 = .ok (.iconst 1, 1) := by decide +kernel
theorem dX9_finds_192 : decode cX9_finds 192 = .ok (.if_icmp .ne 12, 3) := by decide +kernel
theorem dX9_finds_195 : decode cX9_finds 195 = .ok (.iload 6, 2) := by decide +kernel
theorem dX9_finds_197 : decode cX9_finds 197 = .ok (.ifCond .ne 7, 3) := by decide +kernel
theorem dX9_finds_200 : decode cX9_finds 200 = .ok (.iconst 1, 1) := by decide +kernel
theorem dX9_finds_201 : decode cX9_finds 201 = .ok (.goto 4, 3) := by decide +kernel
theorem dX9_finds_204 : decode cX9_finds 204 = .ok (.iconst 0, 1) := by decide +kernel
theorem dX9_finds_205 : decode cX9_finds 205 = .ok (.iadd, 1) := by decide +kernel
theorem dX9_finds_206 : decode cX9_finds 206 = .ok (.iastore, 1) := by decide +kernel
theorem dX9_finds_207 : decode cX9_finds 207 = .ok (.aload_n 0, 1) := by decide +kernel
theorem dX9_finds_208 : decode cX9_finds 208 = .ok (.getfield 7, 3) := by decide +kernel
theorem dX9_finds_211 : decode cX9_finds 211 = .ok (.bipush 28, 2) := by decide +kernel
theorem dX9_finds_213 : decode cX9_finds 213 = .ok (.iload 6, 2) := by decide +kernel
theorem dX9_finds_215 : decode cX9_finds 215 = .ok (.ifCond .eq 15, 3) := by decide +kernel
theorem dX9_finds_218 : decode cX9_finds 218 = .ok (.aload_n 0, 1) := by decide +kernel
theorem dX9_finds_219 : decode cX9_finds 219 = .ok (.getfield 7, 3) := by decide +kernel
theorem dX9_finds_222 : decode cX9_finds 222 = .ok (.bipush 28, 2) := by decide +kernel
theorem dX9_finds_224 : decode cX9_finds 224 = .ok (.iaload, 1) := by decide +kernel
theorem dX9_finds_225 : decode cX9_finds 225 = .ok (.iconst 1, 1) := by decide +kernel
theorem dX9_finds_226 : decode cX9_finds 226 = .ok (.iadd, 1) := by decide +kernel
theorem dX9_finds_227 : decode cX9_finds 227 = .ok (.goto 4, 3) := by decide +kernel
theorem dX9_finds_230 : decode cX9_finds 230 = .ok (.iconst 1, 1) := by decide +kernel
theorem dX9_finds_231 : decode cX9_finds 231 = .ok (.iastore, 1) := by decide +kernel
theorem dX9_finds_232 : decode cX9_finds 232 = .ok (.aload_n 0, 1) := by decide +kernel
theorem dX9_finds_233 : decode cX9_finds 233 = .ok (.getfield 7, 3) := by decide +kernel
theorem dX9_finds_236 : decode cX9_finds 236 = .ok (.bipush 29, 2) := by decide +kernel
theorem dX9_finds_238 : decode cX9_finds 238 = .ok (.iconst 1, 1) := by decide +kernel
theorem dX9_finds_239 : decode cX9_finds 239 = .ok (.iastore, 1) := by decide +kernel
theorem dX9_finds_240 : decode cX9_finds 240 = .ok (.aload_n 0, 1) := by decide +kernel
theorem dX9_finds_241 : decode cX9_finds 241 = .ok (.getfield 7, 3) := by decide +kernel
theorem dX9_finds_244 : decode cX9_finds 244 = .ok (.bipush 30, 2) := by decide +kernel
theorem dX9_finds_246 : decode cX9_finds 246 = .ok (.iload 5, 2) := by decide +kernel
theorem dX9_finds_248 : decode cX9_finds 248 = .ok (.iastore, 1) := by decide +kernel
theorem dX9_finds_249 : decode cX9_finds 249 = .ok (.aload_n 0, 1) := by decide +kernel
theorem dX9_finds_250 : decode cX9_finds 250 = .ok (.getfield 7, 3) := by decide +kernel
theorem dX9_finds_253 : decode cX9_finds 253 = .ok (.bipush 31, 2) := by decide +kernel
theorem dX9_finds_255 : decode cX9_finds 255 = .ok (.iload_n 3, 1) := by decide +kernel
theorem dX9_finds_256 : decode cX9_finds 256 = .ok (.iastore, 1) := by decide +kernel
theorem dX9_finds_257 : decode cX9_finds 257 = .ok (.aload_n 0, 1) := by decide +kernel
theorem dX9_finds_258 : decode cX9_finds 258 = .ok (.getfield 7, 3) := by decide +kernel
theorem dX9_finds_261 : decode cX9_finds 261 = .ok (.bipush 32, 2) := by decide +kernel
theorem dX9_finds_263 : decode cX9_finds 263 = .ok (.iload_n 1, 1) := by decide +kernel
theorem dX9_finds_264 : decode cX9_finds 264 = .ok (.bipush 28, 2) := by decide +kernel
theorem dX9_finds_266 : decode cX9_finds 266 = .ok (.iushr, 1) := by decide +kernel
theorem dX9_finds_267 : decode cX9_finds 267 = .ok (.bipush 15, 2) := by decide +kernel
theorem dX9_finds_269 : decode cX9_finds 269 = .ok (.iand, 1) := by decide +kernel
theorem dX9_finds_270 : decode cX9_finds 270 = .ok (.iastore, 1) := by decide +kernel
theorem dX9_finds_271 : decode cX9_finds 271 = .ok (.aload_n 0, 1) := by decide +kernel
theorem dX9_finds_272 : decode cX9_finds 272 = .ok (.getfield 7, 3) := by decide +kernel
theorem dX9_finds_275 : decode cX9_finds 275 = .ok (.bipush 33, 2) := by decide +kernel
theorem dX9_finds_277 : decode cX9_finds 277 = .ok (.iload_n 2, 1) := by decide +kernel
theorem dX9_finds_278 : decode cX9_finds 278 = .ok (.iastore, 1) := by decide +kernel
theorem dX9_finds_279 : decode cX9_finds 279 = .ok (.aload_n 0, 1) := by decide +kernel
theorem dX9_finds_280 : decode cX9_finds 280 = .ok (.getfield 7, 3) := by decide +kernel
theorem dX9_finds_283 : decode cX9_finds 283 = .ok (.bipush 28, 2) := by decide +kernel
theorem dX9_finds_285 : decode cX9_finds 285 = .ok (.iaload, 1) := by decide +kernel
theorem dX9_finds_286 : decode cX9_finds 286 = .ok (.iconst 2, 1) := by decide +kernel
theorem dX9_finds_287 : decode cX9_finds 287 = .ok (.if_icmp .le 28, 3) := by decide +kernel
theorem dX9_finds_290 : decode cX9_finds 290 = .ok (.aload_n 0, 1) := by decide +kernel
theorem dX9_finds_291 : decode cX9_finds 291 = .ok (.getfield 7, 3) := by decide +kernel
theorem dX9_finds_294 : decode cX9_finds 294 = .ok (.bipush 34, 2) := by decide +kernel
theorem dX9_finds_296 : decode cX9_finds 296 = .ok (.iload 5, 2) := by decide +kernel
theorem dX9_finds_298 : decode cX9_finds 298 = .ok (.iastore, 1) := by decide +kernel
theorem dX9_finds_299 : decode cX9_finds 299 = .ok (.aload_n 0, 1) := by decide +kernel
theorem dX9_finds_300 : decode cX9_finds 300 = .ok (.getfield 7, 3) := by decide +kernel
theorem dX9_finds_303 : decode cX9_finds 303 = .ok (.bipush 35, 2) := by decide +kernel
theorem dX9_finds_305 : decode cX9_finds 305 = .ok (.iload_n 2, 1) := by decide +kernel
theorem dX9_finds_306 : decode cX9_finds 306 = .ok (.iastore, 1) := by decide +kernel
theorem dX9_finds_307 : decode cX9_finds 307 = .ok (.aload_n 0, 1) := by decide +kernel
theorem dX9_finds_308 : decode cX9_finds 308 = .ok (.getfield 7, 3) := by decide +kernel
theorem dX9_finds_311 : decode cX9_finds 311 = .ok (.bipush 36, 2) := by decide +kernel
theorem dX9_finds_313 : decode cX9_finds 313 = .ok (.iconst 0, 1) := by decide +kernel
theorem dX9_finds_314 : decode cX9_finds 314 = .ok (.iastore, 1) := by decide +kernel
theorem dX9_finds_315 : decode cX9_finds 315 = .ok (.return_, 1) := by decide +kernel
theorem dX9_edge_0 : decode cX9_edge 0 = .ok (.aload_n 0, 1) := by decide +kernel
theorem dX9_edge_1 : decode cX9_edge 1 = .ok (.iconst 0, 1) := by decide +kernel
theorem dX9_edge_2 : decode cX9_edge 2 = .ok (.putfield 29, 3) := by decide +kernel
theorem dX9_edge_5 : decode cX9_edge 5 = .ok (.iload_n 1, 1) := by decide +kernel
theorem dX9_edge_6 : decode cX9_edge 6 = .ok (.iconst 1, 1) := by decide +kernel
theorem dX9_edge_7 : decode cX9_edge 7 = .ok (.sipush 9999, 3) := by decide +kernel
theorem dX9_edge_10 : decode cX9_edge 10 = .ok (.invokestatic 46, 3) := by decide +kernel
theorem dX9_edge_13 : decode cX9_edge 13 = .ok (.ifCond .ne 5, 3) := by decide +kernel
theorem dX9_edge_16 : decode cX9_edge 16 = .ok (.iconst (-1), 1) := by decide +kernel
theorem dX9_edge_17 : decode cX9_edge 17 = .ok (.ireturn, 1) := by decide +kernel
theorem dX9_edge_18 : decode cX9_edge 18 = .ok (.aload_n 0, 1) := by decide +kernel
theorem dX9_edge_19 : decode cX9_edge 19 = .ok (.invokevirtual 69, 3) := by decide +kernel
theorem dX9_edge_22 : decode cX9_edge 22 = .ok (.aload_n 0, 1) := by decide +kernel
theorem dX9_edge_23 : decode cX9_edge 23 = .ok (.iload_n 1, 1) := by decide +kernel
theorem dX9_edge_24 : decode cX9_edge 24 = .ok (.invokevirtual 95, 3) := by decide +kernel
theorem dX9_edge_27 : decode cX9_edge 27 = .ok (.aload_n 0, 1) := by decide +kernel
theorem dX9_edge_28 : decode cX9_edge 28 = .ok (.getfield 7, 3) := by decide +kernel
theorem dX9_edge_31 : decode cX9_edge 31 = .ok (.bipush 23, 2) := by decide +kernel
theorem dX9_edge_33 : decode cX9_edge 33 = .ok (.iaload, 1) := by decide +kernel
theorem dX9_edge_34 : decode cX9_edge 34 = .ok (.ireturn, 1) := by decide +kernel
theorem dX9_begins_0 : decode cX9_begins 0 = .ok (.aload_n 0, 1) := by decide +kernel
theorem dX9_begins_1 : decode cX9_begins 1 = .ok (.iconst 0, 1) := by decide +kernel
theorem dX9_begins_2 : decode cX9_begins 2 = .ok (.putfield 29, 3) := by decide +kernel
theorem dX9_begins_5 : decode cX9_begins 5 = .ok (.aload_n 0, 1) := by decide +kernel
theorem dX9_begins_6 : decode cX9_begins 6 = .ok (.invokevirtual 69, 3) := by decide +kernel
theorem dX9_begins_9 : decode cX9_begins 9 = .ok (.aload_n 0, 1) := by decide +kernel
theorem dX9_begins_10 : decode cX9_begins 10 = .ok (.getfield 7, 3) := by decide +kernel
theorem dX9_begins_13 : decode cX9_begins 13 = .ok (.bipush 24, 2) := by decide +kernel
theorem dX9_begins_15 : decode cX9_begins 15 = .ok (.iaload, 1) := by decide +kernel
theorem dX9_begins_16 : decode cX9_begins 16 = .ok (.istore_n 1, 1) := by decide +kernel
theorem dX9_begins_17 : decode cX9_begins 17 = .ok (.aload_n 0, 1) := by decide +kernel
theorem dX9_begins_18 : decode cX9_begins 18 = .ok (.getfield 7, 3) := by decide +kernel
theorem dX9_begins_21 : decode cX9_begins 21 = .ok (.bipush 21, 2) := by decide +kernel
theorem dX9_begins_23 : decode cX9_begins 23 = .ok (.bipush 40, 2) := by decide +kernel
theorem dX9_begins_25 : decode cX9_begins 25 = .ok (.iastore, 1) := by decide +kernel
theorem dX9_begins_26 : decode cX9_begins 26 = .ok (.bipush 22, 2) := by decide +kernel
theorem dX9_begins_28 : decode cX9_begins 28 = .ok (.istore_n 2, 1) := by decide +kernel
theorem dX9_begins_29 : decode cX9_begins 29 = .ok (.iload_n 2, 1) := by decide +kernel
theorem dX9_begins_30 : decode cX9_begins 30 = .ok (.bipush 29, 2) := by decide +kernel
theorem dX9_begins_32 : decode cX9_begins 32 = .ok (.if_icmp .gt 16, 3) := by decide +kernel
theorem dX9_begins_35 : decode cX9_begins 35 = .ok (.aload_n 0, 1) := by decide +kernel
theorem dX9_begins_36 : decode cX9_begins 36 = .ok (.getfield 7, 3) := by decide +kernel
theorem dX9_begins_39 : decode cX9_begins 39 = .ok (.iload_n 2, 1) := by decide +kernel
theorem dX9_begins_40 : decode cX9_begins 40 = .ok (.iconst 0, 1) := by decide +kernel
theorem dX9_begins_41 : decode cX9_begins 41 = .ok (.iastore, 1) := by decide +kernel
theorem dX9_begins_42 : decode cX9_begins 42 = .ok (.iinc 2 1, 3) := by decide +kernel
theorem dX9_begins_45 : decode cX9_begins 45 = .ok (.goto (-16), 3) := by decide +kernel
theorem dX9_begins_48 : decode cX9_begins 48 = .ok (.iload_n 1, 1) := by decide +kernel
theorem dX9_begins_49 : decode cX9_begins 49 = .ok (.ireturn, 1) := by decide +kernel
theorem dX9_reader_0 : decode cX9_reader 0 = .ok (.aload_n 0, 1) := by decide +kernel
theorem dX9_reader_1 : decode cX9_reader 1 = .ok (.iconst 0, 1) := by decide +kernel
theorem dX9_reader_2 : decode cX9_reader 2 = .ok (.putfield 29, 3) := by decide +kernel
theorem dX9_reader_5 : decode cX9_reader 5 = .ok (.iload_n 1, 1) := by decide +kernel
theorem dX9_reader_6 : decode cX9_reader 6 = .ok (.iconst 0, 1) := by decide +kernel
theorem dX9_reader_7 : decode cX9_reader 7 = .ok (.bipush 7, 2) := by decide +kernel
theorem dX9_reader_9 : decode cX9_reader 9 = .ok (.invokestatic 46, 3) := by decide +kernel
theorem dX9_reader_12 : decode cX9_reader 12 = .ok (.ifCond .eq 15, 3) := by decide +kernel
theorem dX9_reader_15 : decode cX9_reader 15 = .ok (.aload_n 0, 1) := by decide +kernel
theorem dX9_reader_16 : decode cX9_reader 16 = .ok (.getfield 7, 3) := by decide +kernel
theorem dX9_reader_19 : decode cX9_reader 19 = .ok (.bipush 21, 2) := by decide +kernel
theorem dX9_reader_21 : decode cX9_reader 21 = .ok (.iload_n 1, 1) := by decide +kernel
theorem dX9_reader_22 : decode cX9_reader 22 = .ok (.iadd, 1) := by decide +kernel
theorem dX9_reader_23 : decode cX9_reader 23 = .ok (.iaload, 1) := by decide +kernel
theorem dX9_reader_24 : decode cX9_reader 24 = .ok (.goto 4, 3) := by decide +kernel
theorem dX9_reader_27 : decode cX9_reader 27 = .ok (.iconst (-1), 1) := by decide +kernel
theorem dX9_reader_28 : decode cX9_reader 28 = .ok (.ireturn, 1) := by decide +kernel
theorem dX9_reading_0 : decode cX9_reading 0 = .ok (.aload_n 0, 1) := by decide +kernel
theorem dX9_reading_1 : decode cX9_reading 1 = .ok (.iconst 0, 1) := by decide +kernel
theorem dX9_reading_2 : decode cX9_reading 2 = .ok (.putfield 29, 3) := by decide +kernel
theorem dX9_reading_5 : decode cX9_reading 5 = .ok (.iload_n 1, 1) := by decide +kernel
theorem dX9_reading_6 : decode cX9_reading 6 = .ok (.iconst 0, 1) := by decide +kernel
theorem dX9_reading_7 : decode cX9_reading 7 = .ok (.iconst 3, 1) := by decide +kernel
theorem dX9_reading_8 : decode cX9_reading 8 = .ok (.invokestatic 46, 3) := by decide +kernel
theorem dX9_reading_11 : decode cX9_reading 11 = .ok (.ifCond .ne 8, 3) := by decide +kernel
theorem dX9_reading_14 : decode cX9_reading 14 = .ok (.ldc 120, 2) := by decide +kernel
theorem dX9_reading_16 : decode cX9_reading 16 = .ok (.goto 27, 3) := by decide +kernel
theorem dX9_reading_19 : decode cX9_reading 19 = .ok (.aload_n 0, 1) := by decide +kernel
theorem dX9_reading_20 : decode cX9_reading 20 = .ok (.getfield 7, 3) := by decide +kernel
theorem dX9_reading_23 : decode cX9_reading 23 = .ok (.bipush 29, 2) := by decide +kernel
theorem dX9_reading_25 : decode cX9_reading 25 = .ok (.iaload, 1) := by decide +kernel
theorem dX9_reading_26 : decode cX9_reading 26 = .ok (.ifCond .ne 8, 3) := by decide +kernel
theorem dX9_reading_29 : decode cX9_reading 29 = .ok (.bipush (-9), 2) := by decide +kernel
theorem dX9_reading_31 : decode cX9_reading 31 = .ok (.goto 12, 3) := by decide +kernel
theorem dX9_reading_34 : decode cX9_reading 34 = .ok (.aload_n 0, 1) := by decide +kernel
theorem dX9_reading_35 : decode cX9_reading 35 = .ok (.getfield 7, 3) := by decide +kernel
theorem dX9_reading_38 : decode cX9_reading 38 = .ok (.bipush 30, 2) := by decide +kernel
theorem dX9_reading_40 : decode cX9_reading 40 = .ok (.iload_n 1, 1) := by decide +kernel
theorem dX9_reading_41 : decode cX9_reading 41 = .ok (.iadd, 1) := by decide +kernel
theorem dX9_reading_42 : decode cX9_reading 42 = .ok (.iaload, 1) := by decide +kernel
theorem dX9_reading_43 : decode cX9_reading 43 = .ok (.ireturn, 1) := by decide +kernel
theorem dX9_isLocked_0 : decode cX9_isLocked 0 = .ok (.aload_n 0, 1) := by decide +kernel
theorem dX9_isLocked_1 : decode cX9_isLocked 1 = .ok (.getfield 7, 3) := by decide +kernel
theorem dX9_isLocked_4 : decode cX9_isLocked 4 = .ok (.bipush 28, 2) := by decide +kernel
theorem dX9_isLocked_6 : decode cX9_isLocked 6 = .ok (.iaload, 1) := by decide +kernel
theorem dX9_isLocked_7 : decode cX9_isLocked 7 = .ok (.iconst 2, 1) := by decide +kernel
theorem dX9_isLocked_8 : decode cX9_isLocked 8 = .ok (.if_icmp .le 7, 3) := by decide +kernel
theorem dX9_isLocked_11 : decode cX9_isLocked 11 = .ok (.iconst 1, 1) := by decide +kernel
theorem dX9_isLocked_12 : decode cX9_isLocked 12 = .ok (.goto 4, 3) := by decide +kernel
theorem dX9_isLocked_15 : decode cX9_isLocked 15 = .ok (.iconst 0, 1) := by decide +kernel
theorem dX9_isLocked_16 : decode cX9_isLocked 16 = .ok (.ireturn, 1) := by decide +kernel
theorem dX9_misses_0 : decode cX9_misses 0 = .ok (.aload_n 0, 1) := by decide +kernel
theorem dX9_misses_1 : decode cX9_misses 1 = .ok (.iconst 0, 1) := by decide +kernel
theorem dX9_misses_2 : decode cX9_misses 2 = .ok (.putfield 29, 3) := by decide +kernel
theorem dX9_misses_5 : decode cX9_misses 5 = .ok (.aload_n 0, 1) := by decide +kernel
theorem dX9_misses_6 : decode cX9_misses 6 = .ok (.invokevirtual 69, 3) := by decide +kernel
theorem dX9_misses_9 : decode cX9_misses 9 = .ok (.aload_n 0, 1) := by decide +kernel
theorem dX9_misses_10 : decode cX9_misses 10 = .ok (.invokevirtual 121, 3) := by decide +kernel
theorem dX9_misses_13 : decode cX9_misses 13 = .ok (.ifCond .eq 60, 3) := by decide +kernel
theorem dX9_misses_16 : decode cX9_misses 16 = .ok (.aload_n 0, 1) := by decide +kernel
theorem dX9_misses_17 : decode cX9_misses 17 = .ok (.getfield 7, 3) := by decide +kernel
theorem dX9_misses_20 : decode cX9_misses 20 = .ok (.bipush 36, 2) := by decide +kernel
theorem dX9_misses_22 : decode cX9_misses 22 = .ok (.iaload, 1) := by decide +kernel
theorem dX9_misses_23 : decode cX9_misses 23 = .ok (.aload_n 0, 1) := by decide +kernel
theorem dX9_misses_24 : decode cX9_misses 24 = .ok (.getfield 7, 3) := by decide +kernel
theorem dX9_misses_27 : decode cX9_misses 27 = .ok (.bipush 37, 2) := by decide +kernel
theorem dX9_misses_29 : decode cX9_misses 29 = .ok (.iaload, 1) := by decide +kernel
theorem dX9_misses_30 : decode cX9_misses 30 = .ok (.if_icmp .ge 43, 3) := by decide +kernel
theorem dX9_misses_33 : decode cX9_misses 33 = .ok (.aload_n 0, 1) := by decide +kernel
theorem dX9_misses_34 : decode cX9_misses 34 = .ok (.getfield 7, 3) := by decide +kernel
theorem dX9_misses_37 : decode cX9_misses 37 = .ok (.bipush 36, 2) := by decide +kernel
theorem dX9_misses_39 : decode cX9_misses 39 = .ok (.dup2, 1) := by decide +kernel
theorem dX9_misses_40 : decode cX9_misses 40 = .ok (.iaload, 1) := by decide +kernel
theorem dX9_misses_41 : decode cX9_misses 41 = .ok (.iconst 1, 1) := by decide +kernel
theorem dX9_misses_42 : decode cX9_misses 42 = .ok (.iadd, 1) := by decide +kernel
theorem dX9_misses_43 : decode cX9_misses 43 = .ok (.iastore, 1) := by decide +kernel
theorem dX9_misses_44 : decode cX9_misses 44 = .ok (.aload_n 0, 1) := by decide +kernel
theorem dX9_misses_45 : decode cX9_misses 45 = .ok (.getfield 7, 3) := by decide +kernel
theorem dX9_misses_48 : decode cX9_misses 48 = .ok (.bipush 34, 2) := by decide +kernel
theorem dX9_misses_50 : decode cX9_misses 50 = .ok (.aload_n 0, 1) := by decide +kernel
theorem dX9_misses_51 : decode cX9_misses 51 = .ok (.aload_n 0, 1) := by decide +kernel
theorem dX9_misses_52 : decode cX9_misses 52 = .ok (.getfield 7, 3) := by decide +kernel
theorem dX9_misses_55 : decode cX9_misses 55 = .ok (.bipush 34, 2) := by decide +kernel
theorem dX9_misses_57 : decode cX9_misses 57 = .ok (.iaload, 1) := by decide +kernel
theorem dX9_misses_58 : decode cX9_misses 58 = .ok (.aload_n 0, 1) := by decide +kernel
theorem dX9_misses_59 : decode cX9_misses 59 = .ok (.getfield 7, 3) := by decide +kernel
theorem dX9_misses_62 : decode cX9_misses 62 = .ok (.bipush 35, 2) := by decide +kernel
theorem dX9_misses_64 : decode cX9_misses 64 = .ok (.iaload, 1) := by decide +kernel
theorem dX9_misses_65 : decode cX9_misses 65 = .ok (.iadd, 1) := by decide +kernel
theorem dX9_misses_66 : decode cX9_misses 66 = .ok (.invokevirtual 72, 3) := by decide +kernel
theorem dX9_misses_69 : decode cX9_misses 69 = .ok (.iastore, 1) := by decide +kernel
theorem dX9_misses_70 : decode cX9_misses 70 = .ok (.goto 11, 3) := by decide +kernel
theorem dX9_misses_73 : decode cX9_misses 73 = .ok (.aload_n 0, 1) := by decide +kernel
theorem dX9_misses_74 : decode cX9_misses 74 = .ok (.getfield 7, 3) := by decide +kernel
theorem dX9_misses_77 : decode cX9_misses 77 = .ok (.bipush 28, 2) := by decide +kernel
theorem dX9_misses_79 : decode cX9_misses 79 = .ok (.iconst 0, 1) := by decide +kernel
theorem dX9_misses_80 : decode cX9_misses 80 = .ok (.iastore, 1) := by decide +kernel
theorem dX9_misses_81 : decode cX9_misses 81 = .ok (.aload_n 0, 1) := by decide +kernel
theorem dX9_misses_82 : decode cX9_misses 82 = .ok (.getfield 7, 3) := by decide +kernel
theorem dX9_misses_85 : decode cX9_misses 85 = .ok (.bipush 34, 2) := by decide +kernel
theorem dX9_misses_87 : decode cX9_misses 87 = .ok (.iaload, 1) := by decide +kernel
theorem dX9_misses_88 : decode cX9_misses 88 = .ok (.ireturn, 1) := by decide +kernel
theorem dX9_holds_0 : decode cX9_holds 0 = .ok (.aload_n 0, 1) := by decide +kernel
theorem dX9_holds_1 : decode cX9_holds 1 = .ok (.iconst 0, 1) := by decide +kernel
theorem dX9_holds_2 : decode cX9_holds 2 = .ok (.putfield 29, 3) := by decide +kernel
theorem dX9_holds_5 : decode cX9_holds 5 = .ok (.iload_n 1, 1) := by decide +kernel
theorem dX9_holds_6 : decode cX9_holds 6 = .ok (.iconst 0, 1) := by decide +kernel
theorem dX9_holds_7 : decode cX9_holds 7 = .ok (.bipush 99, 2) := by decide +kernel
theorem dX9_holds_9 : decode cX9_holds 9 = .ok (.invokestatic 46, 3) := by decide +kernel
theorem dX9_holds_12 : decode cX9_holds 12 = .ok (.ifCond .ne 5, 3) := by decide +kernel
theorem dX9_holds_15 : decode cX9_holds 15 = .ok (.iconst (-1), 1) := by decide +kernel
theorem dX9_holds_16 : decode cX9_holds 16 = .ok (.ireturn, 1) := by decide +kernel
theorem dX9_holds_17 : decode cX9_holds 17 = .ok (.aload_n 0, 1) := by decide +kernel
theorem dX9_holds_18 : decode cX9_holds 18 = .ok (.getfield 7, 3) := by decide +kernel
theorem dX9_holds_21 : decode cX9_holds 21 = .ok (.bipush 37, 2) := by decide +kernel
theorem dX9_holds_23 : decode cX9_holds 23 = .ok (.iaload, 1) := by decide +kernel
theorem dX9_holds_24 : decode cX9_holds 24 = .ok (.istore_n 2, 1) := by decide +kernel
theorem dX9_holds_25 : decode cX9_holds 25 = .ok (.iload_n 2, 1) := by decide +kernel
theorem dX9_holds_26 : decode cX9_holds 26 = .ok (.iload_n 1, 1) := by decide +kernel
theorem dX9_holds_27 : decode cX9_holds 27 = .ok (.if_icmp .ne 6, 3) := by decide +kernel
theorem dX9_holds_30 : decode cX9_holds 30 = .ok (.bipush (-2), 2) := by decide +kernel
theorem dX9_holds_32 : decode cX9_holds 32 = .ok (.ireturn, 1) := by decide +kernel
theorem dX9_holds_33 : decode cX9_holds 33 = .ok (.aload_n 0, 1) := by decide +kernel
theorem dX9_holds_34 : decode cX9_holds 34 = .ok (.invokevirtual 69, 3) := by decide +kernel
theorem dX9_holds_37 : decode cX9_holds 37 = .ok (.aload_n 0, 1) := by decide +kernel
theorem dX9_holds_38 : decode cX9_holds 38 = .ok (.getfield 7, 3) := by decide +kernel
theorem dX9_holds_41 : decode cX9_holds 41 = .ok (.bipush 37, 2) := by decide +kernel
theorem dX9_holds_43 : decode cX9_holds 43 = .ok (.iload_n 1, 1) := by decide +kernel
theorem dX9_holds_44 : decode cX9_holds 44 = .ok (.iastore, 1) := by decide +kernel
theorem dX9_holds_45 : decode cX9_holds 45 = .ok (.iload_n 2, 1) := by decide +kernel
theorem dX9_holds_46 : decode cX9_holds 46 = .ok (.ireturn, 1) := by decide +kernel
theorem dX9_wheel_0 : decode cX9_wheel 0 = .ok (.aload_n 0, 1) := by decide +kernel
theorem dX9_wheel_1 : decode cX9_wheel 1 = .ok (.iconst 0, 1) := by decide +kernel
theorem dX9_wheel_2 : decode cX9_wheel 2 = .ok (.putfield 29, 3) := by decide +kernel
theorem dX9_wheel_5 : decode cX9_wheel 5 = .ok (.iload_n 1, 1) := by decide +kernel
theorem dX9_wheel_6 : decode cX9_wheel 6 = .ok (.iconst 0, 1) := by decide +kernel
theorem dX9_wheel_7 : decode cX9_wheel 7 = .ok (.iconst 4, 1) := by decide +kernel
theorem dX9_wheel_8 : decode cX9_wheel 8 = .ok (.invokestatic 46, 3) := by decide +kernel
theorem dX9_wheel_11 : decode cX9_wheel 11 = .ok (.ifCond .ne 8, 3) := by decide +kernel
theorem dX9_wheel_14 : decode cX9_wheel 14 = .ok (.ldc 120, 2) := by decide +kernel
theorem dX9_wheel_16 : decode cX9_wheel 16 = .ok (.goto 32, 3) := by decide +kernel
theorem dX9_wheel_19 : decode cX9_wheel 19 = .ok (.iload_n 1, 1) := by decide +kernel
theorem dX9_wheel_20 : decode cX9_wheel 20 = .ok (.iconst 4, 1) := by decide +kernel
theorem dX9_wheel_21 : decode cX9_wheel 21 = .ok (.if_icmp .ne 18, 3) := by decide +kernel
theorem dX9_wheel_24 : decode cX9_wheel 24 = .ok (.aload_n 0, 1) := by decide +kernel
theorem dX9_wheel_25 : decode cX9_wheel 25 = .ok (.invokevirtual 121, 3) := by decide +kernel
theorem dX9_wheel_28 : decode cX9_wheel 28 = .ok (.ifCond .eq 7, 3) := by decide +kernel
theorem dX9_wheel_31 : decode cX9_wheel 31 = .ok (.iconst 1, 1) := by decide +kernel
theorem dX9_wheel_32 : decode cX9_wheel 32 = .ok (.goto 16, 3) := by decide +kernel
theorem dX9_wheel_35 : decode cX9_wheel 35 = .ok (.iconst 0, 1) := by decide +kernel
theorem dX9_wheel_36 : decode cX9_wheel 36 = .ok (.goto 12, 3) := by decide +kernel
theorem dX9_wheel_39 : decode cX9_wheel 39 = .ok (.aload_n 0, 1) := by decide +kernel
theorem dX9_wheel_40 : decode cX9_wheel 40 = .ok (.getfield 7, 3) := by decide +kernel
theorem dX9_wheel_43 : decode cX9_wheel 43 = .ok (.bipush 34, 2) := by decide +kernel
theorem dX9_wheel_45 : decode cX9_wheel 45 = .ok (.iload_n 1, 1) := by decide +kernel
theorem dX9_wheel_46 : decode cX9_wheel 46 = .ok (.iadd, 1) := by decide +kernel
theorem dX9_wheel_47 : decode cX9_wheel 47 = .ok (.iaload, 1) := by decide +kernel
theorem dX9_wheel_48 : decode cX9_wheel 48 = .ok (.ireturn, 1) := by decide +kernel
theorem dX9_isChaser_0 : decode cX9_isChaser 0 = .ok (.iload_n 0, 1) := by decide +kernel
theorem dX9_isChaser_1 : decode cX9_isChaser 1 = .ok (.iconst 0, 1) := by decide +kernel
theorem dX9_isChaser_2 : decode cX9_isChaser 2 = .ok (.iconst 2, 1) := by decide +kernel
theorem dX9_isChaser_3 : decode cX9_isChaser 3 = .ok (.invokestatic 46, 3) := by decide +kernel
theorem dX9_isChaser_6 : decode cX9_isChaser 6 = .ok (.ireturn, 1) := by decide +kernel
theorem dX9_wayOf_0 : decode cX9_wayOf 0 = .ok (.aload_n 0, 1) := by decide +kernel
theorem dX9_wayOf_1 : decode cX9_wayOf 1 = .ok (.aload_n 0, 1) := by decide +kernel
theorem dX9_wayOf_2 : decode cX9_wayOf 2 = .ok (.aload_n 0, 1) := by decide +kernel
theorem dX9_wayOf_3 : decode cX9_wayOf 3 = .ok (.getfield 7, 3) := by decide +kernel
theorem dX9_wayOf_6 : decode cX9_wayOf 6 = .ok (.bipush 34, 2) := by decide +kernel
theorem dX9_wayOf_8 : decode cX9_wayOf 8 = .ok (.iaload, 1) := by decide +kernel
theorem dX9_wayOf_9 : decode cX9_wayOf 9 = .ok (.aload_n 0, 1) := by decide +kernel
theorem dX9_wayOf_10 : decode cX9_wayOf 10 = .ok (.getfield 7, 3) := by decide +kernel
theorem dX9_wayOf_13 : decode cX9_wayOf 13 = .ok (.bipush 38, 2) := by decide +kernel
theorem dX9_wayOf_15 : decode cX9_wayOf 15 = .ok (.iconst 3, 1) := by decide +kernel
theorem dX9_wayOf_16 : decode cX9_wayOf 16 = .ok (.iload_n 1, 1) := by decide +kernel
theorem dX9_wayOf_17 : decode cX9_wayOf 17 = .ok (.imul, 1) := by decide +kernel
theorem dX9_wayOf_18 : decode cX9_wayOf 18 = .ok (.iadd, 1) := by decide +kernel
theorem dX9_wayOf_19 : decode cX9_wayOf 19 = .ok (.iconst 2, 1) := by decide +kernel
theorem dX9_wayOf_20 : decode cX9_wayOf 20 = .ok (.iadd, 1) := by decide +kernel
theorem dX9_wayOf_21 : decode cX9_wayOf 21 = .ok (.iaload, 1) := by decide +kernel
theorem dX9_wayOf_22 : decode cX9_wayOf 22 = .ok (.iadd, 1) := by decide +kernel
theorem dX9_wayOf_23 : decode cX9_wayOf 23 = .ok (.invokevirtual 72, 3) := by decide +kernel
theorem dX9_wayOf_26 : decode cX9_wayOf 26 = .ok (.aload_n 0, 1) := by decide +kernel
theorem dX9_wayOf_27 : decode cX9_wayOf 27 = .ok (.getfield 7, 3) := by decide +kernel
theorem dX9_wayOf_30 : decode cX9_wayOf 30 = .ok (.bipush 38, 2) := by decide +kernel
theorem dX9_wayOf_32 : decode cX9_wayOf 32 = .ok (.iconst 3, 1) := by decide +kernel
theorem dX9_wayOf_33 : decode cX9_wayOf 33 = .ok (.iload_n 1, 1) := by decide +kernel
theorem dX9_wayOf_34 : decode cX9_wayOf 34 = .ok (.imul, 1) := by decide +kernel
theorem dX9_wayOf_35 : decode cX9_wayOf 35 = .ok (.iadd, 1) := by decide +kernel
theorem dX9_wayOf_36 : decode cX9_wayOf 36 = .ok (.iaload, 1) := by decide +kernel
theorem dX9_wayOf_37 : decode cX9_wayOf 37 = .ok (.isub, 1) := by decide +kernel
theorem dX9_wayOf_38 : decode cX9_wayOf 38 = .ok (.invokevirtual 72, 3) := by decide +kernel
theorem dX9_wayOf_41 : decode cX9_wayOf 41 = .ok (.istore_n 2, 1) := by decide +kernel
theorem dX9_wayOf_42 : decode cX9_wayOf 42 = .ok (.iconst 2, 1) := by decide +kernel
theorem dX9_wayOf_43 : decode cX9_wayOf 43 = .ok (.iload_n 2, 1) := by decide +kernel
theorem dX9_wayOf_44 : decode cX9_wayOf 44 = .ok (.imul, 1) := by decide +kernel
theorem dX9_wayOf_45 : decode cX9_wayOf 45 = .ok (.aload_n 0, 1) := by decide +kernel
theorem dX9_wayOf_46 : decode cX9_wayOf 46 = .ok (.invokevirtual 42, 3) := by decide +kernel
theorem dX9_wayOf_49 : decode cX9_wayOf 49 = .ok (.if_icmp .le 12, 3) := by decide +kernel
theorem dX9_wayOf_52 : decode cX9_wayOf 52 = .ok (.iload_n 2, 1) := by decide +kernel
theorem dX9_wayOf_53 : decode cX9_wayOf 53 = .ok (.aload_n 0, 1) := by decide +kernel
theorem dX9_wayOf_54 : decode cX9_wayOf 54 = .ok (.invokevirtual 42, 3) := by decide +kernel
theorem dX9_wayOf_57 : decode cX9_wayOf 57 = .ok (.isub, 1) := by decide +kernel
theorem dX9_wayOf_58 : decode cX9_wayOf 58 = .ok (.goto 4, 3) := by decide +kernel
theorem dX9_wayOf_61 : decode cX9_wayOf 61 = .ok (.iload_n 2, 1) := by decide +kernel
theorem dX9_wayOf_62 : decode cX9_wayOf 62 = .ok (.ireturn, 1) := by decide +kernel
theorem dX9_isThere_0 : decode cX9_isThere 0 = .ok (.aload_n 0, 1) := by decide +kernel
theorem dX9_isThere_1 : decode cX9_isThere 1 = .ok (.iload_n 1, 1) := by decide +kernel
theorem dX9_isThere_2 : decode cX9_isThere 2 = .ok (.invokevirtual 125, 3) := by decide +kernel
theorem dX9_isThere_5 : decode cX9_isThere 5 = .ok (.ifCond .ne 23, 3) := by decide +kernel
theorem dX9_isThere_8 : decode cX9_isThere 8 = .ok (.aload_n 0, 1) := by decide +kernel
theorem dX9_isThere_9 : decode cX9_isThere 9 = .ok (.getfield 7, 3) := by decide +kernel
theorem dX9_isThere_12 : decode cX9_isThere 12 = .ok (.bipush 38, 2) := by decide +kernel
theorem dX9_isThere_14 : decode cX9_isThere 14 = .ok (.iconst 3, 1) := by decide +kernel
theorem dX9_isThere_15 : decode cX9_isThere 15 = .ok (.iload_n 1, 1) := by decide +kernel
theorem dX9_isThere_16 : decode cX9_isThere 16 = .ok (.imul, 1) := by decide +kernel
theorem dX9_isThere_17 : decode cX9_isThere 17 = .ok (.iadd, 1) := by decide +kernel
theorem dX9_isThere_18 : decode cX9_isThere 18 = .ok (.iconst 1, 1) := by decide +kernel
theorem dX9_isThere_19 : decode cX9_isThere 19 = .ok (.iadd, 1) := by decide +kernel
theorem dX9_isThere_20 : decode cX9_isThere 20 = .ok (.iaload, 1) := by decide +kernel
theorem dX9_isThere_21 : decode cX9_isThere 21 = .ok (.ifCond .ne 7, 3) := by decide +kernel
theorem dX9_isThere_24 : decode cX9_isThere 24 = .ok (.iconst 1, 1) := by decide +kernel
theorem dX9_isThere_25 : decode cX9_isThere 25 = .ok (.goto 4, 3) := by decide +kernel
theorem dX9_isThere_28 : decode cX9_isThere 28 = .ok (.iconst 0, 1) := by decide +kernel
theorem dX9_isThere_29 : decode cX9_isThere 29 = .ok (.ireturn, 1) := by decide +kernel
theorem dX9_steps_0 : decode cX9_steps 0 = .ok (.aload_n 0, 1) := by decide +kernel
theorem dX9_steps_1 : decode cX9_steps 1 = .ok (.iload_n 1, 1) := by decide +kernel
theorem dX9_steps_2 : decode cX9_steps 2 = .ok (.invokevirtual 125, 3) := by decide +kernel
theorem dX9_steps_5 : decode cX9_steps 5 = .ok (.istore_n 2, 1) := by decide +kernel
theorem dX9_steps_6 : decode cX9_steps 6 = .ok (.iconst 0, 1) := by decide +kernel
theorem dX9_steps_7 : decode cX9_steps 7 = .ok (.istore_n 3, 1) := by decide +kernel
theorem dX9_steps_8 : decode cX9_steps 8 = .ok (.iload_n 3, 1) := by decide +kernel
theorem dX9_steps_9 : decode cX9_steps 9 = .ok (.bipush 99, 2) := by decide +kernel
theorem dX9_steps_11 : decode cX9_steps 11 = .ok (.if_icmp .ge 25, 3) := by decide +kernel
theorem dX9_steps_14 : decode cX9_steps 14 = .ok (.iload_n 3, 1) := by decide +kernel
theorem dX9_steps_15 : decode cX9_steps 15 = .ok (.iconst 1, 1) := by decide +kernel
theorem dX9_steps_16 : decode cX9_steps 16 = .ok (.iadd, 1) := by decide +kernel
theorem dX9_steps_17 : decode cX9_steps 17 = .ok (.iload_n 3, 1) := by decide +kernel
theorem dX9_steps_18 : decode cX9_steps 18 = .ok (.iconst 2, 1) := by decide +kernel
theorem dX9_steps_19 : decode cX9_steps 19 = .ok (.iadd, 1) := by decide +kernel
theorem dX9_steps_20 : decode cX9_steps 20 = .ok (.imul, 1) := by decide +kernel
theorem dX9_steps_21 : decode cX9_steps 21 = .ok (.iconst 2, 1) := by decide +kernel
theorem dX9_steps_22 : decode cX9_steps 22 = .ok (.idiv, 1) := by decide +kernel
theorem dX9_steps_23 : decode cX9_steps 23 = .ok (.iload_n 2, 1) := by decide +kernel
theorem dX9_steps_24 : decode cX9_steps 24 = .ok (.invokestatic 128, 3) := by decide +kernel
theorem dX9_steps_27 : decode cX9_steps 27 = .ok (.if_icmp .gt 9, 3) := by decide +kernel
theorem dX9_steps_30 : decode cX9_steps 30 = .ok (.iinc 3 1, 3) := by decide +kernel
theorem dX9_steps_33 : decode cX9_steps 33 = .ok (.goto (-25), 3) := by decide +kernel
theorem dX9_steps_36 : decode cX9_steps 36 = .ok (.iload_n 2, 1) := by decide +kernel
theorem dX9_steps_37 : decode cX9_steps 37 = .ok (.ifCond .ge 8, 3) := by decide +kernel
theorem dX9_steps_40 : decode cX9_steps 40 = .ok (.iload_n 3, 1) := by decide +kernel
theorem dX9_steps_41 : decode cX9_steps 41 = .ok (.ineg, 1) := by decide +kernel
theorem dX9_steps_42 : decode cX9_steps 42 = .ok (.goto 4, 3) := by decide +kernel
theorem dX9_steps_45 : decode cX9_steps 45 = .ok (.iload_n 3, 1) := by decide +kernel
theorem dX9_steps_46 : decode cX9_steps 46 = .ok (.istore 4, 2) := by decide +kernel
theorem dX9_steps_48 : decode cX9_steps 48 = .ok (.bipush 38, 2) := by decide +kernel
theorem dX9_steps_50 : decode cX9_steps 50 = .ok (.iconst 3, 1) := by decide +kernel
theorem dX9_steps_51 : decode cX9_steps 51 = .ok (.iload_n 1, 1) := by decide +kernel
theorem dX9_steps_52 : decode cX9_steps 52 = .ok (.imul, 1) := by decide +kernel
theorem dX9_steps_53 : decode cX9_steps 53 = .ok (.iadd, 1) := by decide +kernel
theorem dX9_steps_54 : decode cX9_steps 54 = .ok (.istore 5, 2) := by decide +kernel
theorem dX9_steps_56 : decode cX9_steps 56 = .ok (.aload_n 0, 1) := by decide +kernel
theorem dX9_steps_57 : decode cX9_steps 57 = .ok (.getfield 7, 3) := by decide +kernel
theorem dX9_steps_60 : decode cX9_steps 60 = .ok (.iload 5, 2) := by decide +kernel
theorem dX9_steps_62 : decode cX9_steps 62 = .ok (.iconst 1, 1) := by decide +kernel
theorem dX9_steps_63 : decode cX9_steps 63 = .ok (.iadd, 1) := by decide +kernel
theorem dX9_steps_64 : decode cX9_steps 64 = .ok (.dup2, 1) := by decide +kernel
theorem dX9_steps_65 : decode cX9_steps 65 = .ok (.iaload, 1) := by decide +kernel
theorem dX9_steps_66 : decode cX9_steps 66 = .ok (.iload 4, 2) := by decide +kernel
theorem dX9_steps_68 : decode cX9_steps 68 = .ok (.aload_n 0, 1) := by decide +kernel
theorem dX9_steps_69 : decode cX9_steps 69 = .ok (.getfield 7, 3) := by decide +kernel
theorem dX9_steps_72 : decode cX9_steps 72 = .ok (.iload 5, 2) := by decide +kernel
theorem dX9_steps_74 : decode cX9_steps 74 = .ok (.iconst 1, 1) := by decide +kernel
theorem dX9_steps_75 : decode cX9_steps 75 = .ok (.iadd, 1) := by decide +kernel
theorem dX9_steps_76 : decode cX9_steps 76 = .ok (.iaload, 1) := by decide +kernel
theorem dX9_steps_77 : decode cX9_steps 77 = .ok (.if_icmp .le 7, 3) := by decide +kernel
theorem dX9_steps_80 : decode cX9_steps 80 = .ok (.iconst 1, 1) := by decide +kernel
theorem dX9_steps_81 : decode cX9_steps 81 = .ok (.goto 22, 3) := by decide +kernel
theorem dX9_steps_84 : decode cX9_steps 84 = .ok (.iload 4, 2) := by decide +kernel
theorem dX9_steps_86 : decode cX9_steps 86 = .ok (.aload_n 0, 1) := by decide +kernel
theorem dX9_steps_87 : decode cX9_steps 87 = .ok (.getfield 7, 3) := by decide +kernel
theorem dX9_steps_90 : decode cX9_steps 90 = .ok (.iload 5, 2) := by decide +kernel
theorem dX9_steps_92 : decode cX9_steps 92 = .ok (.iconst 1, 1) := by decide +kernel
theorem dX9_steps_93 : decode cX9_steps 93 = .ok (.iadd, 1) := by decide +kernel
theorem dX9_steps_94 : decode cX9_steps 94 = .ok (.iaload, 1) := by decide +kernel
theorem dX9_steps_95 : decode cX9_steps 95 = .ok (.if_icmp .ge 7, 3) := by decide +kernel
theorem dX9_steps_98 : decode cX9_steps 98 = .ok (.iconst (-1), 1) := by decide +kernel
theorem dX9_steps_99 : decode cX9_steps 99 = .ok (.goto 4, 3) := by decide +kernel
theorem dX9_steps_102 : decode cX9_steps 102 = .ok (.iconst 0, 1) := by decide +kernel
theorem dX9_steps_103 : decode cX9_steps 103 = .ok (.iadd, 1) := by decide +kernel
theorem dX9_steps_104 : decode cX9_steps 104 = .ok (.iastore, 1) := by decide +kernel
theorem dX9_steps_105 : decode cX9_steps 105 = .ok (.aload_n 0, 1) := by decide +kernel
theorem dX9_steps_106 : decode cX9_steps 106 = .ok (.getfield 7, 3) := by decide +kernel
theorem dX9_steps_109 : decode cX9_steps 109 = .ok (.iload 5, 2) := by decide +kernel
theorem dX9_steps_111 : decode cX9_steps 111 = .ok (.aload_n 0, 1) := by decide +kernel
theorem dX9_steps_112 : decode cX9_steps 112 = .ok (.aload_n 0, 1) := by decide +kernel
theorem dX9_steps_113 : decode cX9_steps 113 = .ok (.getfield 7, 3) := by decide +kernel
theorem dX9_steps_116 : decode cX9_steps 116 = .ok (.iload 5, 2) := by decide +kernel
theorem dX9_steps_118 : decode cX9_steps 118 = .ok (.iaload, 1) := by decide +kernel
theorem dX9_steps_119 : decode cX9_steps 119 = .ok (.aload_n 0, 1) := by decide +kernel
theorem dX9_steps_120 : decode cX9_steps 120 = .ok (.getfield 7, 3) := by decide +kernel
theorem dX9_steps_123 : decode cX9_steps 123 = .ok (.iload 5, 2) := by decide +kernel
theorem dX9_steps_125 : decode cX9_steps 125 = .ok (.iconst 1, 1) := by decide +kernel
theorem dX9_steps_126 : decode cX9_steps 126 = .ok (.iadd, 1) := by decide +kernel
theorem dX9_steps_127 : decode cX9_steps 127 = .ok (.iaload, 1) := by decide +kernel
theorem dX9_steps_128 : decode cX9_steps 128 = .ok (.iadd, 1) := by decide +kernel
theorem dX9_steps_129 : decode cX9_steps 129 = .ok (.invokevirtual 72, 3) := by decide +kernel
theorem dX9_steps_132 : decode cX9_steps 132 = .ok (.iastore, 1) := by decide +kernel
theorem dX9_steps_133 : decode cX9_steps 133 = .ok (.return_, 1) := by decide +kernel
theorem dX9_offsets_0 : decode cX9_offsets 0 = .ok (.aload_n 0, 1) := by decide +kernel
theorem dX9_offsets_1 : decode cX9_offsets 1 = .ok (.iconst 0, 1) := by decide +kernel
theorem dX9_offsets_2 : decode cX9_offsets 2 = .ok (.putfield 29, 3) := by decide +kernel
theorem dX9_offsets_5 : decode cX9_offsets 5 = .ok (.iload_n 1, 1) := by decide +kernel
theorem dX9_offsets_6 : decode cX9_offsets 6 = .ok (.invokestatic 131, 3) := by decide +kernel
theorem dX9_offsets_9 : decode cX9_offsets 9 = .ok (.ifCond .eq 14, 3) := by decide +kernel
theorem dX9_offsets_12 : decode cX9_offsets 12 = .ok (.iload_n 2, 1) := by decide +kernel
theorem dX9_offsets_13 : decode cX9_offsets 13 = .ok (.ldc 134, 2) := by decide +kernel
theorem dX9_offsets_15 : decode cX9_offsets 15 = .ok (.ldc 135, 2) := by decide +kernel
theorem dX9_offsets_17 : decode cX9_offsets 17 = .ok (.invokestatic 46, 3) := by decide +kernel
theorem dX9_offsets_20 : decode cX9_offsets 20 = .ok (.ifCond .ne 5, 3) := by decide +kernel
theorem dX9_offsets_23 : decode cX9_offsets 23 = .ok (.iconst (-1), 1) := by decide +kernel
theorem dX9_offsets_24 : decode cX9_offsets 24 = .ok (.ireturn, 1) := by decide +kernel
theorem dX9_offsets_25 : decode cX9_offsets 25 = .ok (.aload_n 0, 1) := by decide +kernel
theorem dX9_offsets_26 : decode cX9_offsets 26 = .ok (.getfield 7, 3) := by decide +kernel
theorem dX9_offsets_29 : decode cX9_offsets 29 = .ok (.bipush 38, 2) := by decide +kernel
theorem dX9_offsets_31 : decode cX9_offsets 31 = .ok (.iconst 3, 1) := by decide +kernel
theorem dX9_offsets_32 : decode cX9_offsets 32 = .ok (.iload_n 1, 1) := by decide +kernel
theorem dX9_offsets_33 : decode cX9_offsets 33 = .ok (.imul, 1) := by decide +kernel
theorem dX9_offsets_34 : decode cX9_offsets 34 = .ok (.iadd, 1) := by decide +kernel
theorem dX9_offsets_35 : decode cX9_offsets 35 = .ok (.iconst 2, 1) := by decide +kernel
theorem dX9_offsets_36 : decode cX9_offsets 36 = .ok (.iadd, 1) := by decide +kernel
theorem dX9_offsets_37 : decode cX9_offsets 37 = .ok (.iaload, 1) := by decide +kernel
theorem dX9_offsets_38 : decode cX9_offsets 38 = .ok (.iload_n 2, 1) := by decide +kernel
theorem dX9_offsets_39 : decode cX9_offsets 39 = .ok (.if_icmp .ne 6, 3) := by decide +kernel
theorem dX9_offsets_42 : decode cX9_offsets 42 = .ok (.bipush (-2), 2) := by decide +kernel
theorem dX9_offsets_44 : decode cX9_offsets 44 = .ok (.ireturn, 1) := by decide +kernel
theorem dX9_offsets_45 : decode cX9_offsets 45 = .ok (.aload_n 0, 1) := by decide +kernel
theorem dX9_offsets_46 : decode cX9_offsets 46 = .ok (.invokevirtual 69, 3) := by decide +kernel
theorem dX9_offsets_49 : decode cX9_offsets 49 = .ok (.aload_n 0, 1) := by decide +kernel
theorem dX9_offsets_50 : decode cX9_offsets 50 = .ok (.getfield 7, 3) := by decide +kernel
theorem dX9_offsets_53 : decode cX9_offsets 53 = .ok (.bipush 38, 2) := by decide +kernel
theorem dX9_offsets_55 : decode cX9_offsets 55 = .ok (.iconst 3, 1) := by decide +kernel
theorem dX9_offsets_56 : decode cX9_offsets 56 = .ok (.iload_n 1, 1) := by decide +kernel
theorem dX9_offsets_57 : decode cX9_offsets 57 = .ok (.imul, 1) := by decide +kernel
theorem dX9_offsets_58 : decode cX9_offsets 58 = .ok (.iadd, 1) := by decide +kernel
theorem dX9_offsets_59 : decode cX9_offsets 59 = .ok (.iconst 2, 1) := by decide +kernel
theorem dX9_offsets_60 : decode cX9_offsets 60 = .ok (.iadd, 1) := by decide +kernel
theorem dX9_offsets_61 : decode cX9_offsets 61 = .ok (.iload_n 2, 1) := by decide +kernel
theorem dX9_offsets_62 : decode cX9_offsets 62 = .ok (.iastore, 1) := by decide +kernel
theorem dX9_offsets_63 : decode cX9_offsets 63 = .ok (.iconst 1, 1) := by decide +kernel
theorem dX9_offsets_64 : decode cX9_offsets 64 = .ok (.ireturn, 1) := by decide +kernel
theorem dX9_chases_0 : decode cX9_chases 0 = .ok (.aload_n 0, 1) := by decide +kernel
theorem dX9_chases_1 : decode cX9_chases 1 = .ok (.iconst 0, 1) := by decide +kernel
theorem dX9_chases_2 : decode cX9_chases 2 = .ok (.putfield 29, 3) := by decide +kernel
theorem dX9_chases_5 : decode cX9_chases 5 = .ok (.iload_n 1, 1) := by decide +kernel
theorem dX9_chases_6 : decode cX9_chases 6 = .ok (.invokestatic 131, 3) := by decide +kernel
theorem dX9_chases_9 : decode cX9_chases 9 = .ok (.ifCond .eq 14, 3) := by decide +kernel
theorem dX9_chases_12 : decode cX9_chases 12 = .ok (.iload_n 2, 1) := by decide +kernel
theorem dX9_chases_13 : decode cX9_chases 13 = .ok (.iconst 1, 1) := by decide +kernel
theorem dX9_chases_14 : decode cX9_chases 14 = .ok (.sipush 1000, 3) := by decide +kernel
theorem dX9_chases_17 : decode cX9_chases 17 = .ok (.invokestatic 46, 3) := by decide +kernel
theorem dX9_chases_20 : decode cX9_chases 20 = .ok (.ifCond .ne 5, 3) := by decide +kernel
theorem dX9_chases_23 : decode cX9_chases 23 = .ok (.iconst (-1), 1) := by decide +kernel
theorem dX9_chases_24 : decode cX9_chases 24 = .ok (.ireturn, 1) := by decide +kernel
theorem dX9_chases_25 : decode cX9_chases 25 = .ok (.aload_n 0, 1) := by decide +kernel
theorem dX9_chases_26 : decode cX9_chases 26 = .ok (.invokevirtual 69, 3) := by decide +kernel
theorem dX9_chases_29 : decode cX9_chases 29 = .ok (.iconst 0, 1) := by decide +kernel
theorem dX9_chases_30 : decode cX9_chases 30 = .ok (.istore_n 3, 1) := by decide +kernel
theorem dX9_chases_31 : decode cX9_chases 31 = .ok (.iload_n 3, 1) := by decide +kernel
theorem dX9_chases_32 : decode cX9_chases 32 = .ok (.iload_n 2, 1) := by decide +kernel
theorem dX9_chases_33 : decode cX9_chases 33 = .ok (.if_icmp .ge 14, 3) := by decide +kernel
theorem dX9_chases_36 : decode cX9_chases 36 = .ok (.aload_n 0, 1) := by decide +kernel
theorem dX9_chases_37 : decode cX9_chases 37 = .ok (.iload_n 1, 1) := by decide +kernel
theorem dX9_chases_38 : decode cX9_chases 38 = .ok (.invokevirtual 136, 3) := by decide +kernel
theorem dX9_chases_41 : decode cX9_chases 41 = .ok (.iinc 3 1, 3) := by decide +kernel
theorem dX9_chases_44 : decode cX9_chases 44 = .ok (.goto (-13), 3) := by decide +kernel
theorem dX9_chases_47 : decode cX9_chases 47 = .ok (.aload_n 0, 1) := by decide +kernel
theorem dX9_chases_48 : decode cX9_chases 48 = .ok (.getfield 7, 3) := by decide +kernel
theorem dX9_chases_51 : decode cX9_chases 51 = .ok (.bipush 38, 2) := by decide +kernel
theorem dX9_chases_53 : decode cX9_chases 53 = .ok (.iconst 3, 1) := by decide +kernel
theorem dX9_chases_54 : decode cX9_chases 54 = .ok (.iload_n 1, 1) := by decide +kernel
theorem dX9_chases_55 : decode cX9_chases 55 = .ok (.imul, 1) := by decide +kernel
theorem dX9_chases_56 : decode cX9_chases 56 = .ok (.iadd, 1) := by decide +kernel
theorem dX9_chases_57 : decode cX9_chases 57 = .ok (.iaload, 1) := by decide +kernel
theorem dX9_chases_58 : decode cX9_chases 58 = .ok (.ireturn, 1) := by decide +kernel
theorem dX9_chaser_0 : decode cX9_chaser 0 = .ok (.aload_n 0, 1) := by decide +kernel
theorem dX9_chaser_1 : decode cX9_chaser 1 = .ok (.iconst 0, 1) := by decide +kernel
theorem dX9_chaser_2 : decode cX9_chaser 2 = .ok (.putfield 29, 3) := by decide +kernel
theorem dX9_chaser_5 : decode cX9_chaser 5 = .ok (.iload_n 1, 1) := by decide +kernel
theorem dX9_chaser_6 : decode cX9_chaser 6 = .ok (.invokestatic 131, 3) := by decide +kernel
theorem dX9_chaser_9 : decode cX9_chaser 9 = .ok (.ifCond .eq 12, 3) := by decide +kernel
theorem dX9_chaser_12 : decode cX9_chaser 12 = .ok (.iload_n 2, 1) := by decide +kernel
theorem dX9_chaser_13 : decode cX9_chaser 13 = .ok (.iconst 0, 1) := by decide +kernel
theorem dX9_chaser_14 : decode cX9_chaser 14 = .ok (.iconst 3, 1) := by decide +kernel
theorem dX9_chaser_15 : decode cX9_chaser 15 = .ok (.invokestatic 46, 3) := by decide +kernel
theorem dX9_chaser_18 : decode cX9_chaser 18 = .ok (.ifCond .ne 8, 3) := by decide +kernel
theorem dX9_chaser_21 : decode cX9_chaser 21 = .ok (.ldc 120, 2) := by decide +kernel
theorem dX9_chaser_23 : decode cX9_chaser 23 = .ok (.goto 29, 3) := by decide +kernel
theorem dX9_chaser_26 : decode cX9_chaser 26 = .ok (.iload_n 2, 1) := by decide +kernel
theorem dX9_chaser_27 : decode cX9_chaser 27 = .ok (.iconst 3, 1) := by decide +kernel
theorem dX9_chaser_28 : decode cX9_chaser 28 = .ok (.if_icmp .ne 11, 3) := by decide +kernel
theorem dX9_chaser_31 : decode cX9_chaser 31 = .ok (.aload_n 0, 1) := by decide +kernel
theorem dX9_chaser_32 : decode cX9_chaser 32 = .ok (.iload_n 1, 1) := by decide +kernel
theorem dX9_chaser_33 : decode cX9_chaser 33 = .ok (.invokevirtual 125, 3) := by decide +kernel
theorem dX9_chaser_36 : decode cX9_chaser 36 = .ok (.goto 16, 3) := by decide +kernel
theorem dX9_chaser_39 : decode cX9_chaser 39 = .ok (.aload_n 0, 1) := by decide +kernel
theorem dX9_chaser_40 : decode cX9_chaser 40 = .ok (.getfield 7, 3) := by decide +kernel
theorem dX9_chaser_43 : decode cX9_chaser 43 = .ok (.bipush 38, 2) := by decide +kernel
theorem dX9_chaser_45 : decode cX9_chaser 45 = .ok (.iconst 3, 1) := by decide +kernel
theorem dX9_chaser_46 : decode cX9_chaser 46 = .ok (.iload_n 1, 1) := by decide +kernel
theorem dX9_chaser_47 : decode cX9_chaser 47 = .ok (.imul, 1) := by decide +kernel
theorem dX9_chaser_48 : decode cX9_chaser 48 = .ok (.iadd, 1) := by decide +kernel
theorem dX9_chaser_49 : decode cX9_chaser 49 = .ok (.iload_n 2, 1) := by decide +kernel
theorem dX9_chaser_50 : decode cX9_chaser 50 = .ok (.iadd, 1) := by decide +kernel
theorem dX9_chaser_51 : decode cX9_chaser 51 = .ok (.iaload, 1) := by decide +kernel
theorem dX9_chaser_52 : decode cX9_chaser 52 = .ok (.ireturn, 1) := by decide +kernel
theorem dX9_there_0 : decode cX9_there 0 = .ok (.aload_n 0, 1) := by decide +kernel
theorem dX9_there_1 : decode cX9_there 1 = .ok (.iconst 0, 1) := by decide +kernel
theorem dX9_there_2 : decode cX9_there 2 = .ok (.putfield 29, 3) := by decide +kernel
theorem dX9_there_5 : decode cX9_there 5 = .ok (.iload_n 1, 1) := by decide +kernel
theorem dX9_there_6 : decode cX9_there 6 = .ok (.invokestatic 131, 3) := by decide +kernel
theorem dX9_there_9 : decode cX9_there 9 = .ok (.ifCond .ne 5, 3) := by decide +kernel
theorem dX9_there_12 : decode cX9_there 12 = .ok (.iconst (-1), 1) := by decide +kernel
theorem dX9_there_13 : decode cX9_there 13 = .ok (.ireturn, 1) := by decide +kernel
theorem dX9_there_14 : decode cX9_there 14 = .ok (.aload_n 0, 1) := by decide +kernel
theorem dX9_there_15 : decode cX9_there 15 = .ok (.getfield 7, 3) := by decide +kernel
theorem dX9_there_18 : decode cX9_there 18 = .ok (.bipush 38, 2) := by decide +kernel
theorem dX9_there_20 : decode cX9_there 20 = .ok (.iconst 3, 1) := by decide +kernel
theorem dX9_there_21 : decode cX9_there 21 = .ok (.iload_n 1, 1) := by decide +kernel
theorem dX9_there_22 : decode cX9_there 22 = .ok (.imul, 1) := by decide +kernel
theorem dX9_there_23 : decode cX9_there 23 = .ok (.iadd, 1) := by decide +kernel
theorem dX9_there_24 : decode cX9_there 24 = .ok (.iaload, 1) := by decide +kernel
theorem dX9_there_25 : decode cX9_there 25 = .ok (.istore_n 2, 1) := by decide +kernel
theorem dX9_there_26 : decode cX9_there 26 = .ok (.aload_n 0, 1) := by decide +kernel
theorem dX9_there_27 : decode cX9_there 27 = .ok (.getfield 7, 3) := by decide +kernel
theorem dX9_there_30 : decode cX9_there 30 = .ok (.bipush 38, 2) := by decide +kernel
theorem dX9_there_32 : decode cX9_there 32 = .ok (.iconst 3, 1) := by decide +kernel
theorem dX9_there_33 : decode cX9_there 33 = .ok (.iload_n 1, 1) := by decide +kernel
theorem dX9_there_34 : decode cX9_there 34 = .ok (.imul, 1) := by decide +kernel
theorem dX9_there_35 : decode cX9_there 35 = .ok (.iadd, 1) := by decide +kernel
theorem dX9_there_36 : decode cX9_there 36 = .ok (.iconst 1, 1) := by decide +kernel
theorem dX9_there_37 : decode cX9_there 37 = .ok (.iadd, 1) := by decide +kernel
theorem dX9_there_38 : decode cX9_there 38 = .ok (.iaload, 1) := by decide +kernel
theorem dX9_there_39 : decode cX9_there 39 = .ok (.istore_n 3, 1) := by decide +kernel
theorem dX9_there_40 : decode cX9_there 40 = .ok (.iconst 0, 1) := by decide +kernel
theorem dX9_there_41 : decode cX9_there 41 = .ok (.istore 4, 2) := by decide +kernel
theorem dX9_there_43 : decode cX9_there 43 = .ok (.iload 4, 2) := by decide +kernel
theorem dX9_there_45 : decode cX9_there 45 = .ok (.sipush 3000, 3) := by decide +kernel
theorem dX9_there_48 : decode cX9_there 48 = .ok (.if_icmp .ge 22, 3) := by decide +kernel
theorem dX9_there_51 : decode cX9_there 51 = .ok (.aload_n 0, 1) := by decide +kernel
theorem dX9_there_52 : decode cX9_there 52 = .ok (.iload_n 1, 1) := by decide +kernel
theorem dX9_there_53 : decode cX9_there 53 = .ok (.invokevirtual 139, 3) := by decide +kernel
theorem dX9_there_56 : decode cX9_there 56 = .ok (.ifCond .ne 14, 3) := by decide +kernel
theorem dX9_there_59 : decode cX9_there 59 = .ok (.aload_n 0, 1) := by decide +kernel
theorem dX9_there_60 : decode cX9_there 60 = .ok (.iload_n 1, 1) := by decide +kernel
theorem dX9_there_61 : decode cX9_there 61 = .ok (.invokevirtual 136, 3) := by decide +kernel
theorem dX9_there_64 : decode cX9_there 64 = .ok (.iinc 4 1, 3) := by decide +kernel
theorem dX9_there_67 : decode cX9_there 67 = .ok (.goto (-24), 3) := by decide +kernel
theorem dX9_there_70 : decode cX9_there 70 = .ok (.aload_n 0, 1) := by decide +kernel
theorem dX9_there_71 : decode cX9_there 71 = .ok (.iload_n 1, 1) := by decide +kernel
theorem dX9_there_72 : decode cX9_there 72 = .ok (.invokevirtual 139, 3) := by decide +kernel
theorem dX9_there_75 : decode cX9_there 75 = .ok (.ifCond .eq 8, 3) := by decide +kernel
theorem dX9_there_78 : decode cX9_there 78 = .ok (.iload 4, 2) := by decide +kernel
theorem dX9_there_80 : decode cX9_there 80 = .ok (.goto 5, 3) := by decide +kernel
theorem dX9_there_83 : decode cX9_there 83 = .ok (.bipush (-9), 2) := by decide +kernel
theorem dX9_there_85 : decode cX9_there 85 = .ok (.istore 5, 2) := by decide +kernel
theorem dX9_there_87 : decode cX9_there 87 = .ok (.aload_n 0, 1) := by decide +kernel
theorem dX9_there_88 : decode cX9_there 88 = .ok (.getfield 7, 3) := by decide +kernel
theorem dX9_there_91 : decode cX9_there 91 = .ok (.bipush 38, 2) := by decide +kernel
theorem dX9_there_93 : decode cX9_there 93 = .ok (.iconst 3, 1) := by decide +kernel
theorem dX9_there_94 : decode cX9_there 94 = .ok (.iload_n 1, 1) := by decide +kernel
theorem dX9_there_95 : decode cX9_there 95 = .ok (.imul, 1) := by decide +kernel
theorem dX9_there_96 : decode cX9_there 96 = .ok (.iadd, 1) := by decide +kernel
theorem dX9_there_97 : decode cX9_there 97 = .ok (.iload_n 2, 1) := by decide +kernel
theorem dX9_there_98 : decode cX9_there 98 = .ok (.iastore, 1) := by decide +kernel
theorem dX9_there_99 : decode cX9_there 99 = .ok (.aload_n 0, 1) := by decide +kernel
theorem dX9_there_100 : decode cX9_there 100 = .ok (.getfield 7, 3) := by decide +kernel
theorem dX9_there_103 : decode cX9_there 103 = .ok (.bipush 38, 2) := by decide +kernel
theorem dX9_there_105 : decode cX9_there 105 = .ok (.iconst 3, 1) := by decide +kernel
theorem dX9_there_106 : decode cX9_there 106 = .ok (.iload_n 1, 1) := by decide +kernel
theorem dX9_there_107 : decode cX9_there 107 = .ok (.imul, 1) := by decide +kernel
theorem dX9_there_108 : decode cX9_there 108 = .ok (.iadd, 1) := by decide +kernel
theorem dX9_there_109 : decode cX9_there 109 = .ok (.iconst 1, 1) := by decide +kernel
theorem dX9_there_110 : decode cX9_there 110 = .ok (.iadd, 1) := by decide +kernel
theorem dX9_there_111 : decode cX9_there 111 = .ok (.iload_n 3, 1) := by decide +kernel
theorem dX9_there_112 : decode cX9_there 112 = .ok (.iastore, 1) := by decide +kernel
theorem dX9_there_113 : decode cX9_there 113 = .ok (.iload 5, 2) := by decide +kernel
theorem dX9_there_115 : decode cX9_there 115 = .ok (.ireturn, 1) := by decide +kernel
theorem dX9_undo_0 : decode cX9_undo 0 = .ok (.aload_n 0, 1) := by decide +kernel
theorem dX9_undo_1 : decode cX9_undo 1 = .ok (.iconst 0, 1) := by decide +kernel
theorem dX9_undo_2 : decode cX9_undo 2 = .ok (.putfield 29, 3) := by decide +kernel
theorem dX9_undo_5 : decode cX9_undo 5 = .ok (.aload_n 0, 1) := by decide +kernel
theorem dX9_undo_6 : decode cX9_undo 6 = .ok (.getfield 66, 3) := by decide +kernel
theorem dX9_undo_9 : decode cX9_undo 9 = .ok (.ifCond .ne 6, 3) := by decide +kernel
theorem dX9_undo_12 : decode cX9_undo 12 = .ok (.bipush (-2), 2) := by decide +kernel
theorem dX9_undo_14 : decode cX9_undo 14 = .ok (.ireturn, 1) := by decide +kernel
theorem dX9_undo_15 : decode cX9_undo 15 = .ok (.aload_n 0, 1) := by decide +kernel
theorem dX9_undo_16 : decode cX9_undo 16 = .ok (.dup, 1) := by decide +kernel
theorem dX9_undo_17 : decode cX9_undo 17 = .ok (.getfield 66, 3) := by decide +kernel
theorem dX9_undo_20 : decode cX9_undo 20 = .ok (.iconst 1, 1) := by decide +kernel
theorem dX9_undo_21 : decode cX9_undo 21 = .ok (.isub, 1) := by decide +kernel
theorem dX9_undo_22 : decode cX9_undo 22 = .ok (.putfield 66, 3) := by decide +kernel
theorem dX9_undo_25 : decode cX9_undo 25 = .ok (.iconst 0, 1) := by decide +kernel
theorem dX9_undo_26 : decode cX9_undo 26 = .ok (.istore_n 1, 1) := by decide +kernel
theorem dX9_undo_27 : decode cX9_undo 27 = .ok (.iload_n 1, 1) := by decide +kernel
theorem dX9_undo_28 : decode cX9_undo 28 = .ok (.bipush 95, 2) := by decide +kernel
theorem dX9_undo_30 : decode cX9_undo 30 = .ok (.if_icmp .ge 29, 3) := by decide +kernel
theorem dX9_undo_33 : decode cX9_undo 33 = .ok (.aload_n 0, 1) := by decide +kernel
theorem dX9_undo_34 : decode cX9_undo 34 = .ok (.getfield 7, 3) := by decide +kernel
theorem dX9_undo_37 : decode cX9_undo 37 = .ok (.iload_n 1, 1) := by decide +kernel
theorem dX9_undo_38 : decode cX9_undo 38 = .ok (.aload_n 0, 1) := by decide +kernel
theorem dX9_undo_39 : decode cX9_undo 39 = .ok (.getfield 13, 3) := by decide +kernel
theorem dX9_undo_42 : decode cX9_undo 42 = .ok (.bipush 95, 2) := by decide +kernel
theorem dX9_undo_44 : decode cX9_undo 44 = .ok (.aload_n 0, 1) := by decide +kernel
theorem dX9_undo_45 : decode cX9_undo 45 = .ok (.getfield 66, 3) := by decide +kernel
theorem dX9_undo_48 : decode cX9_undo 48 = .ok (.imul, 1) := by decide +kernel
theorem dX9_undo_49 : decode cX9_undo 49 = .ok (.iload_n 1, 1) := by decide +kernel
theorem dX9_undo_50 : decode cX9_undo 50 = .ok (.iadd, 1) := by decide +kernel
theorem dX9_undo_51 : decode cX9_undo 51 = .ok (.iaload, 1) := by decide +kernel
theorem dX9_undo_52 : decode cX9_undo 52 = .ok (.iastore, 1) := by decide +kernel
theorem dX9_undo_53 : decode cX9_undo 53 = .ok (.iinc 1 1, 3) := by decide +kernel
theorem dX9_undo_56 : decode cX9_undo 56 = .ok (.goto (-29), 3) := by decide +kernel
theorem dX9_undo_59 : decode cX9_undo 59 = .ok (.aload_n 0, 1) := by decide +kernel
theorem dX9_undo_60 : decode cX9_undo 60 = .ok (.getfield 66, 3) := by decide +kernel
theorem dX9_undo_63 : decode cX9_undo 63 = .ok (.ireturn, 1) := by decide +kernel
theorem dX9_sees_0 : decode cX9_sees 0 = .ok (.aload_n 0, 1) := by decide +kernel
theorem dX9_sees_1 : decode cX9_sees 1 = .ok (.iconst 0, 1) := by decide +kernel
theorem dX9_sees_2 : decode cX9_sees 2 = .ok (.putfield 29, 3) := by decide +kernel
theorem dX9_sees_5 : decode cX9_sees 5 = .ok (.iload_n 1, 1) := by decide +kernel
theorem dX9_sees_6 : decode cX9_sees 6 = .ok (.iconst 0, 1) := by decide +kernel
theorem dX9_sees_7 : decode cX9_sees 7 = .ok (.ldc 62, 2) := by decide +kernel
theorem dX9_sees_9 : decode cX9_sees 9 = .ok (.invokestatic 46, 3) := by decide +kernel
theorem dX9_sees_12 : decode cX9_sees 12 = .ok (.ifCond .eq 13, 3) := by decide +kernel
theorem dX9_sees_15 : decode cX9_sees 15 = .ok (.iload_n 2, 1) := by decide +kernel
theorem dX9_sees_16 : decode cX9_sees 16 = .ok (.ifCond .ge 11, 3) := by decide +kernel
theorem dX9_sees_19 : decode cX9_sees 19 = .ok (.iload_n 2, 1) := by decide +kernel
theorem dX9_sees_20 : decode cX9_sees 20 = .ok (.bipush (-9), 2) := by decide +kernel
theorem dX9_sees_22 : decode cX9_sees 22 = .ok (.if_icmp .eq 5, 3) := by decide +kernel
theorem dX9_sees_25 : decode cX9_sees 25 = .ok (.iconst (-1), 1) := by decide +kernel
theorem dX9_sees_26 : decode cX9_sees 26 = .ok (.ireturn, 1) := by decide +kernel
theorem dX9_sees_27 : decode cX9_sees 27 = .ok (.aload_n 0, 1) := by decide +kernel
theorem dX9_sees_28 : decode cX9_sees 28 = .ok (.getfield 142, 3) := by decide +kernel
theorem dX9_sees_31 : decode cX9_sees 31 = .ok (.bipush 6, 2) := by decide +kernel
theorem dX9_sees_33 : decode cX9_sees 33 = .ok (.if_icmp .ne 6, 3) := by decide +kernel
theorem dX9_sees_36 : decode cX9_sees 36 = .ok (.bipush (-3), 2) := by decide +kernel
theorem dX9_sees_38 : decode cX9_sees 38 = .ok (.ireturn, 1) := by decide +kernel
theorem dX9_sees_39 : decode cX9_sees 39 = .ok (.aload_n 0, 1) := by decide +kernel
theorem dX9_sees_40 : decode cX9_sees 40 = .ok (.getfield 23, 3) := by decide +kernel
theorem dX9_sees_43 : decode cX9_sees 43 = .ok (.aload_n 0, 1) := by decide +kernel
theorem dX9_sees_44 : decode cX9_sees 44 = .ok (.getfield 142, 3) := by decide +kernel
theorem dX9_sees_47 : decode cX9_sees 47 = .ok (.iload_n 1, 1) := by decide +kernel
theorem dX9_sees_48 : decode cX9_sees 48 = .ok (.iastore, 1) := by decide +kernel
theorem dX9_sees_49 : decode cX9_sees 49 = .ok (.aload_n 0, 1) := by decide +kernel
theorem dX9_sees_50 : decode cX9_sees 50 = .ok (.getfield 26, 3) := by decide +kernel
theorem dX9_sees_53 : decode cX9_sees 53 = .ok (.aload_n 0, 1) := by decide +kernel
theorem dX9_sees_54 : decode cX9_sees 54 = .ok (.getfield 142, 3) := by decide +kernel
theorem dX9_sees_57 : decode cX9_sees 57 = .ok (.iload_n 2, 1) := by decide +kernel
theorem dX9_sees_58 : decode cX9_sees 58 = .ok (.iastore, 1) := by decide +kernel
theorem dX9_sees_59 : decode cX9_sees 59 = .ok (.aload_n 0, 1) := by decide +kernel
theorem dX9_sees_60 : decode cX9_sees 60 = .ok (.dup, 1) := by decide +kernel
theorem dX9_sees_61 : decode cX9_sees 61 = .ok (.getfield 142, 3) := by decide +kernel
theorem dX9_sees_64 : decode cX9_sees 64 = .ok (.iconst 1, 1) := by decide +kernel
theorem dX9_sees_65 : decode cX9_sees 65 = .ok (.iadd, 1) := by decide +kernel
theorem dX9_sees_66 : decode cX9_sees 66 = .ok (.putfield 142, 3) := by decide +kernel
theorem dX9_sees_69 : decode cX9_sees 69 = .ok (.aload_n 0, 1) := by decide +kernel
theorem dX9_sees_70 : decode cX9_sees 70 = .ok (.getfield 142, 3) := by decide +kernel
theorem dX9_sees_73 : decode cX9_sees 73 = .ok (.ireturn, 1) := by decide +kernel
theorem dX9_forget_0 : decode cX9_forget 0 = .ok (.aload_n 0, 1) := by decide +kernel
theorem dX9_forget_1 : decode cX9_forget 1 = .ok (.iconst 0, 1) := by decide +kernel
theorem dX9_forget_2 : decode cX9_forget 2 = .ok (.putfield 29, 3) := by decide +kernel
theorem dX9_forget_5 : decode cX9_forget 5 = .ok (.aload_n 0, 1) := by decide +kernel
theorem dX9_forget_6 : decode cX9_forget 6 = .ok (.getfield 142, 3) := by decide +kernel
theorem dX9_forget_9 : decode cX9_forget 9 = .ok (.istore_n 1, 1) := by decide +kernel
theorem dX9_forget_10 : decode cX9_forget 10 = .ok (.aload_n 0, 1) := by decide +kernel
theorem dX9_forget_11 : decode cX9_forget 11 = .ok (.iconst 0, 1) := by decide +kernel
theorem dX9_forget_12 : decode cX9_forget 12 = .ok (.putfield 142, 3) := by decide +kernel
theorem dX9_forget_15 : decode cX9_forget 15 = .ok (.iload_n 1, 1) := by decide +kernel
theorem dX9_forget_16 : decode cX9_forget 16 = .ok (.ireturn, 1) := by decide +kernel
theorem dX9_unseen_0 : decode cX9_unseen 0 = .ok (.aload_n 0, 1) := by decide +kernel
theorem dX9_unseen_1 : decode cX9_unseen 1 = .ok (.iconst 0, 1) := by decide +kernel
theorem dX9_unseen_2 : decode cX9_unseen 2 = .ok (.putfield 29, 3) := by decide +kernel
theorem dX9_unseen_5 : decode cX9_unseen 5 = .ok (.iconst 0, 1) := by decide +kernel
theorem dX9_unseen_6 : decode cX9_unseen 6 = .ok (.istore_n 1, 1) := by decide +kernel
theorem dX9_unseen_7 : decode cX9_unseen 7 = .ok (.iconst 0, 1) := by decide +kernel
theorem dX9_unseen_8 : decode cX9_unseen 8 = .ok (.istore_n 2, 1) := by decide +kernel
theorem dX9_unseen_9 : decode cX9_unseen 9 = .ok (.iload_n 2, 1) := by decide +kernel
theorem dX9_unseen_10 : decode cX9_unseen 10 = .ok (.iconst 4, 1) := by decide +kernel
theorem dX9_unseen_11 : decode cX9_unseen 11 = .ok (.if_icmp .ge 74, 3) := by decide +kernel
theorem dX9_unseen_14 : decode cX9_unseen 14 = .ok (.iconst 1, 1) := by decide +kernel
theorem dX9_unseen_15 : decode cX9_unseen 15 = .ok (.istore_n 3, 1) := by decide +kernel
theorem dX9_unseen_16 : decode cX9_unseen 16 = .ok (.iconst 0, 1) := by decide +kernel
theorem dX9_unseen_17 : decode cX9_unseen 17 = .ok (.istore 4, 2) := by decide +kernel
theorem dX9_unseen_19 : decode cX9_unseen 19 = .ok (.iload 4, 2) := by decide +kernel
theorem dX9_unseen_21 : decode cX9_unseen 21 = .ok (.aload_n 0, 1) := by decide +kernel
theorem dX9_unseen_22 : decode cX9_unseen 22 = .ok (.getfield 142, 3) := by decide +kernel
theorem dX9_unseen_25 : decode cX9_unseen 25 = .ok (.if_icmp .ge 40, 3) := by decide +kernel
theorem dX9_unseen_28 : decode cX9_unseen 28 = .ok (.iload_n 3, 1) := by decide +kernel
theorem dX9_unseen_29 : decode cX9_unseen 29 = .ok (.ifCond .eq 28, 3) := by decide +kernel
theorem dX9_unseen_32 : decode cX9_unseen 32 = .ok (.iload_n 2, 1) := by decide +kernel
theorem dX9_unseen_33 : decode cX9_unseen 33 = .ok (.aload_n 0, 1) := by decide +kernel
theorem dX9_unseen_34 : decode cX9_unseen 34 = .ok (.getfield 23, 3) := by decide +kernel
theorem dX9_unseen_37 : decode cX9_unseen 37 = .ok (.iload 4, 2) := by decide +kernel
theorem dX9_unseen_39 : decode cX9_unseen 39 = .ok (.iaload, 1) := by decide +kernel
theorem dX9_unseen_40 : decode cX9_unseen 40 = .ok (.invokestatic 63, 3) := by decide +kernel
theorem dX9_unseen_43 : decode cX9_unseen 43 = .ok (.aload_n 0, 1) := by decide +kernel
theorem dX9_unseen_44 : decode cX9_unseen 44 = .ok (.getfield 26, 3) := by decide +kernel
theorem dX9_unseen_47 : decode cX9_unseen 47 = .ok (.iload 4, 2) := by decide +kernel
theorem dX9_unseen_49 : decode cX9_unseen 49 = .ok (.iaload, 1) := by decide +kernel
theorem dX9_unseen_50 : decode cX9_unseen 50 = .ok (.if_icmp .ne 7, 3) := by decide +kernel
theorem dX9_unseen_53 : decode cX9_unseen 53 = .ok (.iconst 1, 1) := by decide +kernel
theorem dX9_unseen_54 : decode cX9_unseen 54 = .ok (.goto 4, 3) := by decide +kernel
theorem dX9_unseen_57 : decode cX9_unseen 57 = .ok (.iconst 0, 1) := by decide +kernel
theorem dX9_unseen_58 : decode cX9_unseen 58 = .ok (.istore_n 3, 1) := by decide +kernel
theorem dX9_unseen_59 : decode cX9_unseen 59 = .ok (.iinc 4 1, 3) := by decide +kernel
theorem dX9_unseen_62 : decode cX9_unseen 62 = .ok (.goto (-43), 3) := by decide +kernel
theorem dX9_unseen_65 : decode cX9_unseen 65 = .ok (.iload_n 1, 1) := by decide +kernel
theorem dX9_unseen_66 : decode cX9_unseen 66 = .ok (.iload_n 3, 1) := by decide +kernel
theorem dX9_unseen_67 : decode cX9_unseen 67 = .ok (.ifCond .eq 9, 3) := by decide +kernel
theorem dX9_unseen_70 : decode cX9_unseen 70 = .ok (.iconst 1, 1) := by decide +kernel
theorem dX9_unseen_71 : decode cX9_unseen 71 = .ok (.iload_n 2, 1) := by decide +kernel
theorem dX9_unseen_72 : decode cX9_unseen 72 = .ok (.ishl, 1) := by decide +kernel
theorem dX9_unseen_73 : decode cX9_unseen 73 = .ok (.goto 4, 3) := by decide +kernel
theorem dX9_unseen_76 : decode cX9_unseen 76 = .ok (.iconst 0, 1) := by decide +kernel
theorem dX9_unseen_77 : decode cX9_unseen 77 = .ok (.ior, 1) := by decide +kernel
theorem dX9_unseen_78 : decode cX9_unseen 78 = .ok (.istore_n 1, 1) := by decide +kernel
theorem dX9_unseen_79 : decode cX9_unseen 79 = .ok (.iinc 2 1, 3) := by decide +kernel
theorem dX9_unseen_82 : decode cX9_unseen 82 = .ok (.goto (-73), 3) := by decide +kernel
theorem dX9_unseen_85 : decode cX9_unseen 85 = .ok (.iload_n 1, 1) := by decide +kernel
theorem dX9_unseen_86 : decode cX9_unseen 86 = .ok (.ireturn, 1) := by decide +kernel
theorem dX9_keep_0 : decode cX9_keep 0 = .ok (.aload_n 0, 1) := by decide +kernel
theorem dX9_keep_1 : decode cX9_keep 1 = .ok (.iconst 0, 1) := by decide +kernel
theorem dX9_keep_2 : decode cX9_keep 2 = .ok (.putfield 29, 3) := by decide +kernel
theorem dX9_keep_5 : decode cX9_keep 5 = .ok (.iload_n 1, 1) := by decide +kernel
theorem dX9_keep_6 : decode cX9_keep 6 = .ok (.iconst 0, 1) := by decide +kernel
theorem dX9_keep_7 : decode cX9_keep 7 = .ok (.iconst 1, 1) := by decide +kernel
theorem dX9_keep_8 : decode cX9_keep 8 = .ok (.invokestatic 46, 3) := by decide +kernel
theorem dX9_keep_11 : decode cX9_keep 11 = .ok (.ifCond .ne 5, 3) := by decide +kernel
theorem dX9_keep_14 : decode cX9_keep 14 = .ok (.iconst (-1), 1) := by decide +kernel
theorem dX9_keep_15 : decode cX9_keep 15 = .ok (.ireturn, 1) := by decide +kernel
theorem dX9_keep_16 : decode cX9_keep 16 = .ok (.iconst 0, 1) := by decide +kernel
theorem dX9_keep_17 : decode cX9_keep 17 = .ok (.istore_n 2, 1) := by decide +kernel
theorem dX9_keep_18 : decode cX9_keep 18 = .ok (.iload_n 2, 1) := by decide +kernel
theorem dX9_keep_19 : decode cX9_keep 19 = .ok (.bipush 95, 2) := by decide +kernel
theorem dX9_keep_21 : decode cX9_keep 21 = .ok (.if_icmp .ge 26, 3) := by decide +kernel
theorem dX9_keep_24 : decode cX9_keep 24 = .ok (.aload_n 0, 1) := by decide +kernel
theorem dX9_keep_25 : decode cX9_keep 25 = .ok (.getfield 16, 3) := by decide +kernel
theorem dX9_keep_28 : decode cX9_keep 28 = .ok (.bipush 95, 2) := by decide +kernel
theorem dX9_keep_30 : decode cX9_keep 30 = .ok (.iload_n 1, 1) := by decide +kernel
theorem dX9_keep_31 : decode cX9_keep 31 = .ok (.imul, 1) := by decide +kernel
theorem dX9_keep_32 : decode cX9_keep 32 = .ok (.iload_n 2, 1) := by decide +kernel
theorem dX9_keep_33 : decode cX9_keep 33 = .ok (.iadd, 1) := by decide +kernel
theorem dX9_keep_34 : decode cX9_keep 34 = .ok (.aload_n 0, 1) := by decide +kernel
theorem dX9_keep_35 : decode cX9_keep 35 = .ok (.getfield 7, 3) := by decide +kernel
theorem dX9_keep_38 : decode cX9_keep 38 = .ok (.iload_n 2, 1) := by decide +kernel
theorem dX9_keep_39 : decode cX9_keep 39 = .ok (.iaload, 1) := by decide +kernel
theorem dX9_keep_40 : decode cX9_keep 40 = .ok (.iastore, 1) := by decide +kernel
theorem dX9_keep_41 : decode cX9_keep 41 = .ok (.iinc 2 1, 3) := by decide +kernel
theorem dX9_keep_44 : decode cX9_keep 44 = .ok (.goto (-26), 3) := by decide +kernel
theorem dX9_keep_47 : decode cX9_keep 47 = .ok (.aload_n 0, 1) := by decide +kernel
theorem dX9_keep_48 : decode cX9_keep 48 = .ok (.getfield 19, 3) := by decide +kernel
theorem dX9_keep_51 : decode cX9_keep 51 = .ok (.iload_n 1, 1) := by decide +kernel
theorem dX9_keep_52 : decode cX9_keep 52 = .ok (.iconst 1, 1) := by decide +kernel
theorem dX9_keep_53 : decode cX9_keep 53 = .ok (.bastore, 1) := by decide +kernel
theorem dX9_keep_54 : decode cX9_keep 54 = .ok (.aload_n 0, 1) := by decide +kernel
theorem dX9_keep_55 : decode cX9_keep 55 = .ok (.getfield 7, 3) := by decide +kernel
theorem dX9_keep_58 : decode cX9_keep 58 = .ok (.iconst 1, 1) := by decide +kernel
theorem dX9_keep_59 : decode cX9_keep 59 = .ok (.iaload, 1) := by decide +kernel
theorem dX9_keep_60 : decode cX9_keep 60 = .ok (.ireturn, 1) := by decide +kernel
theorem dX9_back_0 : decode cX9_back 0 = .ok (.aload_n 0, 1) := by decide +kernel
theorem dX9_back_1 : decode cX9_back 1 = .ok (.iconst 0, 1) := by decide +kernel
theorem dX9_back_2 : decode cX9_back 2 = .ok (.putfield 29, 3) := by decide +kernel
theorem dX9_back_5 : decode cX9_back 5 = .ok (.iload_n 1, 1) := by decide +kernel
theorem dX9_back_6 : decode cX9_back 6 = .ok (.iconst 0, 1) := by decide +kernel
theorem dX9_back_7 : decode cX9_back 7 = .ok (.iconst 1, 1) := by decide +kernel
theorem dX9_back_8 : decode cX9_back 8 = .ok (.invokestatic 46, 3) := by decide +kernel
theorem dX9_back_11 : decode cX9_back 11 = .ok (.ifCond .ne 5, 3) := by decide +kernel
theorem dX9_back_14 : decode cX9_back 14 = .ok (.iconst (-1), 1) := by decide +kernel
theorem dX9_back_15 : decode cX9_back 15 = .ok (.ireturn, 1) := by decide +kernel
theorem dX9_back_16 : decode cX9_back 16 = .ok (.aload_n 0, 1) := by decide +kernel
theorem dX9_back_17 : decode cX9_back 17 = .ok (.getfield 19, 3) := by decide +kernel
theorem dX9_back_20 : decode cX9_back 20 = .ok (.iload_n 1, 1) := by decide +kernel
theorem dX9_back_21 : decode cX9_back 21 = .ok (.baload, 1) := by decide +kernel
theorem dX9_back_22 : decode cX9_back 22 = .ok (.ifCond .ne 6, 3) := by decide +kernel
theorem dX9_back_25 : decode cX9_back 25 = .ok (.bipush (-2), 2) := by decide +kernel
theorem dX9_back_27 : decode cX9_back 27 = .ok (.ireturn, 1) := by decide +kernel
theorem dX9_back_28 : decode cX9_back 28 = .ok (.iconst 0, 1) := by decide +kernel
theorem dX9_back_29 : decode cX9_back 29 = .ok (.istore_n 2, 1) := by decide +kernel
theorem dX9_back_30 : decode cX9_back 30 = .ok (.iload_n 2, 1) := by decide +kernel
theorem dX9_back_31 : decode cX9_back 31 = .ok (.bipush 95, 2) := by decide +kernel
theorem dX9_back_33 : decode cX9_back 33 = .ok (.if_icmp .ge 26, 3) := by decide +kernel
theorem dX9_back_36 : decode cX9_back 36 = .ok (.aload_n 0, 1) := by decide +kernel
theorem dX9_back_37 : decode cX9_back 37 = .ok (.getfield 7, 3) := by decide +kernel
theorem dX9_back_40 : decode cX9_back 40 = .ok (.iload_n 2, 1) := by decide +kernel
theorem dX9_back_41 : decode cX9_back 41 = .ok (.aload_n 0, 1) := by decide +kernel
theorem dX9_back_42 : decode cX9_back 42 = .ok (.getfield 16, 3) := by decide +kernel
theorem dX9_back_45 : decode cX9_back 45 = .ok (.bipush 95, 2) := by decide +kernel
theorem dX9_back_47 : decode cX9_back 47 = .ok (.iload_n 1, 1) := by decide +kernel
theorem dX9_back_48 : decode cX9_back 48 = .ok (.imul, 1) := by decide +kernel
theorem dX9_back_49 : decode cX9_back 49 = .ok (.iload_n 2, 1) := by decide +kernel
theorem dX9_back_50 : decode cX9_back 50 = .ok (.iadd, 1) := by decide +kernel
theorem dX9_back_51 : decode cX9_back 51 = .ok (.iaload, 1) := by decide +kernel
theorem dX9_back_52 : decode cX9_back 52 = .ok (.iastore, 1) := by decide +kernel
theorem dX9_back_53 : decode cX9_back 53 = .ok (.iinc 2 1, 3) := by decide +kernel
theorem dX9_back_56 : decode cX9_back 56 = .ok (.goto (-26), 3) := by decide +kernel
theorem dX9_back_59 : decode cX9_back 59 = .ok (.aload_n 0, 1) := by decide +kernel
theorem dX9_back_60 : decode cX9_back 60 = .ok (.iconst 0, 1) := by decide +kernel
theorem dX9_back_61 : decode cX9_back 61 = .ok (.putfield 66, 3) := by decide +kernel
theorem dX9_back_64 : decode cX9_back 64 = .ok (.aload_n 0, 1) := by decide +kernel
theorem dX9_back_65 : decode cX9_back 65 = .ok (.getfield 7, 3) := by decide +kernel
theorem dX9_back_68 : decode cX9_back 68 = .ok (.iconst 1, 1) := by decide +kernel
theorem dX9_back_69 : decode cX9_back 69 = .ok (.iaload, 1) := by decide +kernel
theorem dX9_back_70 : decode cX9_back 70 = .ok (.ireturn, 1) := by decide +kernel
theorem dX9_count_0 : decode cX9_count 0 = .ok (.aload_n 0, 1) := by decide +kernel
theorem dX9_count_1 : decode cX9_count 1 = .ok (.iconst 0, 1) := by decide +kernel
theorem dX9_count_2 : decode cX9_count 2 = .ok (.putfield 29, 3) := by decide +kernel
theorem dX9_count_5 : decode cX9_count 5 = .ok (.iload_n 1, 1) := by decide +kernel
theorem dX9_count_6 : decode cX9_count 6 = .ok (.tableswitch 84 0 6 #[42, 49, 54, 61, 66, 74, 79], 42) := by decide +kernel
theorem dX9_count_48 : decode cX9_count 48 = .ok (.aload_n 0, 1) := by decide +kernel
theorem dX9_count_49 : decode cX9_count 49 = .ok (.getfield 7, 3) := by decide +kernel
theorem dX9_count_52 : decode cX9_count 52 = .ok (.iconst 0, 1) := by decide +kernel
theorem dX9_count_53 : decode cX9_count 53 = .ok (.iaload, 1) := by decide +kernel
theorem dX9_count_54 : decode cX9_count 54 = .ok (.ireturn, 1) := by decide +kernel
theorem dX9_count_55 : decode cX9_count 55 = .ok (.aload_n 0, 1) := by decide +kernel
theorem dX9_count_56 : decode cX9_count 56 = .ok (.invokevirtual 42, 3) := by decide +kernel
theorem dX9_count_59 : decode cX9_count 59 = .ok (.ireturn, 1) := by decide +kernel
theorem dX9_count_60 : decode cX9_count 60 = .ok (.aload_n 0, 1) := by decide +kernel
theorem dX9_count_61 : decode cX9_count 61 = .ok (.getfield 7, 3) := by decide +kernel
theorem dX9_count_64 : decode cX9_count 64 = .ok (.iconst 1, 1) := by decide +kernel
theorem dX9_count_65 : decode cX9_count 65 = .ok (.iaload, 1) := by decide +kernel
theorem dX9_count_66 : decode cX9_count 66 = .ok (.ireturn, 1) := by decide +kernel
theorem dX9_count_67 : decode cX9_count 67 = .ok (.aload_n 0, 1) := by decide +kernel
theorem dX9_count_68 : decode cX9_count 68 = .ok (.invokevirtual 75, 3) := by decide +kernel
theorem dX9_count_71 : decode cX9_count 71 = .ok (.ireturn, 1) := by decide +kernel
theorem dX9_count_72 : decode cX9_count 72 = .ok (.aload_n 0, 1) := by decide +kernel
theorem dX9_count_73 : decode cX9_count 73 = .ok (.getfield 7, 3) := by decide +kernel
theorem dX9_count_76 : decode cX9_count 76 = .ok (.bipush 20, 2) := by decide +kernel
theorem dX9_count_78 : decode cX9_count 78 = .ok (.iaload, 1) := by decide +kernel
theorem dX9_count_79 : decode cX9_count 79 = .ok (.ireturn, 1) := by decide +kernel
theorem dX9_count_80 : decode cX9_count 80 = .ok (.aload_n 0, 1) := by decide +kernel
theorem dX9_count_81 : decode cX9_count 81 = .ok (.getfield 142, 3) := by decide +kernel
theorem dX9_count_84 : decode cX9_count 84 = .ok (.ireturn, 1) := by decide +kernel
theorem dX9_count_85 : decode cX9_count 85 = .ok (.aload_n 0, 1) := by decide +kernel
theorem dX9_count_86 : decode cX9_count 86 = .ok (.getfield 66, 3) := by decide +kernel
theorem dX9_count_89 : decode cX9_count 89 = .ok (.ireturn, 1) := by decide +kernel
theorem dX9_count_90 : decode cX9_count 90 = .ok (.iconst (-1), 1) := by decide +kernel
theorem dX9_count_91 : decode cX9_count 91 = .ok (.ireturn, 1) := by decide +kernel
end
section
theorem dL_law_0 : decode cL_law 0 = .ok (.new 7, 3) := by decide +kernel
theorem dL_law_3 : decode cL_law 3 = .ok (.dup, 1) := by decide +kernel
theorem dL_law_4 : decode cL_law 4 = .ok (.invokespecial 9, 3) := by decide +kernel
theorem dL_law_7 : decode cL_law 7 = .ok (.astore_n 1, 1) := by decide +kernel
theorem dL_law_8 : decode cL_law 8 = .ok (.new 10, 3) := by decide +kernel
theorem dL_law_11 : decode cL_law 11 = .ok (.dup, 1) := by decide +kernel
theorem dL_law_12 : decode cL_law 12 = .ok (.invokespecial 12, 3) := by decide +kernel
theorem dL_law_15 : decode cL_law 15 = .ok (.astore_n 2, 1) := by decide +kernel
theorem dL_law_16 : decode cL_law 16 = .ok (.iconst 0, 1) := by decide +kernel
theorem dL_law_17 : decode cL_law 17 = .ok (.istore_n 3, 1) := by decide +kernel
theorem dL_law_18 : decode cL_law 18 = .ok (.iload_n 3, 1) := by decide +kernel
theorem dL_law_19 : decode cL_law 19 = .ok (.aload_n 0, 1) := by decide +kernel
theorem dL_law_20 : decode cL_law 20 = .ok (.arraylength, 1) := by decide +kernel
theorem dL_law_21 : decode cL_law 21 = .ok (.iconst 5, 1) := by decide +kernel
theorem dL_law_22 : decode cL_law 22 = .ok (.isub, 1) := by decide +kernel
theorem dL_law_23 : decode cL_law 23 = .ok (.if_icmp .gt 783, 3) := by decide +kernel
theorem dL_law_26 : decode cL_law 26 = .ok (.aload_n 0, 1) := by decide +kernel
theorem dL_law_27 : decode cL_law 27 = .ok (.iload_n 3, 1) := by decide +kernel
theorem dL_law_28 : decode cL_law 28 = .ok (.iaload, 1) := by decide +kernel
theorem dL_law_29 : decode cL_law 29 = .ok (.bipush 31, 2) := by decide +kernel
theorem dL_law_31 : decode cL_law 31 = .ok (.iand, 1) := by decide +kernel
theorem dL_law_32 : decode cL_law 32 = .ok (.tableswitch 768 0 25 #[120, 143, 166, 189, 222, 265, 288, 311, 364, 387, 400, 423, 446, 459, 482, 505, 538, 571, 604, 627, 640, 673, 686, 699, 722, 745], 120) := by decide +kernel
theorem dL_law_152 : decode cL_law 152 = .ok (.aload_n 1, 1) := by decide +kernel
theorem dL_law_153 : decode cL_law 153 = .ok (.aload_n 0, 1) := by decide +kernel
theorem dL_law_154 : decode cL_law 154 = .ok (.iload_n 3, 1) := by decide +kernel
theorem dL_law_155 : decode cL_law 155 = .ok (.iconst 1, 1) := by decide +kernel
theorem dL_law_156 : decode cL_law 156 = .ok (.iadd, 1) := by decide +kernel
theorem dL_law_157 : decode cL_law 157 = .ok (.iaload, 1) := by decide +kernel
theorem dL_law_158 : decode cL_law 158 = .ok (.invokevirtual 13, 3) := by decide +kernel
theorem dL_law_161 : decode cL_law 161 = .ok (.aload_n 2, 1) := by decide +kernel
theorem dL_law_162 : decode cL_law 162 = .ok (.aload_n 0, 1) := by decide +kernel
theorem dL_law_163 : decode cL_law 163 = .ok (.iload_n 3, 1) := by decide +kernel
theorem dL_law_164 : decode cL_law 164 = .ok (.iconst 1, 1) := by decide +kernel
theorem dL_law_165 : decode cL_law 165 = .ok (.iadd, 1) := by decide +kernel
theorem dL_law_166 : decode cL_law 166 = .ok (.iaload, 1) := by decide +kernel
theorem dL_law_167 : decode cL_law 167 = .ok (.invokevirtual 17, 3) := by decide +kernel
theorem dL_law_170 : decode cL_law 170 = .ok (.if_icmp .eq 630, 3) := by decide +kernel
theorem dL_law_173 : decode cL_law 173 = .ok (.iconst 0, 1) := by decide +kernel
theorem dL_law_174 : decode cL_law 174 = .ok (.ireturn, 1) := by decide +kernel
theorem dL_law_175 : decode cL_law 175 = .ok (.aload_n 1, 1) := by decide +kernel
theorem dL_law_176 : decode cL_law 176 = .ok (.aload_n 0, 1) := by decide +kernel
theorem dL_law_177 : decode cL_law 177 = .ok (.iload_n 3, 1) := by decide +kernel
theorem dL_law_178 : decode cL_law 178 = .ok (.iconst 1, 1) := by decide +kernel
theorem dL_law_179 : decode cL_law 179 = .ok (.iadd, 1) := by decide +kernel
theorem dL_law_180 : decode cL_law 180 = .ok (.iaload, 1) := by decide +kernel
theorem dL_law_181 : decode cL_law 181 = .ok (.invokevirtual 18, 3) := by decide +kernel
theorem dL_law_184 : decode cL_law 184 = .ok (.aload_n 2, 1) := by decide +kernel
theorem dL_law_185 : decode cL_law 185 = .ok (.aload_n 0, 1) := by decide +kernel
theorem dL_law_186 : decode cL_law 186 = .ok (.iload_n 3, 1) := by decide +kernel
theorem dL_law_187 : decode cL_law 187 = .ok (.iconst 1, 1) := by decide +kernel
theorem dL_law_188 : decode cL_law 188 = .ok (.iadd, 1) := by decide +kernel
theorem dL_law_189 : decode cL_law 189 = .ok (.iaload, 1) := by decide +kernel
theorem dL_law_190 : decode cL_law 190 = .ok (.invokevirtual 21, 3) := by decide +kernel
theorem dL_law_193 : decode cL_law 193 = .ok (.if_icmp .eq 607, 3) := by decide +kernel
theorem dL_law_196 : decode cL_law 196 = .ok (.iconst 0, 1) := by decide +kernel
theorem dL_law_197 : decode cL_law 197 = .ok (.ireturn, 1) := by decide +kernel
theorem dL_law_198 : decode cL_law 198 = .ok (.aload_n 1, 1) := by decide +kernel
theorem dL_law_199 : decode cL_law 199 = .ok (.aload_n 0, 1) := by decide +kernel
theorem dL_law_200 : decode cL_law 200 = .ok (.iload_n 3, 1) := by decide +kernel
theorem dL_law_201 : decode cL_law 201 = .ok (.iconst 1, 1) := by decide +kernel
theorem dL_law_202 : decode cL_law 202 = .ok (.iadd, 1) := by decide +kernel
theorem dL_law_203 : decode cL_law 203 = .ok (.iaload, 1) := by decide +kernel
theorem dL_law_204 : decode cL_law 204 = .ok (.invokevirtual 22, 3) := by decide +kernel
theorem dL_law_207 : decode cL_law 207 = .ok (.aload_n 2, 1) := by decide +kernel
theorem dL_law_208 : decode cL_law 208 = .ok (.aload_n 0, 1) := by decide +kernel
theorem dL_law_209 : decode cL_law 209 = .ok (.iload_n 3, 1) := by decide +kernel
theorem dL_law_210 : decode cL_law 210 = .ok (.iconst 1, 1) := by decide +kernel
theorem dL_law_211 : decode cL_law 211 = .ok (.iadd, 1) := by decide +kernel
theorem dL_law_212 : decode cL_law 212 = .ok (.iaload, 1) := by decide +kernel
theorem dL_law_213 : decode cL_law 213 = .ok (.invokevirtual 25, 3) := by decide +kernel
theorem dL_law_216 : decode cL_law 216 = .ok (.if_icmp .eq 584, 3) := by decide +kernel
theorem dL_law_219 : decode cL_law 219 = .ok (.iconst 0, 1) := by decide +kernel
theorem dL_law_220 : decode cL_law 220 = .ok (.ireturn, 1) := by decide +kernel
theorem dL_law_221 : decode cL_law 221 = .ok (.aload_n 1, 1) := by decide +kernel
theorem dL_law_222 : decode cL_law 222 = .ok (.aload_n 0, 1) := by decide +kernel
theorem dL_law_223 : decode cL_law 223 = .ok (.iload_n 3, 1) := by decide +kernel
theorem dL_law_224 : decode cL_law 224 = .ok (.iconst 1, 1) := by decide +kernel
theorem dL_law_225 : decode cL_law 225 = .ok (.iadd, 1) := by decide +kernel
theorem dL_law_226 : decode cL_law 226 = .ok (.iaload, 1) := by decide +kernel
theorem dL_law_227 : decode cL_law 227 = .ok (.aload_n 0, 1) := by decide +kernel
theorem dL_law_228 : decode cL_law 228 = .ok (.iload_n 3, 1) := by decide +kernel
theorem dL_law_229 : decode cL_law 229 = .ok (.iconst 2, 1) := by decide +kernel
theorem dL_law_230 : decode cL_law 230 = .ok (.iadd, 1) := by decide +kernel
theorem dL_law_231 : decode cL_law 231 = .ok (.iaload, 1) := by decide +kernel
theorem dL_law_232 : decode cL_law 232 = .ok (.invokevirtual 26, 3) := by decide +kernel
theorem dL_law_235 : decode cL_law 235 = .ok (.aload_n 2, 1) := by decide +kernel
theorem dL_law_236 : decode cL_law 236 = .ok (.aload_n 0, 1) := by decide +kernel
theorem dL_law_237 : decode cL_law 237 = .ok (.iload_n 3, 1) := by decide +kernel
theorem dL_law_238 : decode cL_law 238 = .ok (.iconst 1, 1) := by decide +kernel
theorem dL_law_239 : decode cL_law 239 = .ok (.iadd, 1) := by decide +kernel
theorem dL_law_240 : decode cL_law 240 = .ok (.iaload, 1) := by decide +kernel
theorem dL_law_241 : decode cL_law 241 = .ok (.aload_n 0, 1) := by decide +kernel
theorem dL_law_242 : decode cL_law 242 = .ok (.iload_n 3, 1) := by decide +kernel
theorem dL_law_243 : decode cL_law 243 = .ok (.iconst 2, 1) := by decide +kernel
theorem dL_law_244 : decode cL_law 244 = .ok (.iadd, 1) := by decide +kernel
theorem dL_law_245 : decode cL_law 245 = .ok (.iaload, 1) := by decide +kernel
theorem dL_law_246 : decode cL_law 246 = .ok (.invokevirtual 30, 3) := by decide +kernel
theorem dL_law_249 : decode cL_law 249 = .ok (.if_icmp .eq 551, 3) := by decide +kernel
theorem dL_law_252 : decode cL_law 252 = .ok (.iconst 0, 1) := by decide +kernel
theorem dL_law_253 : decode cL_law 253 = .ok (.ireturn, 1) := by decide +kernel
theorem dL_law_254 : decode cL_law 254 = .ok (.aload_n 1, 1) := by decide +kernel
theorem dL_law_255 : decode cL_law 255 = .ok (.aload_n 0, 1) := by decide +kernel
theorem dL_law_256 : decode cL_law 256 = .ok (.iload_n 3, 1) := by decide +kernel
theorem dL_law_257 : decode cL_law 257 = .ok (.iconst 1, 1) := by decide +kernel
theorem dL_law_258 : decode cL_law 258 = .ok (.iadd, 1) := by decide +kernel
theorem dL_law_259 : decode cL_law 259 = .ok (.iaload, 1) := by decide +kernel
theorem dL_law_260 : decode cL_law 260 = .ok (.aload_n 0, 1) := by decide +kernel
theorem dL_law_261 : decode cL_law 261 = .ok (.iload_n 3, 1) := by decide +kernel
theorem dL_law_262 : decode cL_law 262 = .ok (.iconst 2, 1) := by decide +kernel
theorem dL_law_263 : decode cL_law 263 = .ok (.iadd, 1) := by decide +kernel
theorem dL_law_264 : decode cL_law 264 = .ok (.iaload, 1) := by decide +kernel
theorem dL_law_265 : decode cL_law 265 = .ok (.aload_n 0, 1) := by decide +kernel
theorem dL_law_266 : decode cL_law 266 = .ok (.iload_n 3, 1) := by decide +kernel
theorem dL_law_267 : decode cL_law 267 = .ok (.iconst 3, 1) := by decide +kernel
theorem dL_law_268 : decode cL_law 268 = .ok (.iadd, 1) := by decide +kernel
theorem dL_law_269 : decode cL_law 269 = .ok (.iaload, 1) := by decide +kernel
theorem dL_law_270 : decode cL_law 270 = .ok (.invokevirtual 31, 3) := by decide +kernel
theorem dL_law_273 : decode cL_law 273 = .ok (.aload_n 2, 1) := by decide +kernel
theorem dL_law_274 : decode cL_law 274 = .ok (.aload_n 0, 1) := by decide +kernel
theorem dL_law_275 : decode cL_law 275 = .ok (.iload_n 3, 1) := by decide +kernel
theorem dL_law_276 : decode cL_law 276 = .ok (.iconst 1, 1) := by decide +kernel
theorem dL_law_277 : decode cL_law 277 = .ok (.iadd, 1) := by decide +kernel
theorem dL_law_278 : decode cL_law 278 = .ok (.iaload, 1) := by decide +kernel
theorem dL_law_279 : decode cL_law 279 = .ok (.aload_n 0, 1) := by decide +kernel
theorem dL_law_280 : decode cL_law 280 = .ok (.iload_n 3, 1) := by decide +kernel
theorem dL_law_281 : decode cL_law 281 = .ok (.iconst 2, 1) := by decide +kernel
theorem dL_law_282 : decode cL_law 282 = .ok (.iadd, 1) := by decide +kernel
theorem dL_law_283 : decode cL_law 283 = .ok (.iaload, 1) := by decide +kernel
theorem dL_law_284 : decode cL_law 284 = .ok (.aload_n 0, 1) := by decide +kernel
theorem dL_law_285 : decode cL_law 285 = .ok (.iload_n 3, 1) := by decide +kernel
theorem dL_law_286 : decode cL_law 286 = .ok (.iconst 3, 1) := by decide +kernel
theorem dL_law_287 : decode cL_law 287 = .ok (.iadd, 1) := by decide +kernel
theorem dL_law_288 : decode cL_law 288 = .ok (.iaload, 1) := by decide +kernel
theorem dL_law_289 : decode cL_law 289 = .ok (.invokevirtual 35, 3) := by decide +kernel
theorem dL_law_292 : decode cL_law 292 = .ok (.if_icmp .eq 508, 3) := by decide +kernel
theorem dL_law_295 : decode cL_law 295 = .ok (.iconst 0, 1) := by decide +kernel
theorem dL_law_296 : decode cL_law 296 = .ok (.ireturn, 1) := by decide +kernel
theorem dL_law_297 : decode cL_law 297 = .ok (.aload_n 1, 1) := by decide +kernel
theorem dL_law_298 : decode cL_law 298 = .ok (.aload_n 0, 1) := by decide +kernel
theorem dL_law_299 : decode cL_law 299 = .ok (.iload_n 3, 1) := by decide +kernel
theorem dL_law_300 : decode cL_law 300 = .ok (.iconst 1, 1) := by decide +kernel
theorem dL_law_301 : decode cL_law 301 = .ok (.iadd, 1) := by decide +kernel
theorem dL_law_302 : decode cL_law 302 = .ok (.iaload, 1) := by decide +kernel
theorem dL_law_303 : decode cL_law 303 = .ok (.invokevirtual 36, 3) := by decide +kernel
theorem dL_law_306 : decode cL_law 306 = .ok (.aload_n 2, 1) := by decide +kernel
theorem dL_law_307 : decode cL_law 307 = .ok (.aload_n 0, 1) := by decide +kernel
theorem dL_law_308 : decode cL_law 308 = .ok (.iload_n 3, 1) := by decide +kernel
theorem dL_law_309 : decode cL_law 309 = .ok (.iconst 1, 1) := by decide +kernel
theorem dL_law_310 : decode cL_law 310 = .ok (.iadd, 1) := by decide +kernel
theorem dL_law_311 : decode cL_law 311 = .ok (.iaload, 1) := by decide +kernel
theorem dL_law_312 : decode cL_law 312 = .ok (.invokevirtual 39, 3) := by decide +kernel
theorem dL_law_315 : decode cL_law 315 = .ok (.if_icmp .eq 485, 3) := by decide +kernel
theorem dL_law_318 : decode cL_law 318 = .ok (.iconst 0, 1) := by decide +kernel
theorem dL_law_319 : decode cL_law 319 = .ok (.ireturn, 1) := by decide +kernel
theorem dL_law_320 : decode cL_law 320 = .ok (.aload_n 1, 1) := by decide +kernel
theorem dL_law_321 : decode cL_law 321 = .ok (.aload_n 0, 1) := by decide +kernel
theorem dL_law_322 : decode cL_law 322 = .ok (.iload_n 3, 1) := by decide +kernel
theorem dL_law_323 : decode cL_law 323 = .ok (.iconst 1, 1) := by decide +kernel
theorem dL_law_324 : decode cL_law 324 = .ok (.iadd, 1) := by decide +kernel
theorem dL_law_325 : decode cL_law 325 = .ok (.iaload, 1) := by decide +kernel
theorem dL_law_326 : decode cL_law 326 = .ok (.invokevirtual 40, 3) := by decide +kernel
theorem dL_law_329 : decode cL_law 329 = .ok (.aload_n 2, 1) := by decide +kernel
theorem dL_law_330 : decode cL_law 330 = .ok (.aload_n 0, 1) := by decide +kernel
theorem dL_law_331 : decode cL_law 331 = .ok (.iload_n 3, 1) := by decide +kernel
theorem dL_law_332 : decode cL_law 332 = .ok (.iconst 1, 1) := by decide +kernel
theorem dL_law_333 : decode cL_law 333 = .ok (.iadd, 1) := by decide +kernel
theorem dL_law_334 : decode cL_law 334 = .ok (.iaload, 1) := by decide +kernel
theorem dL_law_335 : decode cL_law 335 = .ok (.invokevirtual 43, 3) := by decide +kernel
theorem dL_law_338 : decode cL_law 338 = .ok (.if_icmp .eq 462, 3) := by decide +kernel
theorem dL_law_341 : decode cL_law 341 = .ok (.iconst 0, 1) := by decide +kernel
theorem dL_law_342 : decode cL_law 342 = .ok (.ireturn, 1) := by decide +kernel
theorem dL_law_343 : decode cL_law 343 = .ok (.aload_n 1, 1) := by decide +kernel
theorem dL_law_344 : decode cL_law 344 = .ok (.aload_n 0, 1) := by decide +kernel
theorem dL_law_345 : decode cL_law 345 = .ok (.iload_n 3, 1) := by decide +kernel
theorem dL_law_346 : decode cL_law 346 = .ok (.iconst 1, 1) := by decide +kernel
theorem dL_law_347 : decode cL_law 347 = .ok (.iadd, 1) := by decide +kernel
theorem dL_law_348 : decode cL_law 348 = .ok (.iaload, 1) := by decide +kernel
theorem dL_law_349 : decode cL_law 349 = .ok (.aload_n 0, 1) := by decide +kernel
theorem dL_law_350 : decode cL_law 350 = .ok (.iload_n 3, 1) := by decide +kernel
theorem dL_law_351 : decode cL_law 351 = .ok (.iconst 2, 1) := by decide +kernel
theorem dL_law_352 : decode cL_law 352 = .ok (.iadd, 1) := by decide +kernel
theorem dL_law_353 : decode cL_law 353 = .ok (.iaload, 1) := by decide +kernel
theorem dL_law_354 : decode cL_law 354 = .ok (.aload_n 0, 1) := by decide +kernel
theorem dL_law_355 : decode cL_law 355 = .ok (.iload_n 3, 1) := by decide +kernel
theorem dL_law_356 : decode cL_law 356 = .ok (.iconst 3, 1) := by decide +kernel
theorem dL_law_357 : decode cL_law 357 = .ok (.iadd, 1) := by decide +kernel
theorem dL_law_358 : decode cL_law 358 = .ok (.iaload, 1) := by decide +kernel
theorem dL_law_359 : decode cL_law 359 = .ok (.aload_n 0, 1) := by decide +kernel
theorem dL_law_360 : decode cL_law 360 = .ok (.iload_n 3, 1) := by decide +kernel
theorem dL_law_361 : decode cL_law 361 = .ok (.iconst 4, 1) := by decide +kernel
theorem dL_law_362 : decode cL_law 362 = .ok (.iadd, 1) := by decide +kernel
theorem dL_law_363 : decode cL_law 363 = .ok (.iaload, 1) := by decide +kernel
theorem dL_law_364 : decode cL_law 364 = .ok (.invokevirtual 44, 3) := by decide +kernel
theorem dL_law_367 : decode cL_law 367 = .ok (.aload_n 2, 1) := by decide +kernel
theorem dL_law_368 : decode cL_law 368 = .ok (.aload_n 0, 1) := by decide +kernel
theorem dL_law_369 : decode cL_law 369 = .ok (.iload_n 3, 1) := by decide +kernel
theorem dL_law_370 : decode cL_law 370 = .ok (.iconst 1, 1) := by decide +kernel
theorem dL_law_371 : decode cL_law 371 = .ok (.iadd, 1) := by decide +kernel
theorem dL_law_372 : decode cL_law 372 = .ok (.iaload, 1) := by decide +kernel
theorem dL_law_373 : decode cL_law 373 = .ok (.aload_n 0, 1) := by decide +kernel
theorem dL_law_374 : decode cL_law 374 = .ok (.iload_n 3, 1) := by decide +kernel
theorem dL_law_375 : decode cL_law 375 = .ok (.iconst 2, 1) := by decide +kernel
theorem dL_law_376 : decode cL_law 376 = .ok (.iadd, 1) := by decide +kernel
theorem dL_law_377 : decode cL_law 377 = .ok (.iaload, 1) := by decide +kernel
theorem dL_law_378 : decode cL_law 378 = .ok (.aload_n 0, 1) := by decide +kernel
theorem dL_law_379 : decode cL_law 379 = .ok (.iload_n 3, 1) := by decide +kernel
theorem dL_law_380 : decode cL_law 380 = .ok (.iconst 3, 1) := by decide +kernel
theorem dL_law_381 : decode cL_law 381 = .ok (.iadd, 1) := by decide +kernel
theorem dL_law_382 : decode cL_law 382 = .ok (.iaload, 1) := by decide +kernel
theorem dL_law_383 : decode cL_law 383 = .ok (.aload_n 0, 1) := by decide +kernel
theorem dL_law_384 : decode cL_law 384 = .ok (.iload_n 3, 1) := by decide +kernel
theorem dL_law_385 : decode cL_law 385 = .ok (.iconst 4, 1) := by decide +kernel
theorem dL_law_386 : decode cL_law 386 = .ok (.iadd, 1) := by decide +kernel
theorem dL_law_387 : decode cL_law 387 = .ok (.iaload, 1) := by decide +kernel
theorem dL_law_388 : decode cL_law 388 = .ok (.invokevirtual 48, 3) := by decide +kernel
theorem dL_law_391 : decode cL_law 391 = .ok (.if_icmp .eq 409, 3) := by decide +kernel
theorem dL_law_394 : decode cL_law 394 = .ok (.iconst 0, 1) := by decide +kernel
theorem dL_law_395 : decode cL_law 395 = .ok (.ireturn, 1) := by decide +kernel
theorem dL_law_396 : decode cL_law 396 = .ok (.aload_n 1, 1) := by decide +kernel
theorem dL_law_397 : decode cL_law 397 = .ok (.aload_n 0, 1) := by decide +kernel
theorem dL_law_398 : decode cL_law 398 = .ok (.iload_n 3, 1) := by decide +kernel
theorem dL_law_399 : decode cL_law 399 = .ok (.iconst 1, 1) := by decide +kernel
theorem dL_law_400 : decode cL_law 400 = .ok (.iadd, 1) := by decide +kernel
theorem dL_law_401 : decode cL_law 401 = .ok (.iaload, 1) := by decide +kernel
theorem dL_law_402 : decode cL_law 402 = .ok (.invokevirtual 49, 3) := by decide +kernel
theorem dL_law_405 : decode cL_law 405 = .ok (.aload_n 2, 1) := by decide +kernel
theorem dL_law_406 : decode cL_law 406 = .ok (.aload_n 0, 1) := by decide +kernel
theorem dL_law_407 : decode cL_law 407 = .ok (.iload_n 3, 1) := by decide +kernel
theorem dL_law_408 : decode cL_law 408 = .ok (.iconst 1, 1) := by decide +kernel
theorem dL_law_409 : decode cL_law 409 = .ok (.iadd, 1) := by decide +kernel
theorem dL_law_410 : decode cL_law 410 = .ok (.iaload, 1) := by decide +kernel
theorem dL_law_411 : decode cL_law 411 = .ok (.invokevirtual 52, 3) := by decide +kernel
theorem dL_law_414 : decode cL_law 414 = .ok (.if_icmp .eq 386, 3) := by decide +kernel
theorem dL_law_417 : decode cL_law 417 = .ok (.iconst 0, 1) := by decide +kernel
theorem dL_law_418 : decode cL_law 418 = .ok (.ireturn, 1) := by decide +kernel
theorem dL_law_419 : decode cL_law 419 = .ok (.aload_n 1, 1) := by decide +kernel
theorem dL_law_420 : decode cL_law 420 = .ok (.invokevirtual 53, 3) := by decide +kernel
theorem dL_law_423 : decode cL_law 423 = .ok (.aload_n 2, 1) := by decide +kernel
theorem dL_law_424 : decode cL_law 424 = .ok (.invokevirtual 57, 3) := by decide +kernel
theorem dL_law_427 : decode cL_law 427 = .ok (.if_icmp .eq 373, 3) := by decide +kernel
theorem dL_law_430 : decode cL_law 430 = .ok (.iconst 0, 1) := by decide +kernel
theorem dL_law_431 : decode cL_law 431 = .ok (.ireturn, 1) := by decide +kernel
theorem dL_law_432 : decode cL_law 432 = .ok (.aload_n 1, 1) := by decide +kernel
theorem dL_law_433 : decode cL_law 433 = .ok (.aload_n 0, 1) := by decide +kernel
theorem dL_law_434 : decode cL_law 434 = .ok (.iload_n 3, 1) := by decide +kernel
theorem dL_law_435 : decode cL_law 435 = .ok (.iconst 1, 1) := by decide +kernel
theorem dL_law_436 : decode cL_law 436 = .ok (.iadd, 1) := by decide +kernel
theorem dL_law_437 : decode cL_law 437 = .ok (.iaload, 1) := by decide +kernel
theorem dL_law_438 : decode cL_law 438 = .ok (.invokevirtual 58, 3) := by decide +kernel
theorem dL_law_441 : decode cL_law 441 = .ok (.aload_n 2, 1) := by decide +kernel
theorem dL_law_442 : decode cL_law 442 = .ok (.aload_n 0, 1) := by decide +kernel
theorem dL_law_443 : decode cL_law 443 = .ok (.iload_n 3, 1) := by decide +kernel
theorem dL_law_444 : decode cL_law 444 = .ok (.iconst 1, 1) := by decide +kernel
theorem dL_law_445 : decode cL_law 445 = .ok (.iadd, 1) := by decide +kernel
theorem dL_law_446 : decode cL_law 446 = .ok (.iaload, 1) := by decide +kernel
theorem dL_law_447 : decode cL_law 447 = .ok (.invokevirtual 61, 3) := by decide +kernel
theorem dL_law_450 : decode cL_law 450 = .ok (.if_icmp .eq 350, 3) := by decide +kernel
theorem dL_law_453 : decode cL_law 453 = .ok (.iconst 0, 1) := by decide +kernel
theorem dL_law_454 : decode cL_law 454 = .ok (.ireturn, 1) := by decide +kernel
theorem dL_law_455 : decode cL_law 455 = .ok (.aload_n 1, 1) := by decide +kernel
theorem dL_law_456 : decode cL_law 456 = .ok (.aload_n 0, 1) := by decide +kernel
theorem dL_law_457 : decode cL_law 457 = .ok (.iload_n 3, 1) := by decide +kernel
theorem dL_law_458 : decode cL_law 458 = .ok (.iconst 1, 1) := by decide +kernel
theorem dL_law_459 : decode cL_law 459 = .ok (.iadd, 1) := by decide +kernel
theorem dL_law_460 : decode cL_law 460 = .ok (.iaload, 1) := by decide +kernel
theorem dL_law_461 : decode cL_law 461 = .ok (.invokevirtual 62, 3) := by decide +kernel
theorem dL_law_464 : decode cL_law 464 = .ok (.aload_n 2, 1) := by decide +kernel
theorem dL_law_465 : decode cL_law 465 = .ok (.aload_n 0, 1) := by decide +kernel
theorem dL_law_466 : decode cL_law 466 = .ok (.iload_n 3, 1) := by decide +kernel
theorem dL_law_467 : decode cL_law 467 = .ok (.iconst 1, 1) := by decide +kernel
theorem dL_law_468 : decode cL_law 468 = .ok (.iadd, 1) := by decide +kernel
theorem dL_law_469 : decode cL_law 469 = .ok (.iaload, 1) := by decide +kernel
theorem dL_law_470 : decode cL_law 470 = .ok (.invokevirtual 65, 3) := by decide +kernel
theorem dL_law_473 : decode cL_law 473 = .ok (.if_icmp .eq 327, 3) := by decide +kernel
theorem dL_law_476 : decode cL_law 476 = .ok (.iconst 0, 1) := by decide +kernel
theorem dL_law_477 : decode cL_law 477 = .ok (.ireturn, 1) := by decide +kernel
theorem dL_law_478 : decode cL_law 478 = .ok (.aload_n 1, 1) := by decide +kernel
theorem dL_law_479 : decode cL_law 479 = .ok (.invokevirtual 66, 3) := by decide +kernel
theorem dL_law_482 : decode cL_law 482 = .ok (.aload_n 2, 1) := by decide +kernel
theorem dL_law_483 : decode cL_law 483 = .ok (.invokevirtual 69, 3) := by decide +kernel
theorem dL_law_486 : decode cL_law 486 = .ok (.if_icmp .eq 314, 3) := by decide +kernel
theorem dL_law_489 : decode cL_law 489 = .ok (.iconst 0, 1) := by decide +kernel
theorem dL_law_490 : decode cL_law 490 = .ok (.ireturn, 1) := by decide +kernel
theorem dL_law_491 : decode cL_law 491 = .ok (.aload_n 1, 1) := by decide +kernel
theorem dL_law_492 : decode cL_law 492 = .ok (.aload_n 0, 1) := by decide +kernel
theorem dL_law_493 : decode cL_law 493 = .ok (.iload_n 3, 1) := by decide +kernel
theorem dL_law_494 : decode cL_law 494 = .ok (.iconst 1, 1) := by decide +kernel
theorem dL_law_495 : decode cL_law 495 = .ok (.iadd, 1) := by decide +kernel
theorem dL_law_496 : decode cL_law 496 = .ok (.iaload, 1) := by decide +kernel
theorem dL_law_497 : decode cL_law 497 = .ok (.invokevirtual 70, 3) := by decide +kernel
theorem dL_law_500 : decode cL_law 500 = .ok (.aload_n 2, 1) := by decide +kernel
theorem dL_law_501 : decode cL_law 501 = .ok (.aload_n 0, 1) := by decide +kernel
theorem dL_law_502 : decode cL_law 502 = .ok (.iload_n 3, 1) := by decide +kernel
theorem dL_law_503 : decode cL_law 503 = .ok (.iconst 1, 1) := by decide +kernel
theorem dL_law_504 : decode cL_law 504 = .ok (.iadd, 1) := by decide +kernel
theorem dL_law_505 : decode cL_law 505 = .ok (.iaload, 1) := by decide +kernel
theorem dL_law_506 : decode cL_law 506 = .ok (.invokevirtual 73, 3) := by decide +kernel
theorem dL_law_509 : decode cL_law 509 = .ok (.if_icmp .eq 291, 3) := by decide +kernel
theorem dL_law_512 : decode cL_law 512 = .ok (.iconst 0, 1) := by decide +kernel
theorem dL_law_513 : decode cL_law 513 = .ok (.ireturn, 1) := by decide +kernel
theorem dL_law_514 : decode cL_law 514 = .ok (.aload_n 1, 1) := by decide +kernel
theorem dL_law_515 : decode cL_law 515 = .ok (.aload_n 0, 1) := by decide +kernel
theorem dL_law_516 : decode cL_law 516 = .ok (.iload_n 3, 1) := by decide +kernel
theorem dL_law_517 : decode cL_law 517 = .ok (.iconst 1, 1) := by decide +kernel
theorem dL_law_518 : decode cL_law 518 = .ok (.iadd, 1) := by decide +kernel
theorem dL_law_519 : decode cL_law 519 = .ok (.iaload, 1) := by decide +kernel
theorem dL_law_520 : decode cL_law 520 = .ok (.invokevirtual 74, 3) := by decide +kernel
theorem dL_law_523 : decode cL_law 523 = .ok (.aload_n 2, 1) := by decide +kernel
theorem dL_law_524 : decode cL_law 524 = .ok (.aload_n 0, 1) := by decide +kernel
theorem dL_law_525 : decode cL_law 525 = .ok (.iload_n 3, 1) := by decide +kernel
theorem dL_law_526 : decode cL_law 526 = .ok (.iconst 1, 1) := by decide +kernel
theorem dL_law_527 : decode cL_law 527 = .ok (.iadd, 1) := by decide +kernel
theorem dL_law_528 : decode cL_law 528 = .ok (.iaload, 1) := by decide +kernel
theorem dL_law_529 : decode cL_law 529 = .ok (.invokevirtual 77, 3) := by decide +kernel
theorem dL_law_532 : decode cL_law 532 = .ok (.if_icmp .eq 268, 3) := by decide +kernel
theorem dL_law_535 : decode cL_law 535 = .ok (.iconst 0, 1) := by decide +kernel
theorem dL_law_536 : decode cL_law 536 = .ok (.ireturn, 1) := by decide +kernel
theorem dL_law_537 : decode cL_law 537 = .ok (.aload_n 1, 1) := by decide +kernel
theorem dL_law_538 : decode cL_law 538 = .ok (.aload_n 0, 1) := by decide +kernel
theorem dL_law_539 : decode cL_law 539 = .ok (.iload_n 3, 1) := by decide +kernel
theorem dL_law_540 : decode cL_law 540 = .ok (.iconst 1, 1) := by decide +kernel
theorem dL_law_541 : decode cL_law 541 = .ok (.iadd, 1) := by decide +kernel
theorem dL_law_542 : decode cL_law 542 = .ok (.iaload, 1) := by decide +kernel
theorem dL_law_543 : decode cL_law 543 = .ok (.aload_n 0, 1) := by decide +kernel
theorem dL_law_544 : decode cL_law 544 = .ok (.iload_n 3, 1) := by decide +kernel
theorem dL_law_545 : decode cL_law 545 = .ok (.iconst 2, 1) := by decide +kernel
theorem dL_law_546 : decode cL_law 546 = .ok (.iadd, 1) := by decide +kernel
theorem dL_law_547 : decode cL_law 547 = .ok (.iaload, 1) := by decide +kernel
theorem dL_law_548 : decode cL_law 548 = .ok (.invokevirtual 78, 3) := by decide +kernel
theorem dL_law_551 : decode cL_law 551 = .ok (.aload_n 2, 1) := by decide +kernel
theorem dL_law_552 : decode cL_law 552 = .ok (.aload_n 0, 1) := by decide +kernel
theorem dL_law_553 : decode cL_law 553 = .ok (.iload_n 3, 1) := by decide +kernel
theorem dL_law_554 : decode cL_law 554 = .ok (.iconst 1, 1) := by decide +kernel
theorem dL_law_555 : decode cL_law 555 = .ok (.iadd, 1) := by decide +kernel
theorem dL_law_556 : decode cL_law 556 = .ok (.iaload, 1) := by decide +kernel
theorem dL_law_557 : decode cL_law 557 = .ok (.aload_n 0, 1) := by decide +kernel
theorem dL_law_558 : decode cL_law 558 = .ok (.iload_n 3, 1) := by decide +kernel
theorem dL_law_559 : decode cL_law 559 = .ok (.iconst 2, 1) := by decide +kernel
theorem dL_law_560 : decode cL_law 560 = .ok (.iadd, 1) := by decide +kernel
theorem dL_law_561 : decode cL_law 561 = .ok (.iaload, 1) := by decide +kernel
theorem dL_law_562 : decode cL_law 562 = .ok (.invokevirtual 81, 3) := by decide +kernel
theorem dL_law_565 : decode cL_law 565 = .ok (.if_icmp .eq 235, 3) := by decide +kernel
theorem dL_law_568 : decode cL_law 568 = .ok (.iconst 0, 1) := by decide +kernel
theorem dL_law_569 : decode cL_law 569 = .ok (.ireturn, 1) := by decide +kernel
theorem dL_law_570 : decode cL_law 570 = .ok (.aload_n 1, 1) := by decide +kernel
theorem dL_law_571 : decode cL_law 571 = .ok (.aload_n 0, 1) := by decide +kernel
theorem dL_law_572 : decode cL_law 572 = .ok (.iload_n 3, 1) := by decide +kernel
theorem dL_law_573 : decode cL_law 573 = .ok (.iconst 1, 1) := by decide +kernel
theorem dL_law_574 : decode cL_law 574 = .ok (.iadd, 1) := by decide +kernel
theorem dL_law_575 : decode cL_law 575 = .ok (.iaload, 1) := by decide +kernel
theorem dL_law_576 : decode cL_law 576 = .ok (.aload_n 0, 1) := by decide +kernel
theorem dL_law_577 : decode cL_law 577 = .ok (.iload_n 3, 1) := by decide +kernel
theorem dL_law_578 : decode cL_law 578 = .ok (.iconst 2, 1) := by decide +kernel
theorem dL_law_579 : decode cL_law 579 = .ok (.iadd, 1) := by decide +kernel
theorem dL_law_580 : decode cL_law 580 = .ok (.iaload, 1) := by decide +kernel
theorem dL_law_581 : decode cL_law 581 = .ok (.invokevirtual 82, 3) := by decide +kernel
theorem dL_law_584 : decode cL_law 584 = .ok (.aload_n 2, 1) := by decide +kernel
theorem dL_law_585 : decode cL_law 585 = .ok (.aload_n 0, 1) := by decide +kernel
theorem dL_law_586 : decode cL_law 586 = .ok (.iload_n 3, 1) := by decide +kernel
theorem dL_law_587 : decode cL_law 587 = .ok (.iconst 1, 1) := by decide +kernel
theorem dL_law_588 : decode cL_law 588 = .ok (.iadd, 1) := by decide +kernel
theorem dL_law_589 : decode cL_law 589 = .ok (.iaload, 1) := by decide +kernel
theorem dL_law_590 : decode cL_law 590 = .ok (.aload_n 0, 1) := by decide +kernel
theorem dL_law_591 : decode cL_law 591 = .ok (.iload_n 3, 1) := by decide +kernel
theorem dL_law_592 : decode cL_law 592 = .ok (.iconst 2, 1) := by decide +kernel
theorem dL_law_593 : decode cL_law 593 = .ok (.iadd, 1) := by decide +kernel
theorem dL_law_594 : decode cL_law 594 = .ok (.iaload, 1) := by decide +kernel
theorem dL_law_595 : decode cL_law 595 = .ok (.invokevirtual 85, 3) := by decide +kernel
theorem dL_law_598 : decode cL_law 598 = .ok (.if_icmp .eq 202, 3) := by decide +kernel
theorem dL_law_601 : decode cL_law 601 = .ok (.iconst 0, 1) := by decide +kernel
theorem dL_law_602 : decode cL_law 602 = .ok (.ireturn, 1) := by decide +kernel
theorem dL_law_603 : decode cL_law 603 = .ok (.aload_n 1, 1) := by decide +kernel
theorem dL_law_604 : decode cL_law 604 = .ok (.aload_n 0, 1) := by decide +kernel
theorem dL_law_605 : decode cL_law 605 = .ok (.iload_n 3, 1) := by decide +kernel
theorem dL_law_606 : decode cL_law 606 = .ok (.iconst 1, 1) := by decide +kernel
theorem dL_law_607 : decode cL_law 607 = .ok (.iadd, 1) := by decide +kernel
theorem dL_law_608 : decode cL_law 608 = .ok (.iaload, 1) := by decide +kernel
theorem dL_law_609 : decode cL_law 609 = .ok (.aload_n 0, 1) := by decide +kernel
theorem dL_law_610 : decode cL_law 610 = .ok (.iload_n 3, 1) := by decide +kernel
theorem dL_law_611 : decode cL_law 611 = .ok (.iconst 2, 1) := by decide +kernel
theorem dL_law_612 : decode cL_law 612 = .ok (.iadd, 1) := by decide +kernel
theorem dL_law_613 : decode cL_law 613 = .ok (.iaload, 1) := by decide +kernel
theorem dL_law_614 : decode cL_law 614 = .ok (.invokevirtual 86, 3) := by decide +kernel
theorem dL_law_617 : decode cL_law 617 = .ok (.aload_n 2, 1) := by decide +kernel
theorem dL_law_618 : decode cL_law 618 = .ok (.aload_n 0, 1) := by decide +kernel
theorem dL_law_619 : decode cL_law 619 = .ok (.iload_n 3, 1) := by decide +kernel
theorem dL_law_620 : decode cL_law 620 = .ok (.iconst 1, 1) := by decide +kernel
theorem dL_law_621 : decode cL_law 621 = .ok (.iadd, 1) := by decide +kernel
theorem dL_law_622 : decode cL_law 622 = .ok (.iaload, 1) := by decide +kernel
theorem dL_law_623 : decode cL_law 623 = .ok (.aload_n 0, 1) := by decide +kernel
theorem dL_law_624 : decode cL_law 624 = .ok (.iload_n 3, 1) := by decide +kernel
theorem dL_law_625 : decode cL_law 625 = .ok (.iconst 2, 1) := by decide +kernel
theorem dL_law_626 : decode cL_law 626 = .ok (.iadd, 1) := by decide +kernel
theorem dL_law_627 : decode cL_law 627 = .ok (.iaload, 1) := by decide +kernel
theorem dL_law_628 : decode cL_law 628 = .ok (.invokevirtual 89, 3) := by decide +kernel
theorem dL_law_631 : decode cL_law 631 = .ok (.if_icmp .eq 169, 3) := by decide +kernel
theorem dL_law_634 : decode cL_law 634 = .ok (.iconst 0, 1) := by decide +kernel
theorem dL_law_635 : decode cL_law 635 = .ok (.ireturn, 1) := by decide +kernel
theorem dL_law_636 : decode cL_law 636 = .ok (.aload_n 1, 1) := by decide +kernel
theorem dL_law_637 : decode cL_law 637 = .ok (.aload_n 0, 1) := by decide +kernel
theorem dL_law_638 : decode cL_law 638 = .ok (.iload_n 3, 1) := by decide +kernel
theorem dL_law_639 : decode cL_law 639 = .ok (.iconst 1, 1) := by decide +kernel
theorem dL_law_640 : decode cL_law 640 = .ok (.iadd, 1) := by decide +kernel
theorem dL_law_641 : decode cL_law 641 = .ok (.iaload, 1) := by decide +kernel
theorem dL_law_642 : decode cL_law 642 = .ok (.invokevirtual 90, 3) := by decide +kernel
theorem dL_law_645 : decode cL_law 645 = .ok (.aload_n 2, 1) := by decide +kernel
theorem dL_law_646 : decode cL_law 646 = .ok (.aload_n 0, 1) := by decide +kernel
theorem dL_law_647 : decode cL_law 647 = .ok (.iload_n 3, 1) := by decide +kernel
theorem dL_law_648 : decode cL_law 648 = .ok (.iconst 1, 1) := by decide +kernel
theorem dL_law_649 : decode cL_law 649 = .ok (.iadd, 1) := by decide +kernel
theorem dL_law_650 : decode cL_law 650 = .ok (.iaload, 1) := by decide +kernel
theorem dL_law_651 : decode cL_law 651 = .ok (.invokevirtual 93, 3) := by decide +kernel
theorem dL_law_654 : decode cL_law 654 = .ok (.if_icmp .eq 146, 3) := by decide +kernel
theorem dL_law_657 : decode cL_law 657 = .ok (.iconst 0, 1) := by decide +kernel
theorem dL_law_658 : decode cL_law 658 = .ok (.ireturn, 1) := by decide +kernel
theorem dL_law_659 : decode cL_law 659 = .ok (.aload_n 1, 1) := by decide +kernel
theorem dL_law_660 : decode cL_law 660 = .ok (.invokevirtual 94, 3) := by decide +kernel
theorem dL_law_663 : decode cL_law 663 = .ok (.aload_n 2, 1) := by decide +kernel
theorem dL_law_664 : decode cL_law 664 = .ok (.invokevirtual 97, 3) := by decide +kernel
theorem dL_law_667 : decode cL_law 667 = .ok (.if_icmp .eq 133, 3) := by decide +kernel
theorem dL_law_670 : decode cL_law 670 = .ok (.iconst 0, 1) := by decide +kernel
theorem dL_law_671 : decode cL_law 671 = .ok (.ireturn, 1) := by decide +kernel
theorem dL_law_672 : decode cL_law 672 = .ok (.aload_n 1, 1) := by decide +kernel
theorem dL_law_673 : decode cL_law 673 = .ok (.aload_n 0, 1) := by decide +kernel
theorem dL_law_674 : decode cL_law 674 = .ok (.iload_n 3, 1) := by decide +kernel
theorem dL_law_675 : decode cL_law 675 = .ok (.iconst 1, 1) := by decide +kernel
theorem dL_law_676 : decode cL_law 676 = .ok (.iadd, 1) := by decide +kernel
theorem dL_law_677 : decode cL_law 677 = .ok (.iaload, 1) := by decide +kernel
theorem dL_law_678 : decode cL_law 678 = .ok (.aload_n 0, 1) := by decide +kernel
theorem dL_law_679 : decode cL_law 679 = .ok (.iload_n 3, 1) := by decide +kernel
theorem dL_law_680 : decode cL_law 680 = .ok (.iconst 2, 1) := by decide +kernel
theorem dL_law_681 : decode cL_law 681 = .ok (.iadd, 1) := by decide +kernel
theorem dL_law_682 : decode cL_law 682 = .ok (.iaload, 1) := by decide +kernel
theorem dL_law_683 : decode cL_law 683 = .ok (.invokevirtual 98, 3) := by decide +kernel
theorem dL_law_686 : decode cL_law 686 = .ok (.aload_n 2, 1) := by decide +kernel
theorem dL_law_687 : decode cL_law 687 = .ok (.aload_n 0, 1) := by decide +kernel
theorem dL_law_688 : decode cL_law 688 = .ok (.iload_n 3, 1) := by decide +kernel
theorem dL_law_689 : decode cL_law 689 = .ok (.iconst 1, 1) := by decide +kernel
theorem dL_law_690 : decode cL_law 690 = .ok (.iadd, 1) := by decide +kernel
theorem dL_law_691 : decode cL_law 691 = .ok (.iaload, 1) := by decide +kernel
theorem dL_law_692 : decode cL_law 692 = .ok (.aload_n 0, 1) := by decide +kernel
theorem dL_law_693 : decode cL_law 693 = .ok (.iload_n 3, 1) := by decide +kernel
theorem dL_law_694 : decode cL_law 694 = .ok (.iconst 2, 1) := by decide +kernel
theorem dL_law_695 : decode cL_law 695 = .ok (.iadd, 1) := by decide +kernel
theorem dL_law_696 : decode cL_law 696 = .ok (.iaload, 1) := by decide +kernel
theorem dL_law_697 : decode cL_law 697 = .ok (.invokevirtual 101, 3) := by decide +kernel
theorem dL_law_700 : decode cL_law 700 = .ok (.if_icmp .eq 100, 3) := by decide +kernel
theorem dL_law_703 : decode cL_law 703 = .ok (.iconst 0, 1) := by decide +kernel
theorem dL_law_704 : decode cL_law 704 = .ok (.ireturn, 1) := by decide +kernel
theorem dL_law_705 : decode cL_law 705 = .ok (.aload_n 1, 1) := by decide +kernel
theorem dL_law_706 : decode cL_law 706 = .ok (.invokevirtual 102, 3) := by decide +kernel
theorem dL_law_709 : decode cL_law 709 = .ok (.aload_n 2, 1) := by decide +kernel
theorem dL_law_710 : decode cL_law 710 = .ok (.invokevirtual 105, 3) := by decide +kernel
theorem dL_law_713 : decode cL_law 713 = .ok (.if_icmp .eq 87, 3) := by decide +kernel
theorem dL_law_716 : decode cL_law 716 = .ok (.iconst 0, 1) := by decide +kernel
theorem dL_law_717 : decode cL_law 717 = .ok (.ireturn, 1) := by decide +kernel
theorem dL_law_718 : decode cL_law 718 = .ok (.aload_n 1, 1) := by decide +kernel
theorem dL_law_719 : decode cL_law 719 = .ok (.invokevirtual 106, 3) := by decide +kernel
theorem dL_law_722 : decode cL_law 722 = .ok (.aload_n 2, 1) := by decide +kernel
theorem dL_law_723 : decode cL_law 723 = .ok (.invokevirtual 109, 3) := by decide +kernel
theorem dL_law_726 : decode cL_law 726 = .ok (.if_icmp .eq 74, 3) := by decide +kernel
theorem dL_law_729 : decode cL_law 729 = .ok (.iconst 0, 1) := by decide +kernel
theorem dL_law_730 : decode cL_law 730 = .ok (.ireturn, 1) := by decide +kernel
theorem dL_law_731 : decode cL_law 731 = .ok (.aload_n 1, 1) := by decide +kernel
theorem dL_law_732 : decode cL_law 732 = .ok (.aload_n 0, 1) := by decide +kernel
theorem dL_law_733 : decode cL_law 733 = .ok (.iload_n 3, 1) := by decide +kernel
theorem dL_law_734 : decode cL_law 734 = .ok (.iconst 1, 1) := by decide +kernel
theorem dL_law_735 : decode cL_law 735 = .ok (.iadd, 1) := by decide +kernel
theorem dL_law_736 : decode cL_law 736 = .ok (.iaload, 1) := by decide +kernel
theorem dL_law_737 : decode cL_law 737 = .ok (.invokevirtual 110, 3) := by decide +kernel
theorem dL_law_740 : decode cL_law 740 = .ok (.aload_n 2, 1) := by decide +kernel
theorem dL_law_741 : decode cL_law 741 = .ok (.aload_n 0, 1) := by decide +kernel
theorem dL_law_742 : decode cL_law 742 = .ok (.iload_n 3, 1) := by decide +kernel
theorem dL_law_743 : decode cL_law 743 = .ok (.iconst 1, 1) := by decide +kernel
theorem dL_law_744 : decode cL_law 744 = .ok (.iadd, 1) := by decide +kernel
theorem dL_law_745 : decode cL_law 745 = .ok (.iaload, 1) := by decide +kernel
theorem dL_law_746 : decode cL_law 746 = .ok (.invokevirtual 113, 3) := by decide +kernel
theorem dL_law_749 : decode cL_law 749 = .ok (.if_icmp .eq 51, 3) := by decide +kernel
theorem dL_law_752 : decode cL_law 752 = .ok (.iconst 0, 1) := by decide +kernel
theorem dL_law_753 : decode cL_law 753 = .ok (.ireturn, 1) := by decide +kernel
theorem dL_law_754 : decode cL_law 754 = .ok (.aload_n 1, 1) := by decide +kernel
theorem dL_law_755 : decode cL_law 755 = .ok (.aload_n 0, 1) := by decide +kernel
theorem dL_law_756 : decode cL_law 756 = .ok (.iload_n 3, 1) := by decide +kernel
theorem dL_law_757 : decode cL_law 757 = .ok (.iconst 1, 1) := by decide +kernel
theorem dL_law_758 : decode cL_law 758 = .ok (.iadd, 1) := by decide +kernel
theorem dL_law_759 : decode cL_law 759 = .ok (.iaload, 1) := by decide +kernel
theorem dL_law_760 : decode cL_law 760 = .ok (.invokevirtual 114, 3) := by decide +kernel
theorem dL_law_763 : decode cL_law 763 = .ok (.aload_n 2, 1) := by decide +kernel
theorem dL_law_764 : decode cL_law 764 = .ok (.aload_n 0, 1) := by decide +kernel
theorem dL_law_765 : decode cL_law 765 = .ok (.iload_n 3, 1) := by decide +kernel
theorem dL_law_766 : decode cL_law 766 = .ok (.iconst 1, 1) := by decide +kernel
theorem dL_law_767 : decode cL_law 767 = .ok (.iadd, 1) := by decide +kernel
theorem dL_law_768 : decode cL_law 768 = .ok (.iaload, 1) := by decide +kernel
theorem dL_law_769 : decode cL_law 769 = .ok (.invokevirtual 117, 3) := by decide +kernel
theorem dL_law_772 : decode cL_law 772 = .ok (.if_icmp .eq 28, 3) := by decide +kernel
theorem dL_law_775 : decode cL_law 775 = .ok (.iconst 0, 1) := by decide +kernel
theorem dL_law_776 : decode cL_law 776 = .ok (.ireturn, 1) := by decide +kernel
theorem dL_law_777 : decode cL_law 777 = .ok (.aload_n 1, 1) := by decide +kernel
theorem dL_law_778 : decode cL_law 778 = .ok (.aload_n 0, 1) := by decide +kernel
theorem dL_law_779 : decode cL_law 779 = .ok (.iload_n 3, 1) := by decide +kernel
theorem dL_law_780 : decode cL_law 780 = .ok (.iconst 1, 1) := by decide +kernel
theorem dL_law_781 : decode cL_law 781 = .ok (.iadd, 1) := by decide +kernel
theorem dL_law_782 : decode cL_law 782 = .ok (.iaload, 1) := by decide +kernel
theorem dL_law_783 : decode cL_law 783 = .ok (.invokevirtual 118, 3) := by decide +kernel
theorem dL_law_786 : decode cL_law 786 = .ok (.aload_n 2, 1) := by decide +kernel
theorem dL_law_787 : decode cL_law 787 = .ok (.aload_n 0, 1) := by decide +kernel
theorem dL_law_788 : decode cL_law 788 = .ok (.iload_n 3, 1) := by decide +kernel
theorem dL_law_789 : decode cL_law 789 = .ok (.iconst 1, 1) := by decide +kernel
theorem dL_law_790 : decode cL_law 790 = .ok (.iadd, 1) := by decide +kernel
theorem dL_law_791 : decode cL_law 791 = .ok (.iaload, 1) := by decide +kernel
theorem dL_law_792 : decode cL_law 792 = .ok (.invokevirtual 121, 3) := by decide +kernel
theorem dL_law_795 : decode cL_law 795 = .ok (.if_icmp .eq 5, 3) := by decide +kernel
theorem dL_law_798 : decode cL_law 798 = .ok (.iconst 0, 1) := by decide +kernel
theorem dL_law_799 : decode cL_law 799 = .ok (.ireturn, 1) := by decide +kernel
theorem dL_law_800 : decode cL_law 800 = .ok (.iinc 3 5, 3) := by decide +kernel
theorem dL_law_803 : decode cL_law 803 = .ok (.goto (-785), 3) := by decide +kernel
theorem dL_law_806 : decode cL_law 806 = .ok (.iconst 1, 1) := by decide +kernel
theorem dL_law_807 : decode cL_law 807 = .ok (.ireturn, 1) := by decide +kernel
end
section
/-! A calculus of places: 'At X k n pc ws lv st': from the place pc, with the cells ws, the locals lv and the stack st, and k cells of n slots made so far, the run of the context X comes to its end. -/
abbrev qX : Type := (Program × Launch × Env × Room) × (State × MethodId × Array Value × List Frame) × (Method × Code × (Nat → Prop) × (State → Prop)) × (va_G × (ClassId × ClassId × ClassId))
def qN (U : State) : Prop := va_AO "FrameClocks$State" U ∧ va_Nw (.methodLinkNest RX8 9 yX4_init RX8) U ∧ va_Nw (.methodLinkNest RX8 18 yX1_init RX8) U ∧ va_Nw (.methodLinkNest RX8 29 yX0_init RX8) U ∧ va_Nw (.methodLinkNest RX1 25 yX4_init RX8) U ∧ va_Nw (.methodLinkNest RX4 15 yX5_init RX8) U ∧ va_Nw (.methodLinkNest RX4 22 yX3_init RX8) U ∧ va_Nw (.methodLinkNest RX4 29 yX6_init RX8) U ∧ va_Nw (.methodLinkNest RX4 36 yX0_init RX8) U
theorem qN.warm {s U : State} (hW : s.WarmedH U.vm) (h : qN s) : qN U := by
  obtain ⟨h0, h1, h2, h3, h4, h5, h6, h7, h8⟩ := h
  exact ⟨va_AO.moved hW.alike h0, va_Nw.warmM hW h1, va_Nw.warmM hW h2, va_Nw.warmM hW h3, va_Nw.warmM hW h4, va_Nw.warmM hW h5, va_Nw.warmM hW h6, va_Nw.warmM hW h7, va_Nw.warmM hW h8⟩
theorem qN.same {u U : State} (hv : u.vm = U.vm) (h : qN u) : qN U := by
  obtain ⟨h0, h1, h2, h3, h4, h5, h6, h7, h8⟩ := h
  exact ⟨va_AO.moved (by rw [hv]; exact Vm.Alike.refl _) h0, va_Nw.same rfl hv h1, va_Nw.same rfl hv h2, va_Nw.same rfl hv h3, va_Nw.same rfl hv h4, va_Nw.same rfl hv h5, va_Nw.same rfl hv h6, va_Nw.same rfl hv h7, va_Nw.same rfl hv h8⟩
/-- the array classes that there are -/
abbrev qT (z : ClassId × ClassId × ClassId) : List (ClassId × FieldType) := [(z.1, .int), (z.2.1, .boolean), (z.2.2, .object "FrameClocks$State")]
def qK (D : va_G) (z : ClassId × ClassId × ClassId) (U : State) : Prop := va_K D vwCl (qT z) U ∧ qN U
theorem qK.warm {D : va_G} {z : ClassId × ClassId × ClassId} {s U : State} (hW : s.WarmedH U.vm) (h : qK D z s) : qK D z U := ⟨va_K.moved hW.alike h.1, h.2.warm hW⟩
theorem qK.same {D : va_G} {z : ClassId × ClassId × ClassId} {u U : State} (hv : u.vm = U.vm) (h : qK D z u) : qK D z U := ⟨va_K.moved (by rw [hv]; exact Vm.Alike.refl _) h.1, h.2.same hv⟩
def qP (D : va_G) (z : ClassId × ClassId × ClassId) (av : List Value) (w0 : va_W) (sz : Nat) : Array Value → State → Prop := va_Pc av (fun U => U.heap.size = sz ∧ va_P D vwCl w0 U.heap ∧ qK D z U ∧ va_D (fun _ => True) w0)
def qQ (D : va_G) (Po : Option Value → va_W → Prop) (A : Nat → Prop) : Array Value → State → Outcome → State → Prop := fun _ st oc t => ∃ (r : Option Value) (w1 : va_W), oc = .returned r ∧ Po r w1 ∧ va_P D vwCl w1 t.heap ∧ va_D A w1 ∧ va_F A st t
/-- a contract: from the cells w0 the method comes to an answer r and cells w1 with Po r w1 -/
def Ct (l : Launch) (D : va_G) (z : ClassId × ClassId × ClassId) (y : MethodName) (cc : ByteArray) (maxL : Nat) (ret : Option FieldType) (rm : Room) (av : List Value) (w0 : va_W) (Po : Option Value → va_W → Prop) : Prop := ∀ sz : Nat, Met l y (Cond.code y cc maxL ret :: wB) rm (qP D z av w0 sz) (qQ D Po (va_A w0 sz)) rm.cells rm.slots (va_A w0 sz)
def At (X : qX) (k n : Nat) (pc : Nat) (ws : va_W) (lv : List (Nat × Value)) (st : List Value) : Prop :=
  ∀ (H : Heap) (locs : List Loc) (ls : Array Slot), va_P X.2.2.2.1 vwCl ws H → va_D X.2.2.1.2.2.1 ws → va_S X.2.2.1.2.2.1 X.2.1.1.heap H locs → lv_has ls X.2.2.1.2.1.maxLocals lv →
    W X.1.1 X.1.2.1 X.1.2.2.1 X.1.2.2.2 X.2.1.1 X.2.1.2.1 X.2.1.2.2.1 X.2.1.2.2.2 X.2.2.1.1 X.2.2.1.2.1 H locs k n X.2.2.1.2.2.2 (F0 X.2.1.2.1 pc ls st)
/-- the method's own facts: its room, code, locals, class, words, the tables, answer -/
def Ok (X : qX) (R0 : Room) (cc : ByteArray) (nL : Nat) (own : String) (ret : Option FieldType) : Prop :=
  X.1.1.tables.exec = Jvm.exec ∧ X.2.2.1.2.1.code = cc ∧ X.2.2.1.2.1.maxLocals = nL ∧ X.2.1.1.vm.findClass own = some X.2.1.2.1.cls ∧ (∀ w ∈ wB, w.before X.2.1.2.2.1 X.2.1.1 = true) ∧ qK X.2.2.2.1 X.2.2.2.2 X.2.1.1 ∧ (∀ q : Nat, X.2.1.1.heap.size ≤ q → X.2.2.1.2.2.1 q) ∧ X.2.2.1.1.sig.returnType = ret ∧ X.2.2.1.1.locks = false ∧ X.1.2.2.2 = R0
/-- the method's end: what it must come to -/
def Rt (X : qX) (mc ms : Nat) (Po : Option Value → va_W → Prop) : Prop := X.2.2.1.2.2.2 = MQ X.2.1.2.2.2 (qQ X.2.2.2.1 Po X.2.2.1.2.2.1) X.2.1.2.2.1 X.2.1.1 mc ms X.2.2.1.2.2.1
set_option maxHeartbeats 1000000 in
theorem Ct.of {l : Launch} {D : va_G} {z : ClassId × ClassId × ClassId} {y : MethodName} {rm : Room} {av : List Value} {w0 : va_W} {Po : Option Value → va_W → Prop} {cc : ByteArray} {maxL : Nat} {ret : Option FieldType}
    (hy : plainName y.cls = true) (hla : (lg_sl av).length ≤ maxL)
    (body : ∀ X : qX, Ok X rm cc maxL y.cls ret → X.1.2.1 = l → X.2.2.2 = (D, z) → X.2.2.1.1.name = y.name → Rt X rm.cells rm.slots Po → At X 0 0 0 w0 (lv_args 0 av) []) : Ct l D z y cc maxL ret rm av w0 Po := by
  intro sz
  refine Met.ofW (cc := cc) (maxL := maxL) (ret := ret) hy rfl ?_
  intro p e s m args below meth c s₁ B hml hv
  obtain ⟨rfl, hsz, hP, hK, hD0⟩ := hv
  subst hsz
  have hD := hD0.self (sz := s.heap.size)
  have hl := lv_entry av (n := maxL) hla
  rw [lg_entry_eq]
  have hts := atoms_spec (ws := Cond.code y cc maxL ret :: wB) B.pre
  have K := body ((p, l, e, rm), (s, m, av.toArray, below), (meth, c, va_A w0 s.heap.size, MQ below (qQ D Po (va_A w0 s.heap.size)) av.toArray s rm.cells rm.slots (va_A w0 s.heap.size)), (D, z))
    ⟨B.exec, B.bytes, hml, findClass_of_methodNamed B.named, fun w h => hts w (List.mem_cons_of_mem _ h), hK, fun q h => Or.inr h, B.returns, B.notSynchronized, rfl⟩ rfl rfl (name_of_methodNamed B.named B.method).1 rfl
  exact K s.heap [] _ hP hD va_S.rf (by show lv_has _ c.maxLocals _; rw [hml]; exact hl)
section QA
variable {X : qX} {R0 : Room} {cc : ByteArray} {nL : Nat} {own : String} {ret : Option FieldType} {k n pc pc' : Nat} {ws : va_W} {lv : List (Nat × Value)} {st : List Value}
theorem a_iconst (pc' : Nat) {v : Int32} {z : Int} (hC : Ok X R0 cc nL own ret) (hd : decode cc pc = .ok (.iconst z, 1)) (hp : pc + 1 = pc') (hv : Int32.ofInt z = v) (kk : At X k n pc' ws lv (.int v :: st)) : At X k n pc ws lv st := fun H locs ls hP hD hS hl => lv_iconst hC.1 hC.2.1 hd hv (by subst hp; exact kk H locs ls hP hD hS hl)
theorem a_bipush (pc' : Nat) {v : Int32} {z : Int} (hC : Ok X R0 cc nL own ret) (hd : decode cc pc = .ok (.bipush z, 2)) (hp : pc + 2 = pc') (hv : (Int8.ofInt z).toInt32 = v) (kk : At X k n pc' ws lv (.int v :: st)) : At X k n pc ws lv st := fun H locs ls hP hD hS hl => lv_bipush hC.1 hC.2.1 hd hv (by subst hp; exact kk H locs ls hP hD hS hl)
theorem a_sipush (pc' : Nat) {v : Int32} {z : Int} (hC : Ok X R0 cc nL own ret) (hd : decode cc pc = .ok (.sipush z, 3)) (hp : pc + 3 = pc') (hv : (Int16.ofInt z).toInt32 = v) (kk : At X k n pc' ws lv (.int v :: st)) : At X k n pc ws lv st := fun H locs ls hP hD hS hl => lv_sipush hC.1 hC.2.1 hd hv (by subst hp; exact kk H locs ls hP hD hS hl)
theorem a_lconst (pc' : Nat) {v : Int64} {z : Fin 2} (hC : Ok X R0 cc nL own ret) (hd : decode cc pc = .ok (.lconst z, 1)) (hp : pc + 1 = pc') (hv : Int64.ofNat (z : Nat) = v) (kk : At X k n pc' ws lv (.long v :: st)) : At X k n pc ws lv st := fun H locs ls hP hD hS hl => lv_lconst hC.1 hC.2.1 hd hv (by subst hp; exact kk H locs ls hP hD hS hl)
theorem a_ldc (pc' : Nat) {v : Int32} {i : Nat} (hC : Ok X R0 cc nL own ret) (hm : (Cond.constant own i v) ∈ wB) (hd : decode cc pc = .ok (.ldc i, 2)) (hp : pc + 2 = pc') (kk : At X k n pc' ws lv (.int v :: st)) : At X k n pc ws lv st := fun H locs ls hP hD hS hl => lv_ldc hC.1 hC.2.1 hC.2.2.2.1 (hC.2.2.2.2.1 _ hm) hd (by subst hp; exact kk H locs ls hP hD hS hl)
theorem a_ldcw (pc' : Nat) {v : Int32} {i : Nat} (hC : Ok X R0 cc nL own ret) (hm : (Cond.constant own i v) ∈ wB) (hd : decode cc pc = .ok (.ldc_w i, 3)) (hp : pc + 3 = pc') (kk : At X k n pc' ws lv (.int v :: st)) : At X k n pc ws lv st := fun H locs ls hP hD hS hl => lv_ldcw hC.1 hC.2.1 hC.2.2.2.1 (hC.2.2.2.2.1 _ hm) hd (by subst hp; exact kk H locs ls hP hD hS hl)
theorem a_ldc2 (pc' : Nat) {v : Int64} {i : Nat} (hC : Ok X R0 cc nL own ret) (hm : (Cond.constantLong own i v) ∈ wB) (hd : decode cc pc = .ok (.ldc2_w i, 3)) (hp : pc + 3 = pc') (kk : At X k n pc' ws lv (.long v :: st)) : At X k n pc ws lv st := fun H locs ls hP hD hS hl => lv_ldc2 hC.1 hC.2.1 hC.2.2.2.1 (hC.2.2.2.2.1 _ hm) hd (by subst hp; exact kk H locs ls hP hD hS hl)
theorem a_iload_n (pc' j : Nat) {i : Nat} {z : Fin 4} {x : Int32} (hC : Ok X R0 cc nL own ret) (hd : decode cc pc = .ok (.iload_n z, 1)) (hp : pc + 1 = pc') (hj : lv[j]? = some (i, .int x)) (hi : (z : Nat) = i) (kk : At X k n pc' ws lv (.int x :: st)) : At X k n pc ws lv st := fun H locs ls hP hD hS hl => lv_iload_n hC.1 hC.2.1 hd hi (lv_at hl j hj) (by subst hp; exact kk H locs ls hP hD hS hl)
theorem a_iload (pc' j : Nat) {i : Nat} {x : Int32} (hC : Ok X R0 cc nL own ret) (hd : decode cc pc = .ok (.iload i, 2)) (hp : pc + 2 = pc') (hj : lv[j]? = some (i, .int x)) (kk : At X k n pc' ws lv (.int x :: st)) : At X k n pc ws lv st := fun H locs ls hP hD hS hl => lv_iload hC.1 hC.2.1 hd (lv_at hl j hj) (by subst hp; exact kk H locs ls hP hD hS hl)
theorem a_lload_n (pc' j : Nat) {i : Nat} {z : Fin 4} {x : Int64} (hC : Ok X R0 cc nL own ret) (hd : decode cc pc = .ok (.lload_n z, 1)) (hp : pc + 1 = pc') (hj : lv[j]? = some (i, .long x)) (hi : (z : Nat) = i) (kk : At X k n pc' ws lv (.long x :: st)) : At X k n pc ws lv st := fun H locs ls hP hD hS hl => lv_lload_n hC.1 hC.2.1 hd hi (lv_at hl j hj) (by subst hp; exact kk H locs ls hP hD hS hl)
theorem a_lload (pc' j : Nat) {i : Nat} {x : Int64} (hC : Ok X R0 cc nL own ret) (hd : decode cc pc = .ok (.lload i, 2)) (hp : pc + 2 = pc') (hj : lv[j]? = some (i, .long x)) (kk : At X k n pc' ws lv (.long x :: st)) : At X k n pc ws lv st := fun H locs ls hP hD hS hl => lv_lload hC.1 hC.2.1 hd (lv_at hl j hj) (by subst hp; exact kk H locs ls hP hD hS hl)
theorem a_aload_n (pc' j : Nat) {i : Nat} {z : Fin 4} {x : Nat} (hC : Ok X R0 cc nL own ret) (hd : decode cc pc = .ok (.aload_n z, 1)) (hp : pc + 1 = pc') (hj : lv[j]? = some (i, .ref x)) (hi : (z : Nat) = i) (kk : At X k n pc' ws lv (.ref x :: st)) : At X k n pc ws lv st := fun H locs ls hP hD hS hl => lv_aload_n hC.1 hC.2.1 hd hi (lv_at hl j hj) (by subst hp; exact kk H locs ls hP hD hS hl)
theorem a_aload_nN (pc' j : Nat) {i : Nat} {z : Fin 4} (hC : Ok X R0 cc nL own ret) (hd : decode cc pc = .ok (.aload_n z, 1)) (hp : pc + 1 = pc') (hj : lv[j]? = some (i, .null)) (hi : (z : Nat) = i) (kk : At X k n pc' ws lv (.null :: st)) : At X k n pc ws lv st := fun H locs ls hP hD hS hl => lv_aload_nN hC.1 hC.2.1 hd hi (lv_at hl j hj) (by subst hp; exact kk H locs ls hP hD hS hl)
/-- where a local is stored: the new list picks its rows out of the computed one -/
theorem a_istore_n (pc' : Nat) (lv' : List (Nat × Value)) (ks : List Nat) {i : Nat} {z : Fin 4} {x : Int32} (hC : Ok X R0 cc nL own ret) (hd : decode cc pc = .ok (.istore_n z, 1)) (hp : pc + 1 = pc') (hi : (z : Nat) = i) (hn : i < nL) (hl' : lv_pick ((i, Value.int x) :: lv.filter (fun q => !(q.1 == i) && !(q.1 + 1 == i && q.2.category == 2))) ks = lv') (kk : At X k n pc' ws lv' st) : At X k n pc ws lv (.int x :: st) := fun H locs ls hP hD hS hl => lv_istore_n hC.1 hC.2.1 hd hi hl (by rw [hC.2.2.1]; exact hn) rfl (fun ls' h' => by subst hp; exact kk H locs ls' hP hD hS (lv_sub h' ks hl'))
theorem a_istore (pc' : Nat) (lv' : List (Nat × Value)) (ks : List Nat) {i : Nat} {x : Int32} (hC : Ok X R0 cc nL own ret) (hd : decode cc pc = .ok (.istore i, 2)) (hp : pc + 2 = pc') (hn : i < nL) (hl' : lv_pick ((i, Value.int x) :: lv.filter (fun q => !(q.1 == i) && !(q.1 + 1 == i && q.2.category == 2))) ks = lv') (kk : At X k n pc' ws lv' st) : At X k n pc ws lv (.int x :: st) := fun H locs ls hP hD hS hl => lv_istore hC.1 hC.2.1 hd hl (by rw [hC.2.2.1]; exact hn) rfl (fun ls' h' => by subst hp; exact kk H locs ls' hP hD hS (lv_sub h' ks hl'))
theorem a_lstore_n (pc' : Nat) (lv' : List (Nat × Value)) (ks : List Nat) {i : Nat} {z : Fin 4} {x : Int64} (hC : Ok X R0 cc nL own ret) (hd : decode cc pc = .ok (.lstore_n z, 1)) (hp : pc + 1 = pc') (hi : (z : Nat) = i) (hn : i + 1 < nL) (hl' : lv_pick ((i, Value.long x) :: lv.filter (fun q => !(q.1 == i) && (!(q.1 == i + 1) && !(q.1 + 1 == i && q.2.category == 2)))) ks = lv') (kk : At X k n pc' ws lv' st) : At X k n pc ws lv (.long x :: st) := fun H locs ls hP hD hS hl => lv_lstore_n hC.1 hC.2.1 hd hi hl (by rw [hC.2.2.1]; exact hn) rfl (fun ls' h' => by subst hp; exact kk H locs ls' hP hD hS (lv_sub h' ks hl'))
theorem a_lstore (pc' : Nat) (lv' : List (Nat × Value)) (ks : List Nat) {i : Nat} {x : Int64} (hC : Ok X R0 cc nL own ret) (hd : decode cc pc = .ok (.lstore i, 2)) (hp : pc + 2 = pc') (hn : i + 1 < nL) (hl' : lv_pick ((i, Value.long x) :: lv.filter (fun q => !(q.1 == i) && (!(q.1 == i + 1) && !(q.1 + 1 == i && q.2.category == 2)))) ks = lv') (kk : At X k n pc' ws lv' st) : At X k n pc ws lv (.long x :: st) := fun H locs ls hP hD hS hl => lv_lstore hC.1 hC.2.1 hd hl (by rw [hC.2.2.1]; exact hn) rfl (fun ls' h' => by subst hp; exact kk H locs ls' hP hD hS (lv_sub h' ks hl'))
theorem a_astore_n (pc' : Nat) (lv' : List (Nat × Value)) (ks : List Nat) {i : Nat} {z : Fin 4} {x : Nat} (hC : Ok X R0 cc nL own ret) (hd : decode cc pc = .ok (.astore_n z, 1)) (hp : pc + 1 = pc') (hi : (z : Nat) = i) (hn : i < nL) (hl' : lv_pick ((i, Value.ref x) :: lv.filter (fun q => !(q.1 == i) && !(q.1 + 1 == i && q.2.category == 2))) ks = lv') (kk : At X k n pc' ws lv' st) : At X k n pc ws lv (.ref x :: st) := fun H locs ls hP hD hS hl => lv_astore_n hC.1 hC.2.1 hd hi hl (by rw [hC.2.2.1]; exact hn) rfl (fun ls' h' => by subst hp; exact kk H locs ls' hP hD hS (lv_sub h' ks hl'))
theorem a_astore_nN (pc' : Nat) (lv' : List (Nat × Value)) (ks : List Nat) {i : Nat} {z : Fin 4} (hC : Ok X R0 cc nL own ret) (hd : decode cc pc = .ok (.astore_n z, 1)) (hp : pc + 1 = pc') (hi : (z : Nat) = i) (hn : i < nL) (hl' : lv_pick ((i, Value.null) :: lv.filter (fun q => !(q.1 == i) && !(q.1 + 1 == i && q.2.category == 2))) ks = lv') (kk : At X k n pc' ws lv' st) : At X k n pc ws lv (.null :: st) := fun H locs ls hP hD hS hl => lv_astore_nN hC.1 hC.2.1 hd hi hl (by rw [hC.2.2.1]; exact hn) rfl (fun ls' h' => by subst hp; exact kk H locs ls' hP hD hS (lv_sub h' ks hl'))
theorem a_iinc (pc' j : Nat) (lv' : List (Nat × Value)) (ks : List Nat) {i : Nat} {z : Int} {x v : Int32} (hC : Ok X R0 cc nL own ret) (hd : decode cc pc = .ok (.iinc i z, 3)) (hp : pc + 3 = pc') (hj : lv[j]? = some (i, .int x)) (hv : x + Int32.ofInt z = v) (hn : i < nL) (hl' : lv_pick ((i, Value.int v) :: lv.filter (fun q => !(q.1 == i) && !(q.1 + 1 == i && q.2.category == 2))) ks = lv') (kk : At X k n pc' ws lv' st) : At X k n pc ws lv st := fun H locs ls hP hD hS hl => lv_iinc hC.1 hC.2.1 hd hl hj hv (by rw [hC.2.2.1]; exact hn) rfl (fun ls' h' => by subst hp; exact kk H locs ls' hP hD hS (lv_sub h' ks hl'))
theorem a_iadd (pc' : Nat) {x y : Int32} (hC : Ok X R0 cc nL own ret) (hd : decode cc pc = .ok (.iadd, 1)) (hp : pc + 1 = pc') (kk : At X k n pc' ws lv (.int (x + y) :: st)) : At X k n pc ws lv (.int y :: .int x :: st) := fun H locs ls hP hD hS hl => lv_iadd hC.1 hC.2.1 hd (by subst hp; exact kk H locs ls hP hD hS hl)
theorem a_isub (pc' : Nat) {x y : Int32} (hC : Ok X R0 cc nL own ret) (hd : decode cc pc = .ok (.isub, 1)) (hp : pc + 1 = pc') (kk : At X k n pc' ws lv (.int (x - y) :: st)) : At X k n pc ws lv (.int y :: .int x :: st) := fun H locs ls hP hD hS hl => lv_isub hC.1 hC.2.1 hd (by subst hp; exact kk H locs ls hP hD hS hl)
theorem a_imul (pc' : Nat) {x y : Int32} (hC : Ok X R0 cc nL own ret) (hd : decode cc pc = .ok (.imul, 1)) (hp : pc + 1 = pc') (kk : At X k n pc' ws lv (.int (x * y) :: st)) : At X k n pc ws lv (.int y :: .int x :: st) := fun H locs ls hP hD hS hl => lv_imul hC.1 hC.2.1 hd (by subst hp; exact kk H locs ls hP hD hS hl)
theorem a_iand (pc' : Nat) {x y : Int32} (hC : Ok X R0 cc nL own ret) (hd : decode cc pc = .ok (.iand, 1)) (hp : pc + 1 = pc') (kk : At X k n pc' ws lv (.int (x &&& y) :: st)) : At X k n pc ws lv (.int y :: .int x :: st) := fun H locs ls hP hD hS hl => lv_iand hC.1 hC.2.1 hd (by subst hp; exact kk H locs ls hP hD hS hl)
theorem a_ior (pc' : Nat) {x y : Int32} (hC : Ok X R0 cc nL own ret) (hd : decode cc pc = .ok (.ior, 1)) (hp : pc + 1 = pc') (kk : At X k n pc' ws lv (.int (x ||| y) :: st)) : At X k n pc ws lv (.int y :: .int x :: st) := fun H locs ls hP hD hS hl => lv_ior hC.1 hC.2.1 hd (by subst hp; exact kk H locs ls hP hD hS hl)
theorem a_ixor (pc' : Nat) {x y : Int32} (hC : Ok X R0 cc nL own ret) (hd : decode cc pc = .ok (.ixor, 1)) (hp : pc + 1 = pc') (kk : At X k n pc' ws lv (.int (x ^^^ y) :: st)) : At X k n pc ws lv (.int y :: .int x :: st) := fun H locs ls hP hD hS hl => lv_ixor hC.1 hC.2.1 hd (by subst hp; exact kk H locs ls hP hD hS hl)
theorem a_idiv (pc' : Nat) {x y : Int32} (hC : Ok X R0 cc nL own ret) (hd : decode cc pc = .ok (.idiv, 1)) (hp : pc + 1 = pc') (h0 : ¬ y = 0) (kk : At X k n pc' ws lv (.int (x / y) :: st)) : At X k n pc ws lv (.int y :: .int x :: st) := fun H locs ls hP hD hS hl => lv_idiv hC.1 hC.2.1 hd h0 (by subst hp; exact kk H locs ls hP hD hS hl)
theorem a_irem (pc' : Nat) {x y : Int32} (hC : Ok X R0 cc nL own ret) (hd : decode cc pc = .ok (.irem, 1)) (hp : pc + 1 = pc') (h0 : ¬ y = 0) (kk : At X k n pc' ws lv (.int (x - x / y * y) :: st)) : At X k n pc ws lv (.int y :: .int x :: st) := fun H locs ls hP hD hS hl => lv_irem hC.1 hC.2.1 hd h0 (by subst hp; exact kk H locs ls hP hD hS hl)
theorem a_ineg (pc' : Nat) {x : Int32} (hC : Ok X R0 cc nL own ret) (hd : decode cc pc = .ok (.ineg, 1)) (hp : pc + 1 = pc') (kk : At X k n pc' ws lv (.int (-x) :: st)) : At X k n pc ws lv (.int x :: st) := fun H locs ls hP hD hS hl => lv_ineg hC.1 hC.2.1 hd (by subst hp; exact kk H locs ls hP hD hS hl)
theorem a_ishl (pc' : Nat) {x y : Int32} (hC : Ok X R0 cc nL own ret) (hd : decode cc pc = .ok (.ishl, 1)) (hp : pc + 1 = pc') (kk : At X k n pc' ws lv (.int (x <<< (y &&& 31)) :: st)) : At X k n pc ws lv (.int y :: .int x :: st) := fun H locs ls hP hD hS hl => lv_ishl hC.1 hC.2.1 hd (by subst hp; exact kk H locs ls hP hD hS hl)
def q_ushr (x y : Int32) : Int32 := (x.toUInt32 >>> (y.toUInt32 &&& Int32.toUInt32 31)).toInt32
theorem a_iushr (pc' : Nat) {x y : Int32} (hC : Ok X R0 cc nL own ret) (hd : decode cc pc = .ok (.iushr, 1)) (hp : pc + 1 = pc') (kk : At X k n pc' ws lv (.int (q_ushr x y) :: st)) : At X k n pc ws lv (.int y :: .int x :: st) := fun H locs ls hP hD hS hl => lv_iushr hC.1 hC.2.1 hd rfl (by subst hp; exact kk H locs ls hP hD hS hl)
def q_lushr (x : Int64) (y : Int32) : Int64 := (x.toUInt64 >>> (y.toInt64.toUInt64 &&& Int64.toUInt64 63)).toInt64
theorem a_lushr (pc' : Nat) {x : Int64} {y : Int32} (hC : Ok X R0 cc nL own ret) (hd : decode cc pc = .ok (.lushr, 1)) (hp : pc + 1 = pc') (kk : At X k n pc' ws lv (.long (q_lushr x y) :: st)) : At X k n pc ws lv (.int y :: .long x :: st) := fun H locs ls hP hD hS hl => lv_lushr hC.1 hC.2.1 hd rfl (by subst hp; exact kk H locs ls hP hD hS hl)
def q_lshl (x : Int64) (y : Int32) : Int64 := x <<< (y.toInt64 &&& 63)
theorem a_lshl (pc' : Nat) {x : Int64} {y : Int32} (hC : Ok X R0 cc nL own ret) (hd : decode cc pc = .ok (.lshl, 1)) (hp : pc + 1 = pc') (kk : At X k n pc' ws lv (.long (q_lshl x y) :: st)) : At X k n pc ws lv (.int y :: .long x :: st) := fun H locs ls hP hD hS hl => lv_lshl hC.1 hC.2.1 hd rfl (by subst hp; exact kk H locs ls hP hD hS hl)
theorem a_land (pc' : Nat) {x y : Int64} (hC : Ok X R0 cc nL own ret) (hd : decode cc pc = .ok (.land, 1)) (hp : pc + 1 = pc') (kk : At X k n pc' ws lv (.long (x &&& y) :: st)) : At X k n pc ws lv (.long y :: .long x :: st) := fun H locs ls hP hD hS hl => lv_land hC.1 hC.2.1 hd (by subst hp; exact kk H locs ls hP hD hS hl)
theorem a_lor (pc' : Nat) {x y : Int64} (hC : Ok X R0 cc nL own ret) (hd : decode cc pc = .ok (.lor, 1)) (hp : pc + 1 = pc') (kk : At X k n pc' ws lv (.long (x ||| y) :: st)) : At X k n pc ws lv (.long y :: .long x :: st) := fun H locs ls hP hD hS hl => lv_lor hC.1 hC.2.1 hd (by subst hp; exact kk H locs ls hP hD hS hl)
theorem a_i2l (pc' : Nat) {x : Int32} (hC : Ok X R0 cc nL own ret) (hd : decode cc pc = .ok (.i2l, 1)) (hp : pc + 1 = pc') (kk : At X k n pc' ws lv (.long x.toInt64 :: st)) : At X k n pc ws lv (.int x :: st) := fun H locs ls hP hD hS hl => lv_i2l hC.1 hC.2.1 hd rfl (by subst hp; exact kk H locs ls hP hD hS hl)
theorem a_l2i (pc' : Nat) {x : Int64} (hC : Ok X R0 cc nL own ret) (hd : decode cc pc = .ok (.l2i, 1)) (hp : pc + 1 = pc') (kk : At X k n pc' ws lv (.int x.toInt32 :: st)) : At X k n pc ws lv (.long x :: st) := fun H locs ls hP hD hS hl => lv_l2i hC.1 hC.2.1 hd rfl (by subst hp; exact kk H locs ls hP hD hS hl)
theorem a_dup (pc' : Nat) {v : Value} (hC : Ok X R0 cc nL own ret) (hd : decode cc pc = .ok (.dup, 1)) (hp : pc + 1 = pc') (hv : v.category = 1) (kk : At X k n pc' ws lv (v :: v :: st)) : At X k n pc ws lv (v :: st) := fun H locs ls hP hD hS hl => lv_dup hC.1 hC.2.1 hd hv (by subst hp; exact kk H locs ls hP hD hS hl)
theorem a_dup2 (pc' : Nat) {v w : Value} (hC : Ok X R0 cc nL own ret) (hd : decode cc pc = .ok (.dup2, 1)) (hp : pc + 1 = pc') (hv : v.category = 1) (hw : w.category = 1) (kk : At X k n pc' ws lv (v :: w :: v :: w :: st)) : At X k n pc ws lv (v :: w :: st) := fun H locs ls hP hD hS hl => lv_dup2_11 hC.1 hC.2.1 hd hv hw (by subst hp; exact kk H locs ls hP hD hS hl)
theorem a_goto (tgt : Nat) {off : Int} (hC : Ok X R0 cc nL own ret) (hd : decode cc pc = .ok (.goto off, 3)) (ht : (pc : Int) + off = (tgt : Int)) (kk : At X k n tgt ws lv st) : At X k n pc ws lv st := fun H locs ls hP hD hS hl => lv_goto hC.1 hC.2.1 hd ht (kk H locs ls hP hD hS hl)
theorem a_if_eq (tgt pc' : Nat) {off : Int} {x : Int32} (hC : Ok X R0 cc nL own ret) (hd : decode cc pc = .ok (.ifCond .eq off, 3)) (ht : (pc : Int) + off = (tgt : Int)) (hp : pc + 3 = pc') (kt : x = 0 → At X k n tgt ws lv st) (kf : ¬ x = 0 → At X k n pc' ws lv st) : At X k n pc ws lv (.int x :: st) := fun H locs ls hP hD hS hl => lv_if_eq hC.1 hC.2.1 hd ht (fun c => kt c H locs ls hP hD hS hl) (fun c => by subst hp; exact kf c H locs ls hP hD hS hl)
theorem a_if_ne (tgt pc' : Nat) {off : Int} {x : Int32} (hC : Ok X R0 cc nL own ret) (hd : decode cc pc = .ok (.ifCond .ne off, 3)) (ht : (pc : Int) + off = (tgt : Int)) (hp : pc + 3 = pc') (kt : ¬ x = 0 → At X k n tgt ws lv st) (kf : x = 0 → At X k n pc' ws lv st) : At X k n pc ws lv (.int x :: st) := fun H locs ls hP hD hS hl => lv_if_ne hC.1 hC.2.1 hd ht (fun c => kt c H locs ls hP hD hS hl) (fun c => by subst hp; exact kf c H locs ls hP hD hS hl)
theorem a_if_lt (tgt pc' : Nat) {off : Int} {x : Int32} (hC : Ok X R0 cc nL own ret) (hd : decode cc pc = .ok (.ifCond .lt off, 3)) (ht : (pc : Int) + off = (tgt : Int)) (hp : pc + 3 = pc') (kt : x < 0 → At X k n tgt ws lv st) (kf : ¬ x < 0 → At X k n pc' ws lv st) : At X k n pc ws lv (.int x :: st) := fun H locs ls hP hD hS hl => lv_if_lt hC.1 hC.2.1 hd ht (fun c => kt c H locs ls hP hD hS hl) (fun c => by subst hp; exact kf c H locs ls hP hD hS hl)
theorem a_if_ge (tgt pc' : Nat) {off : Int} {x : Int32} (hC : Ok X R0 cc nL own ret) (hd : decode cc pc = .ok (.ifCond .ge off, 3)) (ht : (pc : Int) + off = (tgt : Int)) (hp : pc + 3 = pc') (kt : 0 ≤ x → At X k n tgt ws lv st) (kf : ¬ 0 ≤ x → At X k n pc' ws lv st) : At X k n pc ws lv (.int x :: st) := fun H locs ls hP hD hS hl => lv_if_ge hC.1 hC.2.1 hd ht (fun c => kt c H locs ls hP hD hS hl) (fun c => by subst hp; exact kf c H locs ls hP hD hS hl)
theorem a_if_gt (tgt pc' : Nat) {off : Int} {x : Int32} (hC : Ok X R0 cc nL own ret) (hd : decode cc pc = .ok (.ifCond .gt off, 3)) (ht : (pc : Int) + off = (tgt : Int)) (hp : pc + 3 = pc') (kt : 0 < x → At X k n tgt ws lv st) (kf : ¬ 0 < x → At X k n pc' ws lv st) : At X k n pc ws lv (.int x :: st) := fun H locs ls hP hD hS hl => lv_if_gt hC.1 hC.2.1 hd ht (fun c => kt c H locs ls hP hD hS hl) (fun c => by subst hp; exact kf c H locs ls hP hD hS hl)
theorem a_if_le (tgt pc' : Nat) {off : Int} {x : Int32} (hC : Ok X R0 cc nL own ret) (hd : decode cc pc = .ok (.ifCond .le off, 3)) (ht : (pc : Int) + off = (tgt : Int)) (hp : pc + 3 = pc') (kt : x ≤ 0 → At X k n tgt ws lv st) (kf : ¬ x ≤ 0 → At X k n pc' ws lv st) : At X k n pc ws lv (.int x :: st) := fun H locs ls hP hD hS hl => lv_if_le hC.1 hC.2.1 hd ht (fun c => kt c H locs ls hP hD hS hl) (fun c => by subst hp; exact kf c H locs ls hP hD hS hl)
theorem a_icmp_eq (tgt pc' : Nat) {off : Int} {x y : Int32} (hC : Ok X R0 cc nL own ret) (hd : decode cc pc = .ok (.if_icmp .eq off, 3)) (ht : (pc : Int) + off = (tgt : Int)) (hp : pc + 3 = pc') (kt : x = y → At X k n tgt ws lv st) (kf : ¬ x = y → At X k n pc' ws lv st) : At X k n pc ws lv (.int y :: .int x :: st) := fun H locs ls hP hD hS hl => lv_icmp_eq hC.1 hC.2.1 hd ht (fun c => kt c H locs ls hP hD hS hl) (fun c => by subst hp; exact kf c H locs ls hP hD hS hl)
theorem a_icmp_ne (tgt pc' : Nat) {off : Int} {x y : Int32} (hC : Ok X R0 cc nL own ret) (hd : decode cc pc = .ok (.if_icmp .ne off, 3)) (ht : (pc : Int) + off = (tgt : Int)) (hp : pc + 3 = pc') (kt : ¬ x = y → At X k n tgt ws lv st) (kf : x = y → At X k n pc' ws lv st) : At X k n pc ws lv (.int y :: .int x :: st) := fun H locs ls hP hD hS hl => lv_icmp_ne hC.1 hC.2.1 hd ht (fun c => kt c H locs ls hP hD hS hl) (fun c => by subst hp; exact kf c H locs ls hP hD hS hl)
theorem a_icmp_lt (tgt pc' : Nat) {off : Int} {x y : Int32} (hC : Ok X R0 cc nL own ret) (hd : decode cc pc = .ok (.if_icmp .lt off, 3)) (ht : (pc : Int) + off = (tgt : Int)) (hp : pc + 3 = pc') (kt : x < y → At X k n tgt ws lv st) (kf : ¬ x < y → At X k n pc' ws lv st) : At X k n pc ws lv (.int y :: .int x :: st) := fun H locs ls hP hD hS hl => lv_icmp_lt hC.1 hC.2.1 hd ht (fun c => kt c H locs ls hP hD hS hl) (fun c => by subst hp; exact kf c H locs ls hP hD hS hl)
theorem a_icmp_ge (tgt pc' : Nat) {off : Int} {x y : Int32} (hC : Ok X R0 cc nL own ret) (hd : decode cc pc = .ok (.if_icmp .ge off, 3)) (ht : (pc : Int) + off = (tgt : Int)) (hp : pc + 3 = pc') (kt : y ≤ x → At X k n tgt ws lv st) (kf : ¬ y ≤ x → At X k n pc' ws lv st) : At X k n pc ws lv (.int y :: .int x :: st) := fun H locs ls hP hD hS hl => lv_icmp_ge hC.1 hC.2.1 hd ht (fun c => kt c H locs ls hP hD hS hl) (fun c => by subst hp; exact kf c H locs ls hP hD hS hl)
theorem a_icmp_gt (tgt pc' : Nat) {off : Int} {x y : Int32} (hC : Ok X R0 cc nL own ret) (hd : decode cc pc = .ok (.if_icmp .gt off, 3)) (ht : (pc : Int) + off = (tgt : Int)) (hp : pc + 3 = pc') (kt : y < x → At X k n tgt ws lv st) (kf : ¬ y < x → At X k n pc' ws lv st) : At X k n pc ws lv (.int y :: .int x :: st) := fun H locs ls hP hD hS hl => lv_icmp_gt hC.1 hC.2.1 hd ht (fun c => kt c H locs ls hP hD hS hl) (fun c => by subst hp; exact kf c H locs ls hP hD hS hl)
theorem a_icmp_le (tgt pc' : Nat) {off : Int} {x y : Int32} (hC : Ok X R0 cc nL own ret) (hd : decode cc pc = .ok (.if_icmp .le off, 3)) (ht : (pc : Int) + off = (tgt : Int)) (hp : pc + 3 = pc') (kt : x ≤ y → At X k n tgt ws lv st) (kf : ¬ x ≤ y → At X k n pc' ws lv st) : At X k n pc ws lv (.int y :: .int x :: st) := fun H locs ls hP hD hS hl => lv_icmp_le hC.1 hC.2.1 hd ht (fun c => kt c H locs ls hP hD hS hl) (fun c => by subst hp; exact kf c H locs ls hP hD hS hl)
/-- fields -/
theorem a_get (pc' : Nat) (q0 ci fk : Nat) {C ref : String} {T : u_T} {N index a : Nat} {fs : List Value} {v : Value} (hC : Ok X R0 cc nL own ret) (hin : ∀ w ∈ u_ws C T N, w ∈ wB) (he : ws[q0]? = some (a, .inr (ci, fs))) (hc : vwCl[ci]? = some (C, T, N)) (hk : fk < N) (hm : Cond.fieldLink own index ref (T fk).2.1 (T fk).2.2.1 ∈ wB) (hr : (T fk).1 = ref) (hv : fs[fk]? = some v) (hd : decode cc pc = .ok (.getfield index, 3)) (hp : pc + 3 = pc') (kk : At X k n pc' ws lv (v :: st)) : At X k n pc ws lv (.ref a :: st) := fun H locs ls hP hD hS hl => va_get hC.1 hC.2.1 hC.2.2.2.2.1 hin hC.2.2.2.1 hC.2.2.2.2.2.1.1 hP q0 he hc fk hk (hC.2.2.2.2.1 _ hm) (fun _ h9 => by rw [← hr]; exact h9) hv hd (by subst hp; exact kk H locs ls hP hD hS hl)
theorem a_put (pc' : Nat) (q0 ci fk : Nat) (ws' : va_W) {C ref : String} {T : u_T} {N index a : Nat} {fs : List Value} {v : Value} {ty : FieldType} (ty0 : Nat → FieldType) (hC : Ok X R0 cc nL own ret) (hin : ∀ w ∈ u_ws C T N, w ∈ wB) (hty : ∀ k, k < N → parseFieldDescriptor (T k).2.2.1 = some (ty0 k)) (hnm : ∀ a, a < N → ∀ b, b < N → a ≠ b → (T a).2.1 ≠ (T b).2.1) (he : ws[q0]? = some (a, .inr (ci, fs))) (hc : vwCl[ci]? = some (C, T, N)) (hk : fk < N) (hm : Cond.fieldLink own index ref (T fk).2.1 (T fk).2.2.1 ∈ wB) (hr : (T fk).1 = ref) (hfin : (T fk).2.2.2 = false) (hty0 : ty0 fk = ty) (hn : narrow ty v = v) (hfit : fits ty v = true) (hlen : fk < fs.length) (hd : decode cc pc = .ok (.putfield index, 3)) (hp : pc + 3 = pc') (hw : ws.set q0 (a, .inr (ci, fs.set fk v)) = ws') (kk : At X k n pc' ws' lv st) : At X k n pc ws lv (v :: .ref a :: st) := fun H locs ls hP hD hS hl => va_put hC.1 hC.2.1 hC.2.2.2.2.1 hin ty0 hty hnm hC.2.2.2.1 hC.2.2.2.2.2.1.1 hP hD hS q0 he hc fk hk (hC.2.2.2.2.1 _ hm) (fun _ h9 => by rw [← hr]; exact h9) hfin (by rw [hty fk hk, hty0]) hn hfit hlen hd (fun H1 locs1 hP1 hD1 hS1 => by subst hp; subst hw; exact kk H1 locs1 ls hP1 hD1 hS1 hl)
theorem a_putF (pc' : Nat) (q0 ci fk : Nat) (ws' : va_W) {C ref : String} {T : u_T} {N index a : Nat} {fs : List Value} {v : Value} {ty : FieldType} (ty0 : Nat → FieldType) (hC : Ok X R0 cc nL own ret) (hnam : X.2.2.1.1.name = "<init>") (hin : ∀ w ∈ u_ws C T N, w ∈ wB) (hty : ∀ k, k < N → parseFieldDescriptor (T k).2.2.1 = some (ty0 k)) (hnm : ∀ a, a < N → ∀ b, b < N → a ≠ b → (T a).2.1 ≠ (T b).2.1) (he : ws[q0]? = some (a, .inr (ci, fs))) (hc : vwCl[ci]? = some (C, T, N)) (hk : fk < N) (hm : Cond.fieldLink own index ref (T fk).2.1 (T fk).2.2.1 ∈ wB) (hr : (T fk).1 = ref) (hro : (T fk).1 = own) (hfin : (T fk).2.2.2 = true) (hty0 : ty0 fk = ty) (hn : narrow ty v = v) (hfit : fits ty v = true) (hlen : fk < fs.length) (hd : decode cc pc = .ok (.putfield index, 3)) (hp : pc + 3 = pc') (hw : ws.set q0 (a, .inr (ci, fs.set fk v)) = ws') (kk : At X k n pc' ws' lv st) : At X k n pc ws lv (v :: .ref a :: st) := fun H locs ls hP hD hS hl => va_putF hC.1 hC.2.1 hC.2.2.2.2.1 hin ty0 hty hnm hC.2.2.2.1 hC.2.2.2.2.2.1.1 hP hD hS q0 he hc fk hk (hC.2.2.2.2.1 _ hm) (fun _ h9 => by rw [← hr]; exact h9) hfin hnam hro (by rw [hty fk hk, hty0]) hn hfit hlen hd (fun H1 locs1 hP1 hD1 hS1 => by subst hp; subst hw; exact kk H1 locs1 ls hP1 hD1 hS1 hl)
/-- arrays -/
theorem a_iald (pc' q0 : Nat) {a : Nat} {m : Nat} {f : Nat → Int32} {i : Int32} (hC : Ok X R0 cc nL own ret) (ha : ws[q0]? = some (a, .inl (X.2.2.2.2.1, m, .inl f))) (hin : vp_in i m) (hd : decode cc pc = .ok (.iaload, 1)) (hp : pc + 1 = pc') (kk : At X k n pc' ws lv (.int (f i.toNatClampNeg) :: st)) : At X k n pc ws lv (.int i :: .ref a :: st) := fun H locs ls hP hD hS hl => va_iald hC.1 hC.2.1 hC.2.2.2.2.2.1.1 hP q0 0 ha rfl hin hd (by subst hp; exact kk H locs ls hP hD hS hl)
theorem a_iast (pc' q0 : Nat) (ws' : va_W) {a : Nat} {m : Nat} {f : Nat → Int32} {i x : Int32} (hC : Ok X R0 cc nL own ret) (ha : ws[q0]? = some (a, .inl (X.2.2.2.2.1, m, .inl f))) (hin : vp_in i m) (hd : decode cc pc = .ok (.iastore, 1)) (hp : pc + 1 = pc') (hw : ws.set q0 (a, .inl (X.2.2.2.2.1, m, .inl (upd f i.toNatClampNeg x))) = ws') (kk : At X k n pc' ws' lv st) : At X k n pc ws lv (.int x :: .int i :: .ref a :: st) := fun H locs ls hP hD hS hl => va_iast hC.1 hC.2.1 hC.2.2.2.2.2.1.1 hP hD hS q0 0 ha rfl hin hd (fun H1 locs1 hP1 hD1 hS1 => by subst hp; subst hw; exact kk H1 locs1 ls hP1 hD1 hS1 hl)
theorem a_zald (pc' q0 : Nat) {a : Nat} {m : Nat} {f : Nat → Int32} {i : Int32} (hC : Ok X R0 cc nL own ret) (ha : ws[q0]? = some (a, .inl (X.2.2.2.2.2.1, m, .inl f))) (hin : vp_in i m) (hd : decode cc pc = .ok (.baload, 1)) (hp : pc + 1 = pc') (kk : At X k n pc' ws lv (.int (f i.toNatClampNeg) :: st)) : At X k n pc ws lv (.int i :: .ref a :: st) := fun H locs ls hP hD hS hl => va_zald hC.1 hC.2.1 hC.2.2.2.2.2.1.1 hP q0 1 ha rfl hin hd (by subst hp; exact kk H locs ls hP hD hS hl)
theorem a_zast (pc' q0 : Nat) (ws' : va_W) {a : Nat} {m : Nat} {f : Nat → Int32} {i x : Int32} (hC : Ok X R0 cc nL own ret) (ha : ws[q0]? = some (a, .inl (X.2.2.2.2.2.1, m, .inl f))) (hin : vp_in i m) (hd : decode cc pc = .ok (.bastore, 1)) (hp : pc + 1 = pc') (hw : ws.set q0 (a, .inl (X.2.2.2.2.2.1, m, .inl (upd f i.toNatClampNeg (vp_nar .boolean x)))) = ws') (kk : At X k n pc' ws' lv st) : At X k n pc ws lv (.int x :: .int i :: .ref a :: st) := fun H locs ls hP hD hS hl => va_zast hC.1 hC.2.1 hC.2.2.2.2.2.1.1 hP hD hS q0 1 ha rfl hin hd (fun H1 locs1 hP1 hD1 hS1 => by subst hp; subst hw; exact kk H1 locs1 ls hP1 hD1 hS1 hl)
theorem a_alen (pc' q0 t0 : Nat) {a : Nat} {cA : ClassId} {x : vp_A} {ty : FieldType} {v : Int32} (hC : Ok X R0 cc nL own ret) (ha : ws[q0]? = some (a, .inl (cA, x))) (ht : (qT X.2.2.2.2)[t0]? = some (cA, ty)) (hv : Int32.ofNat x.1 = v) (hd : decode cc pc = .ok (.arraylength, 1)) (hp : pc + 1 = pc') (kk : At X k n pc' ws lv (.int v :: st)) : At X k n pc ws lv (.ref a :: st) := fun H locs ls hP hD hS hl => va_alen hC.1 hC.2.1 hC.2.2.2.2.2.1.1 hP q0 t0 ha ht hv hd (by subst hp; exact kk H locs ls hP hD hS hl)
theorem a_aald (pc' q0 : Nat) {a : Nat} {m : Nat} {f : Nat → Option Nat} {i : Int32} (hC : Ok X R0 cc nL own ret) (ha : ws[q0]? = some (a, .inl (X.2.2.2.2.2.2, m, .inr (.inr (.inr (.inr f)))))) (hin : vp_in i m) (hd : decode cc pc = .ok (.aaload, 1)) (hp : pc + 1 = pc') (kk : At X k n pc' ws lv (va_rf (f i.toNatClampNeg) :: st)) : At X k n pc ws lv (.int i :: .ref a :: st) := fun H locs ls hP hD hS hl => va_aldq hC.1 hC.2.1 hC.2.2.2.2.2.1.1 hP q0 2 ha rfl hin hd (by subst hp; exact kk H locs ls hP hD hS hl)
theorem a_aast (pc' q0 qk ci : Nat) (ws' : va_W) {a : Nat} {T : u_T} {N : Nat} {m v : Nat} {vs : List Value} {f : Nat → Option Nat} {i : Int32} (hC : Ok X R0 cc nL own ret) (ha : ws[q0]? = some (a, .inl (X.2.2.2.2.2.2, m, .inr (.inr (.inr (.inr f)))))) (hv : ws[qk]? = some (v, .inr (ci, vs))) (hc : vwCl[ci]? = some ("FrameClocks$State", T, N)) (hin : vp_in i m) (hd : decode cc pc = .ok (.aastore, 1)) (hp : pc + 1 = pc') (hw : ws.set q0 (a, .inl (X.2.2.2.2.2.2, m, .inr (.inr (.inr (.inr (va_up f i.toNatClampNeg (some v))))))) = ws') (kk : At X k n pc' ws' lv st) : At X k n pc ws lv (.ref v :: .int i :: .ref a :: st) := fun H locs ls hP hD hS hl => va_astq hC.1 hC.2.1 hC.2.2.2.2.2.1.1 hP hD hS q0 2 qk ci ha rfl hv hc hin hd (fun H1 locs1 hP1 hD1 hS1 => by subst hp; subst hw; exact kk H1 locs1 ls hP1 hD1 hS1 hl)
theorem a_null (pc' : Nat) (hC : Ok X R0 cc nL own ret) (hd : decode cc pc = .ok (.aconst_null, 1)) (hp : pc + 1 = pc') (kk : At X k n pc' ws lv (.null :: st)) : At X k n pc ws lv st := fun H locs ls hP hD hS hl => lv_null hC.1 hC.2.1 hd (by subst hp; exact kk H locs ls hP hD hS hl)
theorem a_ifnonnull (tgt : Nat) {off : Int} {x : Nat} (hC : Ok X R0 cc nL own ret) (hd : decode cc pc = .ok (.ifnonnull off, 3)) (ht : (pc : Int) + off = (tgt : Int)) (kk : At X k n tgt ws lv st) : At X k n pc ws lv (.ref x :: st) := fun H locs ls hP hD hS hl => lv_ifnonnull hC.1 hC.2.1 hd ht (kk H locs ls hP hD hS hl)
theorem a_ifnonnullN (pc' : Nat) {off : Int} (hC : Ok X R0 cc nL own ret) (hd : decode cc pc = .ok (.ifnonnull off, 3)) (hp : pc + 3 = pc') (kk : At X k n pc' ws lv st) : At X k n pc ws lv (.null :: st) := fun H locs ls hP hD hS hl => lv_ifnonnullN hC.1 hC.2.1 hd (by subst hp; exact kk H locs ls hP hD hS hl)
theorem a_ifnull (pc' : Nat) {off : Int} {x : Nat} (hC : Ok X R0 cc nL own ret) (hd : decode cc pc = .ok (.ifnull off, 3)) (hp : pc + 3 = pc') (kk : At X k n pc' ws lv st) : At X k n pc ws lv (.ref x :: st) := fun H locs ls hP hD hS hl => lv_ifnull hC.1 hC.2.1 hd (by subst hp; exact kk H locs ls hP hD hS hl)
theorem a_ifnullN (tgt : Nat) {off : Int} (hC : Ok X R0 cc nL own ret) (hd : decode cc pc = .ok (.ifnull off, 3)) (ht : (pc : Int) + off = (tgt : Int)) (kk : At X k n tgt ws lv st) : At X k n pc ws lv (.null :: st) := fun H locs ls hP hD hS hl => lv_ifnullN hC.1 hC.2.1 hd ht (kk H locs ls hP hD hS hl)
/-- ends -/
theorem a_iret {mc ms : Nat} {Po : Option Value → va_W → Prop} {v : Int32} (hC : Ok X R0 cc nL own (some .int)) (hR : Rt X mc ms Po) (hq : Po (some (.int v)) ws) (hk : k ≤ mc) (hn : n ≤ ms) (hd : decode cc pc = .ok (.ireturn, 1)) : At X k n pc ws lv [.int v] := by
  intro H locs ls hP hD hS hl
  refine W.widen hk hn ?_
  rw [hR]
  exact W.iret hC.1 hC.2.1 hC.2.2.2.2.2.2.2.1 (fun t ht hW => ⟨_, ws, rfl, hq, by rw [ht]; exact hP, hD, hS.F ht⟩) hS.2.2 hd hC.2.2.2.2.2.2.2.2.1
theorem a_zret {mc ms : Nat} {Po : Option Value → va_W → Prop} {v : Int32} (hC : Ok X R0 cc nL own (some .boolean)) (hR : Rt X mc ms Po) (hq : Po (some (.int v)) ws) (hb : narrow .boolean (.int v) = .int v) (hk : k ≤ mc) (hn : n ≤ ms) (hd : decode cc pc = .ok (.ireturn, 1)) : At X k n pc ws lv [.int v] := by
  intro H locs ls hP hD hS hl
  refine W.widen hk hn ?_
  rw [hR]
  exact W.zret hC.1 hC.2.1 hC.2.2.2.2.2.2.2.1 hb (fun t ht hW => ⟨_, ws, rfl, hq, by rw [ht]; exact hP, hD, hS.F ht⟩) hS.2.2 hd hC.2.2.2.2.2.2.2.2.1
theorem a_lret {mc ms : Nat} {Po : Option Value → va_W → Prop} {v : Int64} (hC : Ok X R0 cc nL own (some .long)) (hR : Rt X mc ms Po) (hq : Po (some (.long v)) ws) (hk : k ≤ mc) (hn : n ≤ ms) (hd : decode cc pc = .ok (.lreturn, 1)) : At X k n pc ws lv [.long v] := by
  intro H locs ls hP hD hS hl
  refine W.widen hk hn ?_
  rw [hR]
  exact W.lret hC.1 hC.2.1 hC.2.2.2.2.2.2.2.1 (fun t ht hW => ⟨_, ws, rfl, hq, by rw [ht]; exact hP, hD, hS.F ht⟩) hS.2.2 hd hC.2.2.2.2.2.2.2.2.1
theorem a_vret {mc ms : Nat} {Po : Option Value → va_W → Prop} (hC : Ok X R0 cc nL own none) (hR : Rt X mc ms Po) (hq : Po none ws) (hk : k ≤ mc) (hn : n ≤ ms) (hd : decode cc pc = .ok (.return_, 1)) : At X k n pc ws lv [] := by
  intro H locs ls hP hD hS hl
  refine W.widen hk hn ?_
  rw [hR]
  exact W.vret hC.1 hC.2.1 hC.2.2.2.2.2.2.2.1 (fun t ht hW => ⟨_, ws, rfl, hq, by rw [ht]; exact hP, hD, hS.F ht⟩) hS.2.2 hd hC.2.2.2.2.2.2.2.2.1
theorem a_widen {k' n' : Nat} (h1 : k ≤ k') (h2 : n ≤ n') (kk : At X k' n' pc ws lv st) : At X k n pc ws lv st := fun H locs ls hP hD hS hl => W.widen h1 h2 (kk H locs ls hP hD hS hl)
/-- a number on the stack gets a name -/
theorem a_nm {x y : Int32} (h : x = y) (kk : At X k n pc ws lv (.int x :: st)) : At X k n pc ws lv (.int y :: st) := by subst h; exact kk
theorem a_nml {x y : Int64} (h : x = y) (kk : At X k n pc ws lv (.long x :: st)) : At X k n pc ws lv (.long y :: st) := by subst h; exact kk
end QA
end
section
/-! calls in the calculus of places -/
def q_pick (Xs : va_W) (is : List Nat) : va_W := is.filterMap (fun i => Xs[i]?)
theorem w_back {p : Program} {l : Launch} {e : Env} {R : Room} {s : State} {m : MethodId} {args : Array Value} {below : List Frame} {meth : Method} {c : Code} {H : Heap} {locs : List Loc} {k n mc ms pc : Nat} {Q : State → Prop} {ls : Array Slot} {st0 rest : List Value} {D : va_G} {Po : Option Value → va_W → Prop} {A0 A1 : Nat → Prop} {H0 : Heap} {a : Array Value}
    (hr : va_Run p l e R s m args below meth c H locs k n mc ms (F0 m pc ls st0) rest (qQ D Po A1 a) A1) (hS : va_S A0 H0 H locs) (hA : ∀ q, A1 q → A0 q)
    (kk : ∀ (r : Option Value) (w1 : va_W) (H1 : Heap) (locs1 : List Loc), Po r w1 → va_P D vwCl w1 H1 → va_D A1 w1 → H.size ≤ H1.size → (∀ q : Nat, q < H.size → ¬ A1 q → H1[q]? = H[q]?) → va_S A0 H0 H1 locs1 → W p l e R s m args below meth c H1 locs1 (k + mc) (n + ms) Q (F0 m (pc + 3) ls (r.toList ++ rest))) : W p l e R s m args below meth c H locs k n Q (F0 m pc ls st0) := by
  intro T hT X
  obtain ⟨v, st₀, t, T', L, h0, X', hL, e1, e2, ⟨r, w1, hv, hp, hP1, hD1, hz, hk⟩, st⟩ := hr T hT X
  cases hv
  rw [h0] at hz hk
  obtain ⟨t2, a1, b1⟩ := kk v w1 T'.heap (locs ++ L) hp (by rw [e1]; exact hP1) hD1 (by rw [e1]; exact hz) (fun q h1 h2 => by rw [e1]; exact hk q h1 h2)
    ⟨Nat.le_trans hS.1 (by rw [e1]; exact hz), fun q h1 h2 => by rw [e1, hk q (Nat.lt_of_lt_of_le h1 hS.1) (fun z => h2 (hA q z))]; exact hS.2.1 q h1 h2, fun q hq => by
      rcases List.mem_append.mp hq with h | h
      · exact hS.2.2 q h
      · exact hA _ (hL q h)⟩ T' rfl X'
  exact ⟨t2, st t2 a1, b1⟩
theorem q_blind {D : va_G} {z : ClassId × ClassId × ClassId} {av : List Value} {w0 : va_W} {sz : Nat} : FrameBlind (qP D z av w0 sz) := fun a U g mk q => by
  obtain ⟨q0, q1, qP, qK, qD⟩ := q
  exact ⟨q0, q1, qP, qK.same rfl, qD⟩
theorem wB_code {y : MethodName} {bytes : ByteArray} {maxL : Nat} {ret : Option FieldType} (h5 : Cond.code y bytes maxL ret ∈ wB) : GoodIn wB (Cond.code y bytes maxL ret :: wB) := fun w hw => by
  rcases List.mem_cons.mp hw with h | h
  · subst h; exact ⟨h5, good_of_word (wB_good _ h5).2⟩
  · exact ⟨h, good_of_word (wB_good _ h).2⟩
section QC
variable {X : qX} {R0 : Room} {cc : ByteArray} {nL : Nat} {own : String} {ret0 : Option FieldType} {k n pc : Nat} {ws : va_W} {lv : List (Nat × Value)} {st0 : List Value}
variable {y : MethodName} {bytes : ByteArray} {maxL nA index : Nat} {ret : Option FieldType} {rm : Room} {As rest : List Value} {w0 : va_W} {Po : Option Value → va_W → Prop} {b : Nat} {C : String}
/-- a call's room, words and names, all that is not of the cells -/
def Cw (R0 : Room) (own : String) (index : Nat) (y : MethodName) (bytes : ByteArray) (maxL : Nat) (ret : Option FieldType) (nA : Nat) (rm : Room) : Prop :=
  Cond.methodLink own index y ∈ wB ∧ Cond.initialized y.cls ∈ wB ∧ Cond.code y bytes maxL ret ∈ wB ∧ (y.cls ≠ "java/lang/invoke/MethodHandle" ∧ y.cls ≠ "java/lang/invoke/VarHandle" ∧ (parseMethodDescriptor y.desc).map (fun d => d.parameters.length) = some nA) ∧ (rm.frames + 1 ≤ R0.frames ∧ 8 + (maxL + 11) + rm.locals ≤ R0.locals)
theorem Cw.callB (hC : Ok X R0 cc nL own ret0) (h : Cw R0 own index y bytes maxL ret nA rm) : CallB X.1.2.2.2 X.2.1.1 X.2.1.2.2.1 own index y bytes maxL ret (Cond.code y bytes maxL ret :: wB) rm rm.cells rm.slots nA := by
  obtain ⟨h1, h4, h5, hd, hR⟩ := h
  refine callB_of nA hC.2.2.2.2.1 (wB_code h5) rfl rfl rfl (hC.2.2.2.2.1 _ h4) (hC.2.2.2.2.1 _ h1) hd ?_
  rw [hC.2.2.2.2.2.2.2.2.2]
  exact hR
set_option maxHeartbeats 1000000 in
/-- behind a call: the cells that the callee didn't have, and its own -/
theorem a_after (pc' : Nat) (Xs pl : va_W) (isC isR : List Nat) {H : Heap} {locs : List Loc} {ls : Array Slot} {a : Array Value}
    (hC : Ok X R0 cc nL own ret0) (hP : va_P X.2.2.2.1 vwCl ws H) (hD : va_D X.2.2.1.2.2.1 ws) (hS : va_S X.2.2.1.2.2.1 X.2.1.1.heap H locs) (hl : lv_has ls X.2.2.1.2.1.maxLocals lv)
    (hws : ws = Xs ++ pl) (hiC : isC.map (fun i => Xs[i]?) = w0.map some) (hiR : isR.map (fun i => Xs[i]?) = (q_pick Xs isR).map some) (hnd : va_nd isR = true) (hdis : ∀ i ∈ isR, i ∉ isC) (hp : pc + 3 = pc')
    (hr : va_Run X.1.1 X.1.2.1 X.1.2.2.1 X.1.2.2.2 X.2.1.1 X.2.1.2.1 X.2.1.2.2.1 X.2.1.2.2.2 X.2.2.1.1 X.2.2.1.2.1 H locs k n rm.cells rm.slots (F0 X.2.1.2.1 pc ls st0) rest (qQ X.2.2.2.1 Po (va_A w0 H.size) a) (va_A w0 H.size))
    (kk : ∀ (r : Option Value) (w1 : va_W), Po r w1 → At X (k + rm.cells) (n + rm.slots) pc' ((q_pick Xs isR ++ w1) ++ pl) lv (r.toList ++ rest)) :
    W X.1.1 X.1.2.1 X.1.2.2.1 X.1.2.2.2 X.2.1.1 X.2.1.2.1 X.2.1.2.2.1 X.2.1.2.2.2 X.2.2.1.1 X.2.2.1.2.1 H locs k n X.2.2.1.2.2.2 (F0 X.2.1.2.1 pc ls st0) := by
  subst hws
  subst hp
  have hF : ∀ q, va_A w0 H.size q → X.2.2.1.2.2.1 q := by
    intro q h
    rcases h with ⟨k', e', h⟩ | h
    · obtain ⟨i, h1, h2⟩ := va_in_of isC hiC h
      exact hD.2 i (q, e') (by rw [List.getElem?_append_left (List.getElem?_eq_some_iff.mp h2).1]; exact h2)
    · exact hC.2.2.2.2.2.2.1 q (Nat.le_trans hS.1 h)
  refine w_back hr hS hF (fun r w1 H1 locs1 hp1 hP1 hD1 hz1 hk1 hS1 => ?_)
  obtain ⟨hP2, hD2⟩ := va_joinQ hP hD isC isR hiC hiR hnd hdis hk1 hF hP1 hD1
  exact kk r w1 hp1 H1 locs1 ls hP2 hD2 hS1 hl
theorem a_pre {H : Heap} {locs : List Loc} (Xs pl : va_W) (isC : List Nat) (hC : Ok X R0 cc nL own ret0) (hP : va_P X.2.2.2.1 vwCl ws H) (hD : va_D X.2.2.1.2.2.1 ws) (hws : ws = Xs ++ pl) (hiC : isC.map (fun i => Xs[i]?) = w0.map some) (hndC : va_nd isC = true) {av : List Value} : va_P X.2.2.2.1 vwCl w0 H ∧ ∀ U : State, U.heap = H → X.2.1.1.WarmedH U.vm → qP X.2.2.2.1 X.2.2.2.2 av w0 H.size av.toArray U := by
  subst hws
  have at' : ∀ (k : Nat) (q : Nat × va_E), w0[k]? = some q → ∃ i, isC[k]? = some i ∧ (Xs ++ pl)[i]? = some q := fun k q h => by
    obtain ⟨i, h1, h2⟩ := va_in_of isC hiC h
    exact ⟨i, h1, by rw [List.getElem?_append_left (List.getElem?_eq_some_iff.mp h2).1]; exact h2⟩
  have hPc : va_P X.2.2.2.1 vwCl w0 H := fun k q h => by
    obtain ⟨i, -, h2⟩ := at' k q h
    exact hP i q h2
  have hDc : va_D (fun _ => True) w0 := by
    refine ⟨fun i j x y hx hy hxy => ?_, fun _ _ _ => trivial⟩
    obtain ⟨i', e1, h1⟩ := at' i x hx
    obtain ⟨j', e2, h2⟩ := at' j y hy
    have := hD.1 i' j' x y h1 h2 hxy
    subst this
    exact va_nd_inj isC hndC i j i' e1 e2
  exact ⟨hPc, fun U hU hW => ⟨rfl, by rw [hU], by rw [hU]; exact hPc, hC.2.2.2.2.2.1.warm hW, hDc⟩⟩
set_option maxHeartbeats 1000000 in
theorem a_callV (pc' : Nat) (Xs pl : va_W) (isC isR : List Nat) (q0 ci : Nat) {T : u_T} {N : Nat} {fs : List Value} (As rest : List Value) (hC : Ok X R0 cc nL own ret0) (hM : Ct X.1.2.1 X.2.2.2.1 X.2.2.2.2 y bytes maxL ret rm (.ref b :: As) w0 Po) (cw : Cw R0 own index y bytes maxL ret nA rm)
    (h2 : Cond.instanceMethod y ∈ wB) (h3 : Cond.selects C y y ∈ wB) (hn : As.length = nA) (hst : st0 = As.reverse ++ .ref b :: rest) (hcat : (rest.map fun v => v.category).sum ≤ 8) (hdec : decode cc pc = .ok (.invokevirtual index, 3)) (hp : pc + 3 = pc') (hf : k + rm.cells ≤ R0.cells ∧ n + rm.slots ≤ R0.slots)
    (hws : ws = Xs ++ pl) (hiC : isC.map (fun i => Xs[i]?) = w0.map some) (hndC : va_nd isC = true) (hiR : isR.map (fun i => Xs[i]?) = (q_pick Xs isR).map some) (hnd : va_nd isR = true) (hdis : ∀ i ∈ isR, i ∉ isC) (he : w0[q0]? = some (b, .inr (ci, fs))) (hcl : vwCl[ci]? = some (C, T, N))
    (kk : ∀ (r : Option Value) (w1 : va_W), Po r w1 → At X (k + rm.cells) (n + rm.slots) pc' ((q_pick Xs isR ++ w1) ++ pl) lv (r.toList ++ rest)) : At X k n pc ws lv st0 := by
  intro H locs ls hP hD hS hl
  obtain ⟨hPc, hPre⟩ := a_pre (locs := locs) Xs pl isC hC hP hD hws hiC hndC (av := .ref b :: As)
  refine a_after pc' Xs pl isC isR hC hP hD hS hl hws hiC hiR hnd hdis hp (va_runV (As := As) (rest := rest) ⟨hC.1, hC.2.1, hC.2.2.1, hC.2.2.2.1, hC.2.2.2.2.1⟩ (hM H.size) ⟨cw.callB hC, hC.2.2.2.2.1 _ h2, hC.2.2.2.2.1 _ h3⟩ ⟨q_blind, va_recv hC.2.2.2.2.2.1.1 hPc hcl he, hPre⟩ rfl hn (by rw [← hC.2.2.1]; exact hl.1) hst (by show 2 * 0 + _ ≤ 8; omega) hdec (by rw [hC.2.2.2.2.2.2.2.2.2]; exact hf)) kk
set_option maxHeartbeats 1000000 in
theorem a_callS (pc' : Nat) (Xs pl : va_W) (isC isR : List Nat) (As rest : List Value) (hC : Ok X R0 cc nL own ret0) (hM : Ct X.1.2.1 X.2.2.2.1 X.2.2.2.2 y bytes maxL ret rm As w0 Po) (cw : Cw R0 own index y bytes maxL ret nA rm)
    (h2 : Cond.static y ∈ wB) (hn : As.length = nA) (hst : st0 = As.reverse ++ rest) (hcat : (rest.map fun v => v.category).sum ≤ 8) (hdec : decode cc pc = .ok (.invokestatic index, 3)) (hp : pc + 3 = pc') (hf : k + rm.cells ≤ R0.cells ∧ n + rm.slots ≤ R0.slots)
    (hws : ws = Xs ++ pl) (hiC : isC.map (fun i => Xs[i]?) = w0.map some) (hndC : va_nd isC = true) (hiR : isR.map (fun i => Xs[i]?) = (q_pick Xs isR).map some) (hnd : va_nd isR = true) (hdis : ∀ i ∈ isR, i ∉ isC)
    (kk : ∀ (r : Option Value) (w1 : va_W), Po r w1 → At X (k + rm.cells) (n + rm.slots) pc' ((q_pick Xs isR ++ w1) ++ pl) lv (r.toList ++ rest)) : At X k n pc ws lv st0 := by
  intro H locs ls hP hD hS hl
  obtain ⟨hPc, hPre⟩ := a_pre (locs := locs) Xs pl isC hC hP hD hws hiC hndC (av := As)
  refine a_after pc' Xs pl isC isR hC hP hD hS hl hws hiC hiR hnd hdis hp (va_runS (As := As) (rest := rest) ⟨hC.1, hC.2.1, hC.2.2.1, hC.2.2.2.1, hC.2.2.2.2.1⟩ (hM H.size) ⟨cw.callB hC, hC.2.2.2.2.1 _ h2⟩ ⟨q_blind, hPre⟩ rfl hn (by rw [← hC.2.2.1]; exact hl.1) hst (by show 2 * 0 + _ ≤ 8; omega) hdec (by rw [hC.2.2.2.2.2.2.2.2.2]; exact hf)) kk
/-- a static call that has no cells and makes none -/
theorem a_call0 (pc' : Nat) (As rest : List Value) (r0 : Value) (hC : Ok X R0 cc nL own ret0) (hM : Ct X.1.2.1 X.2.2.2.1 X.2.2.2.2 y bytes maxL ret rm As [] (fun r w => r = some r0 ∧ w = [])) (cw : Cw R0 own index y bytes maxL ret nA rm)
    (h2 : Cond.static y ∈ wB) (hn : As.length = nA) (hst : st0 = As.reverse ++ rest) (hcat : (rest.map fun v => v.category).sum ≤ 8) (hdec : decode cc pc = .ok (.invokestatic index, 3)) (hp : pc + 3 = pc') (hm0 : rm.cells = 0) (hs0 : rm.slots = 0) (hf : k ≤ R0.cells ∧ n ≤ R0.slots)
    (kk : At X k n pc' ws lv (r0 :: rest)) : At X k n pc ws lv st0 := by
  refine a_callS pc' [] ws [] [] As rest hC hM cw h2 hn hst hcat hdec hp (by rw [hm0, hs0]; exact hf) rfl rfl rfl rfl rfl (fun _ h => by cases h) (fun r w1 hpo => ?_)
  obtain ⟨rfl, rfl⟩ := hpo
  rw [hm0, hs0]
  exact kk
/-- a virtual call whose end is known, cells for cells -/
theorem a_callVd (pc' : Nat) (Xs pl : va_W) (isC isR isP : List Nat) (X' ws' : va_W) (q0 ci : Nat) {T : u_T} {N : Nat} {fs : List Value} (As rest : List Value) (r0 : Option Value) (w1 : va_W) (st' : List Value) (hC : Ok X R0 cc nL own ret0) (hM : Ct X.1.2.1 X.2.2.2.1 X.2.2.2.2 y bytes maxL ret rm (.ref b :: As) w0 (fun r w => r = r0 ∧ w = w1)) (cw : Cw R0 own index y bytes maxL ret nA rm)
    (h2 : Cond.instanceMethod y ∈ wB) (h3 : Cond.selects C y y ∈ wB) (hn : As.length = nA) (hst : st0 = As.reverse ++ .ref b :: rest) (hcat : (rest.map fun v => v.category).sum ≤ 8) (hdec : decode cc pc = .ok (.invokevirtual index, 3)) (hp : pc + 3 = pc') (hm0 : rm.cells = 0) (hs0 : rm.slots = 0) (hf : k ≤ R0.cells ∧ n ≤ R0.slots)
    (hws : ws = Xs ++ pl) (hiC : isC.map (fun i => Xs[i]?) = w0.map some) (hndC : va_nd isC = true) (hiR : isR.map (fun i => Xs[i]?) = (q_pick Xs isR).map some) (hnd : va_nd isR = true) (hdis : ∀ i ∈ isR, i ∉ isC) (he : w0[q0]? = some (b, .inr (ci, fs))) (hcl : vwCl[ci]? = some (C, T, N))
    (hiP : isP.map (fun i => (q_pick Xs isR ++ w1)[i]?) = X'.map some) (hndP : va_nd isP = true) (hws' : X' ++ pl = ws') (hst' : r0.toList ++ rest = st')
    (kk : At X k n pc' ws' lv st') : At X k n pc ws lv st0 := by
  refine a_callV pc' Xs pl isC isR q0 ci As rest hC hM cw h2 h3 hn hst hcat hdec hp (by rw [hm0, hs0]; exact hf) hws hiC hndC hiR hnd hdis he hcl (fun r w hpo => ?_)
  obtain ⟨rfl, rfl⟩ := hpo
  rw [hm0, hs0]
  subst hst'
  subst hws'
  exact fun H locs ls hP hD hS hl => kk H locs ls (hP.part isP hiP) (hD.part isP hndP hiP) hS hl
/-- the same, where the callee has all the caller's cells -/
theorem a_callVs (pc' : Nat) (ws' : va_W) (q0 ci : Nat) {T : u_T} {N : Nat} {fs : List Value} (As rest : List Value) (r0 : Option Value) (st' : List Value) (hC : Ok X R0 cc nL own ret0) (hM : Ct X.1.2.1 X.2.2.2.1 X.2.2.2.2 y bytes maxL ret rm (.ref b :: As) ws (fun r w => r = r0 ∧ w = ws')) (cw : Cw R0 own index y bytes maxL ret nA rm)
    (h2 : Cond.instanceMethod y ∈ wB) (h3 : Cond.selects C y y ∈ wB) (hn : As.length = nA) (hst : st0 = As.reverse ++ .ref b :: rest) (hcat : (rest.map fun v => v.category).sum ≤ 8) (hdec : decode cc pc = .ok (.invokevirtual index, 3)) (hp : pc + 3 = pc') (hm0 : rm.cells = 0) (hs0 : rm.slots = 0) (hf : k ≤ R0.cells ∧ n ≤ R0.slots)
    (he : ws[q0]? = some (b, .inr (ci, fs))) (hcl : vwCl[ci]? = some (C, T, N)) (hst' : r0.toList ++ rest = st')
    (kk : At X k n pc' ws' lv st') : At X k n pc ws lv st0 := by
  intro H locs ls hP hD hS hl
  have hF : ∀ q, va_A ws H.size q → X.2.2.1.2.2.1 q := by
    intro q h
    rcases h with ⟨k', e', h⟩ | h
    · exact hD.2 k' (q, e') h
    · exact hC.2.2.2.2.2.2.1 q (Nat.le_trans hS.1 h)
  have hPre : ∀ U : State, U.heap = H → X.2.1.1.WarmedH U.vm → qP X.2.2.2.1 X.2.2.2.2 (.ref b :: As) ws H.size (Value.ref b :: As).toArray U := fun U hU hW => ⟨rfl, by rw [hU], by rw [hU]; exact hP, hC.2.2.2.2.2.1.warm hW, hD.1, fun _ _ _ => trivial⟩
  have hr := va_runV (As := As) (rest := rest) (cells := k) (slots := n) (locs := locs) (p := X.1.1) (e := X.1.2.2.1) (below := X.2.1.2.2.2) (meth := X.2.2.1.1) (g := F0 X.2.1.2.1 pc ls st0) ⟨hC.1, hC.2.1, hC.2.2.1, hC.2.2.2.1, hC.2.2.2.2.1⟩ (hM H.size) ⟨cw.callB hC, hC.2.2.2.2.1 _ h2, hC.2.2.2.2.1 _ h3⟩ ⟨q_blind, va_recv hC.2.2.2.2.2.1.1 hP hcl he, hPre⟩ rfl hn (by rw [← hC.2.2.1]; exact hl.1) hst (by show 2 * 0 + _ ≤ 8; omega) hdec (by rw [hC.2.2.2.2.2.2.2.2.2, hm0, hs0]; exact hf)
  refine w_back hr hS hF (fun r w1 H1 locs1 hp1 hP1 hD1 hz1 hk1 hS1 => ?_)
  obtain ⟨rfl, rfl⟩ := hp1
  rw [hm0, hs0]
  subst hst'
  subst hp
  exact kk H1 locs1 ls hP1 (hD1.weaken (fun k q _ h => hF q.1 h)) hS1 hl
end QC
/-! loops, choices, names in pure functions -/
def lp {σ ρ : Type} (body : σ → Option (σ ⊕ ρ)) (n : Nat) : σ → Option ρ := Nat.rec (fun _ => none) (fun _ ih x => (body x).bind (fun o => Sum.elim ih some o)) n
theorem lp_succ {σ ρ : Type} (body : σ → Option (σ ⊕ ρ)) (n : Nat) (x : σ) : lp body (n + 1) x = (body x).bind (fun o => Sum.elim (lp body n) some o) := rfl
theorem lp_zero {σ ρ : Type} (body : σ → Option (σ ⊕ ρ)) (x : σ) : lp body 0 x = none := rfl
theorem bd {α β : Type} {x : Option α} {f : α → Option β} {r : β} (h : x.bind f = some r) : ∃ a, x = some a ∧ f a = some r := Option.bind_eq_some_iff.mp h
theorem lp_walk {σ ρ : Type} {body : σ → Option (σ ⊕ ρ)} {Wh : σ → Prop} {We : ρ → Prop} (step : ∀ x o, body x = some o → Sum.elim Wh We o → Wh x) : ∀ (n : Nat) (x : σ) (r : ρ), lp body n x = some r → We r → Wh x := by
  intro n
  induction n with
  | zero => intro x r h; cases h
  | succ n ih =>
    intro x r h hr
    obtain ⟨o, h1, h2⟩ := bd h
    cases o with
    | inl x' => exact step x _ h1 (ih x' r h2 hr)
    | inr r' =>
      have : r' = r := Option.some.inj h2
      subst this
      exact step x _ h1 hr
def nm {α β : Type} (e : α) (f : α → Option β) : Option β := f e
theorem nmx {α β : Type} {e : α} {f : α → Option β} {r : β} (h : nm e f = some r) : ∃ x, x = e ∧ f x = some r := ⟨e, rfl, h⟩
theorem ifp {α : Type} {c : Prop} [Decidable c] {x y : Option α} {r : α} (hc : c) (h : (if c then x else y) = some r) : x = some r := by rw [if_pos hc] at h; exact h
theorem ifn {α : Type} {c : Prop} [Decidable c] {x y : Option α} {r : α} (hc : ¬ c) (h : (if c then x else y) = some r) : y = some r := by rw [if_neg hc] at h; exact h
/-- a place of an array: out of it nothing is answered -/
def gd {α : Type} (i : Int32) (n : Nat) (f : Option α) : Option α := if i < 0 ∨ n ≤ i.toNatClampNeg then none else f
theorem gdx {α : Type} {i : Int32} {n : Nat} {f : Option α} {r : α} (h : gd i n f = some r) : vp_in i n ∧ f = some r := by
  unfold gd at h
  by_cases hc : i < 0 ∨ n ≤ i.toNatClampNeg
  · rw [if_pos hc] at h; cases h
  · rw [if_neg hc] at h; exact ⟨hc, h⟩
def dv {α : Type} (y : Int32) (f : Option α) : Option α := if y = 0 then none else f
theorem dvx {α : Type} {y : Int32} {f : Option α} {r : α} (h : dv y f = some r) : ¬ y = 0 ∧ f = some r := by
  unfold dv at h
  by_cases hc : y = 0
  · rw [if_pos hc] at h; cases h
  · rw [if_neg hc] at h; exact ⟨hc, h⟩
end
