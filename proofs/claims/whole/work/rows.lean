section
/-- a private method of a class that the tables say can be made, by its rows of tables_1 -/
def lw_okq (q : MethodName × Nat) : Prop := (q.1.cls ≠ "java/lang/invoke/MethodHandle" ∧ q.1.cls ≠ "java/lang/invoke/VarHandle") ∧ Cond.instantiable q.1.cls q.2 ∈ tables_1 ∧ Cond.privateMethod q.1 ∈ tables_1 ∧ Cond.instanceMethod q.1 ∈ tables_1
theorem lw_p0 : lw_okq (⟨"WallPlanner$Needs", "doorsOf", "(ILWallPlanner$Net;I)I"⟩, 2) := ⟨⟨by decide +kernel, by decide +kernel⟩, List.mem_of_getElem? (i := 151) (by decide +kernel), List.mem_of_getElem? (i := 417) (by decide +kernel), List.mem_of_getElem? (i := 418) (by decide +kernel)⟩
theorem lw_p1 : lw_okq (⟨"WallPlanner$Seeker", "isCheaper", "(IILWallPlanner$Net;LWallPlanner$Law;LWallPlanner$Needs;)Z"⟩, 5) := ⟨⟨by decide +kernel, by decide +kernel⟩, List.mem_of_getElem? (i := 200) (by decide +kernel), List.mem_of_getElem? (i := 442) (by decide +kernel), List.mem_of_getElem? (i := 443) (by decide +kernel)⟩
theorem lw_p2 : lw_okq (⟨"WallPlanner$Layout", "openRooms", "()V"⟩, 5) := ⟨⟨by decide +kernel, by decide +kernel⟩, List.mem_of_getElem? (i := 115) (by decide +kernel), List.mem_of_getElem? (i := 454) (by decide +kernel), List.mem_of_getElem? (i := 455) (by decide +kernel)⟩
theorem lw_p3 : lw_okq (⟨"WallPlanner$Layout", "openDoorsFrom", "(I[II)V"⟩, 5) := ⟨⟨by decide +kernel, by decide +kernel⟩, List.mem_of_getElem? (i := 115) (by decide +kernel), List.mem_of_getElem? (i := 459) (by decide +kernel), List.mem_of_getElem? (i := 460) (by decide +kernel)⟩
theorem lw_p4 : lw_okq (⟨"WallPlanner$Layout", "countStraysFrom", "(I[I[II)V"⟩, 5) := ⟨⟨by decide +kernel, by decide +kernel⟩, List.mem_of_getElem? (i := 115) (by decide +kernel), List.mem_of_getElem? (i := 464) (by decide +kernel), List.mem_of_getElem? (i := 465) (by decide +kernel)⟩
theorem lw_p5 : lw_okq (⟨"WallPlanner$Seeker", "goOn", "(II)I"⟩, 5) := ⟨⟨by decide +kernel, by decide +kernel⟩, List.mem_of_getElem? (i := 200) (by decide +kernel), List.mem_of_getElem? (i := 468) (by decide +kernel), List.mem_of_getElem? (i := 469) (by decide +kernel)⟩
theorem lw_p6 : lw_okq (⟨"WallPlanner$Seeker", "keepTrial", "()V"⟩, 5) := ⟨⟨by decide +kernel, by decide +kernel⟩, List.mem_of_getElem? (i := 200) (by decide +kernel), List.mem_of_getElem? (i := 472) (by decide +kernel), List.mem_of_getElem? (i := 473) (by decide +kernel)⟩
theorem lw_p7 : lw_okq (⟨"WallPlanner$Plan", "listRules", "()V"⟩, 6) := ⟨⟨by decide +kernel, by decide +kernel⟩, List.mem_of_getElem? (i := 109) (by decide +kernel), List.mem_of_getElem? (i := 498) (by decide +kernel), List.mem_of_getElem? (i := 499) (by decide +kernel)⟩
theorem lw_p8 : lw_okq (⟨"WallPlanner$Plan", "isNeedBy", "(III)Z"⟩, 6) := ⟨⟨by decide +kernel, by decide +kernel⟩, List.mem_of_getElem? (i := 109) (by decide +kernel), List.mem_of_getElem? (i := 528) (by decide +kernel), List.mem_of_getElem? (i := 529) (by decide +kernel)⟩
theorem lw_p9 : lw_okq (⟨"WallPlanner$Plan", "isBy", "(III)Z"⟩, 6) := ⟨⟨by decide +kernel, by decide +kernel⟩, List.mem_of_getElem? (i := 109) (by decide +kernel), List.mem_of_getElem? (i := 532) (by decide +kernel), List.mem_of_getElem? (i := 533) (by decide +kernel)⟩
theorem lw_p10 : lw_okq (⟨"WallPlanner$Shutter", "gatherCans", "(LWallPlanner$Plan;[I)Z"⟩, 8) := ⟨⟨by decide +kernel, by decide +kernel⟩, List.mem_of_getElem? (i := 242) (by decide +kernel), List.mem_of_getElem? (i := 618) (by decide +kernel), List.mem_of_getElem? (i := 619) (by decide +kernel)⟩
theorem lw_p11 : lw_okq (⟨"WallPlanner$Shutter", "widestWithout", "(I)I"⟩, 8) := ⟨⟨by decide +kernel, by decide +kernel⟩, List.mem_of_getElem? (i := 242) (by decide +kernel), List.mem_of_getElem? (i := 627) (by decide +kernel), List.mem_of_getElem? (i := 628) (by decide +kernel)⟩
theorem lw_p12 : lw_okq (⟨"WallPlanner$Shutter", "tollOf", "(I)I"⟩, 8) := ⟨⟨by decide +kernel, by decide +kernel⟩, List.mem_of_getElem? (i := 242) (by decide +kernel), List.mem_of_getElem? (i := 633) (by decide +kernel), List.mem_of_getElem? (i := 634) (by decide +kernel)⟩
theorem lw_p13 : lw_okq (⟨"WallPlanner$Shutter", "choose", "(I)V"⟩, 8) := ⟨⟨by decide +kernel, by decide +kernel⟩, List.mem_of_getElem? (i := 242) (by decide +kernel), List.mem_of_getElem? (i := 637) (by decide +kernel), List.mem_of_getElem? (i := 638) (by decide +kernel)⟩
theorem lw_p14 : lw_okq (⟨"WallPlannerModel", "way", "(III)I"⟩, 39) := ⟨⟨by decide +kernel, by decide +kernel⟩, List.mem_of_getElem? (i := 683) (by decide +kernel), List.mem_of_getElem? (i := 816) (by decide +kernel), List.mem_of_getElem? (i := 817) (by decide +kernel)⟩
theorem lw_p15 : lw_okq (⟨"WallPlannerModel", "isHost", "(I)Z"⟩, 39) := ⟨⟨by decide +kernel, by decide +kernel⟩, List.mem_of_getElem? (i := 683) (by decide +kernel), List.mem_of_getElem? (i := 820) (by decide +kernel), List.mem_of_getElem? (i := 821) (by decide +kernel)⟩
def lw_privs_1 : List (MethodName × Nat) := [(⟨"WallPlanner$Needs", "doorsOf", "(ILWallPlanner$Net;I)I"⟩, 2), (⟨"WallPlanner$Seeker", "isCheaper", "(IILWallPlanner$Net;LWallPlanner$Law;LWallPlanner$Needs;)Z"⟩, 5), (⟨"WallPlanner$Layout", "openRooms", "()V"⟩, 5), (⟨"WallPlanner$Layout", "openDoorsFrom", "(I[II)V"⟩, 5), (⟨"WallPlanner$Layout", "countStraysFrom", "(I[I[II)V"⟩, 5), (⟨"WallPlanner$Seeker", "goOn", "(II)I"⟩, 5), (⟨"WallPlanner$Seeker", "keepTrial", "()V"⟩, 5), (⟨"WallPlanner$Plan", "listRules", "()V"⟩, 6), (⟨"WallPlanner$Plan", "isNeedBy", "(III)Z"⟩, 6), (⟨"WallPlanner$Plan", "isBy", "(III)Z"⟩, 6), (⟨"WallPlanner$Shutter", "gatherCans", "(LWallPlanner$Plan;[I)Z"⟩, 8), (⟨"WallPlanner$Shutter", "widestWithout", "(I)I"⟩, 8), (⟨"WallPlanner$Shutter", "tollOf", "(I)I"⟩, 8), (⟨"WallPlanner$Shutter", "choose", "(I)V"⟩, 8), (⟨"WallPlannerModel", "way", "(III)I"⟩, 39), (⟨"WallPlannerModel", "isHost", "(I)Z"⟩, 39)]
theorem lw_r1 : ∀ q ∈ lw_privs_1, lw_okq q := List.forall_mem_cons.mpr ⟨lw_p0, List.forall_mem_cons.mpr ⟨lw_p1, List.forall_mem_cons.mpr ⟨lw_p2, List.forall_mem_cons.mpr ⟨lw_p3, List.forall_mem_cons.mpr ⟨lw_p4, List.forall_mem_cons.mpr ⟨lw_p5, List.forall_mem_cons.mpr ⟨lw_p6, List.forall_mem_cons.mpr ⟨lw_p7, List.forall_mem_cons.mpr ⟨lw_p8, List.forall_mem_cons.mpr ⟨lw_p9, List.forall_mem_cons.mpr ⟨lw_p10, List.forall_mem_cons.mpr ⟨lw_p11, List.forall_mem_cons.mpr ⟨lw_p12, List.forall_mem_cons.mpr ⟨lw_p13, List.forall_mem_cons.mpr ⟨lw_p14, List.forall_mem_cons.mpr ⟨lw_p15, fun _ h => absurd h List.not_mem_nil⟩⟩⟩⟩⟩⟩⟩⟩⟩⟩⟩⟩⟩⟩⟩⟩
theorem lw_p16 : lw_okq (⟨"WallPlannerModel", "weightOf", "(II)I"⟩, 39) := ⟨⟨by decide +kernel, by decide +kernel⟩, List.mem_of_getElem? (i := 683) (by decide +kernel), List.mem_of_getElem? (i := 847) (by decide +kernel), List.mem_of_getElem? (i := 848) (by decide +kernel)⟩
theorem lw_p17 : lw_okq (⟨"WallPlannerModel", "isNeeded", "(II)Z"⟩, 39) := ⟨⟨by decide +kernel, by decide +kernel⟩, List.mem_of_getElem? (i := 683) (by decide +kernel), List.mem_of_getElem? (i := 855) (by decide +kernel), List.mem_of_getElem? (i := 856) (by decide +kernel)⟩
theorem lw_p18 : lw_okq (⟨"WallPlannerModel", "dues", "(I)V"⟩, 39) := ⟨⟨by decide +kernel, by decide +kernel⟩, List.mem_of_getElem? (i := 683) (by decide +kernel), List.mem_of_getElem? (i := 863) (by decide +kernel), List.mem_of_getElem? (i := 864) (by decide +kernel)⟩
theorem lw_p19 : lw_okq (⟨"WallPlannerModel", "mixes", "()Z"⟩, 39) := ⟨⟨by decide +kernel, by decide +kernel⟩, List.mem_of_getElem? (i := 683) (by decide +kernel), List.mem_of_getElem? (i := 867) (by decide +kernel), List.mem_of_getElem? (i := 868) (by decide +kernel)⟩
theorem lw_p20 : lw_okq (⟨"WallPlannerModel", "costs", "()I"⟩, 39) := ⟨⟨by decide +kernel, by decide +kernel⟩, List.mem_of_getElem? (i := 683) (by decide +kernel), List.mem_of_getElem? (i := 871) (by decide +kernel), List.mem_of_getElem? (i := 872) (by decide +kernel)⟩
theorem lw_p21 : lw_okq (⟨"WallPlannerModel", "isTried", "(I)Z"⟩, 39) := ⟨⟨by decide +kernel, by decide +kernel⟩, List.mem_of_getElem? (i := 683) (by decide +kernel), List.mem_of_getElem? (i := 875) (by decide +kernel), List.mem_of_getElem? (i := 876) (by decide +kernel)⟩
theorem lw_p22 : lw_okq (⟨"WallPlannerModel", "between", "(I)I"⟩, 39) := ⟨⟨by decide +kernel, by decide +kernel⟩, List.mem_of_getElem? (i := 683) (by decide +kernel), List.mem_of_getElem? (i := 879) (by decide +kernel), List.mem_of_getElem? (i := 880) (by decide +kernel)⟩
theorem lw_p23 : lw_okq (⟨"WallPlannerModel", "goesOn", "()Z"⟩, 39) := ⟨⟨by decide +kernel, by decide +kernel⟩, List.mem_of_getElem? (i := 683) (by decide +kernel), List.mem_of_getElem? (i := 883) (by decide +kernel), List.mem_of_getElem? (i := 884) (by decide +kernel)⟩
theorem lw_p24 : lw_okq (⟨"WallPlannerModel", "comes", "(I)V"⟩, 39) := ⟨⟨by decide +kernel, by decide +kernel⟩, List.mem_of_getElem? (i := 683) (by decide +kernel), List.mem_of_getElem? (i := 888) (by decide +kernel), List.mem_of_getElem? (i := 889) (by decide +kernel)⟩
theorem lw_p25 : lw_okq (⟨"WallPlannerModel", "ruleAt", "(I)I"⟩, 39) := ⟨⟨by decide +kernel, by decide +kernel⟩, List.mem_of_getElem? (i := 683) (by decide +kernel), List.mem_of_getElem? (i := 900) (by decide +kernel), List.mem_of_getElem? (i := 901) (by decide +kernel)⟩
theorem lw_p26 : lw_okq (⟨"WallPlannerModel", "isBy", "(II)Z"⟩, 39) := ⟨⟨by decide +kernel, by decide +kernel⟩, List.mem_of_getElem? (i := 683) (by decide +kernel), List.mem_of_getElem? (i := 904) (by decide +kernel), List.mem_of_getElem? (i := 905) (by decide +kernel)⟩
theorem lw_p27 : lw_okq (⟨"WallPlannerModel", "canShut", "(I)Z"⟩, 39) := ⟨⟨by decide +kernel, by decide +kernel⟩, List.mem_of_getElem? (i := 683) (by decide +kernel), List.mem_of_getElem? (i := 908) (by decide +kernel), List.mem_of_getElem? (i := 909) (by decide +kernel)⟩
theorem lw_p28 : lw_okq (⟨"WallPlannerModel", "letsBy", "(I)I"⟩, 39) := ⟨⟨by decide +kernel, by decide +kernel⟩, List.mem_of_getElem? (i := 683) (by decide +kernel), List.mem_of_getElem? (i := 916) (by decide +kernel), List.mem_of_getElem? (i := 917) (by decide +kernel)⟩
theorem lw_p29 : lw_okq (⟨"WallPlannerModel", "opens", "()V"⟩, 39) := ⟨⟨by decide +kernel, by decide +kernel⟩, List.mem_of_getElem? (i := 683) (by decide +kernel), List.mem_of_getElem? (i := 924) (by decide +kernel), List.mem_of_getElem? (i := 925) (by decide +kernel)⟩
theorem lw_p30 : lw_okq (⟨"WallPlannerModel", "reachOf", "(I)I"⟩, 39) := ⟨⟨by decide +kernel, by decide +kernel⟩, List.mem_of_getElem? (i := 683) (by decide +kernel), List.mem_of_getElem? (i := 928) (by decide +kernel), List.mem_of_getElem? (i := 929) (by decide +kernel)⟩
theorem lw_p31 : lw_okq (⟨"WallPlannerModel", "spreads", "()I"⟩, 39) := ⟨⟨by decide +kernel, by decide +kernel⟩, List.mem_of_getElem? (i := 683) (by decide +kernel), List.mem_of_getElem? (i := 936) (by decide +kernel), List.mem_of_getElem? (i := 937) (by decide +kernel)⟩
def lw_privs_2 : List (MethodName × Nat) := [(⟨"WallPlannerModel", "weightOf", "(II)I"⟩, 39), (⟨"WallPlannerModel", "isNeeded", "(II)Z"⟩, 39), (⟨"WallPlannerModel", "dues", "(I)V"⟩, 39), (⟨"WallPlannerModel", "mixes", "()Z"⟩, 39), (⟨"WallPlannerModel", "costs", "()I"⟩, 39), (⟨"WallPlannerModel", "isTried", "(I)Z"⟩, 39), (⟨"WallPlannerModel", "between", "(I)I"⟩, 39), (⟨"WallPlannerModel", "goesOn", "()Z"⟩, 39), (⟨"WallPlannerModel", "comes", "(I)V"⟩, 39), (⟨"WallPlannerModel", "ruleAt", "(I)I"⟩, 39), (⟨"WallPlannerModel", "isBy", "(II)Z"⟩, 39), (⟨"WallPlannerModel", "canShut", "(I)Z"⟩, 39), (⟨"WallPlannerModel", "letsBy", "(I)I"⟩, 39), (⟨"WallPlannerModel", "opens", "()V"⟩, 39), (⟨"WallPlannerModel", "reachOf", "(I)I"⟩, 39), (⟨"WallPlannerModel", "spreads", "()I"⟩, 39)]
theorem lw_r2 : ∀ q ∈ lw_privs_2, lw_okq q := List.forall_mem_cons.mpr ⟨lw_p16, List.forall_mem_cons.mpr ⟨lw_p17, List.forall_mem_cons.mpr ⟨lw_p18, List.forall_mem_cons.mpr ⟨lw_p19, List.forall_mem_cons.mpr ⟨lw_p20, List.forall_mem_cons.mpr ⟨lw_p21, List.forall_mem_cons.mpr ⟨lw_p22, List.forall_mem_cons.mpr ⟨lw_p23, List.forall_mem_cons.mpr ⟨lw_p24, List.forall_mem_cons.mpr ⟨lw_p25, List.forall_mem_cons.mpr ⟨lw_p26, List.forall_mem_cons.mpr ⟨lw_p27, List.forall_mem_cons.mpr ⟨lw_p28, List.forall_mem_cons.mpr ⟨lw_p29, List.forall_mem_cons.mpr ⟨lw_p30, List.forall_mem_cons.mpr ⟨lw_p31, fun _ h => absurd h List.not_mem_nil⟩⟩⟩⟩⟩⟩⟩⟩⟩⟩⟩⟩⟩⟩⟩⟩
theorem lw_p32 : lw_okq (⟨"WallPlannerModel", "nearOf", "(I)I"⟩, 39) := ⟨⟨by decide +kernel, by decide +kernel⟩, List.mem_of_getElem? (i := 683) (by decide +kernel), List.mem_of_getElem? (i := 952) (by decide +kernel), List.mem_of_getElem? (i := 953) (by decide +kernel)⟩
theorem lw_p33 : lw_okq (⟨"WallPlannerModel", "roomMany", "()I"⟩, 39) := ⟨⟨by decide +kernel, by decide +kernel⟩, List.mem_of_getElem? (i := 683) (by decide +kernel), List.mem_of_getElem? (i := 964) (by decide +kernel), List.mem_of_getElem? (i := 965) (by decide +kernel)⟩
theorem lw_p34 : lw_okq (⟨"WallPlannerModel", "putsIn", "(II)V"⟩, 39) := ⟨⟨by decide +kernel, by decide +kernel⟩, List.mem_of_getElem? (i := 683) (by decide +kernel), List.mem_of_getElem? (i := 968) (by decide +kernel), List.mem_of_getElem? (i := 969) (by decide +kernel)⟩
theorem lw_p35 : lw_okq (⟨"WallPlannerModel", "isUnlike", "(II)Z"⟩, 39) := ⟨⟨by decide +kernel, by decide +kernel⟩, List.mem_of_getElem? (i := 683) (by decide +kernel), List.mem_of_getElem? (i := 972) (by decide +kernel), List.mem_of_getElem? (i := 973) (by decide +kernel)⟩
def lw_privs_3 : List (MethodName × Nat) := [(⟨"WallPlannerModel", "nearOf", "(I)I"⟩, 39), (⟨"WallPlannerModel", "roomMany", "()I"⟩, 39), (⟨"WallPlannerModel", "putsIn", "(II)V"⟩, 39), (⟨"WallPlannerModel", "isUnlike", "(II)Z"⟩, 39)]
theorem lw_r3 : ∀ q ∈ lw_privs_3, lw_okq q := List.forall_mem_cons.mpr ⟨lw_p32, List.forall_mem_cons.mpr ⟨lw_p33, List.forall_mem_cons.mpr ⟨lw_p34, List.forall_mem_cons.mpr ⟨lw_p35, fun _ h => absurd h List.not_mem_nil⟩⟩⟩⟩
def lw_privs : List (MethodName × Nat) := lw_privs_1 ++ (lw_privs_2 ++ (lw_privs_3))
def lw_tbl : List Cond := k2_sels lw_privs ++ tables_1
theorem lw_privs_ok : ∀ q ∈ lw_privs, lw_okq q := by
  show ∀ q ∈ lw_privs_1 ++ (lw_privs_2 ++ (lw_privs_3)), lw_okq q
  exact List.forall_mem_append.mpr ⟨lw_r1, List.forall_mem_append.mpr ⟨lw_r2, lw_r3⟩⟩
end
section
def RX0 : String := "WallPlanner$Diary"
def TX0 : u_T := fun k => match k with
  | 0 => ("WallPlanner$Diary", "wayAt", "[I", true)
  | 1 => ("WallPlanner$Diary", "dayAt", "[I", true)
  | 2 => ("WallPlanner$Diary", "countAt", "[I", true)
  | _ => ("WallPlanner$Diary", "size", "I", false)
def tyX0 : Nat → FieldType := fun k => match k with
  | 0 => .array .int
  | 1 => .array .int
  | 2 => .array .int
  | _ => .int
abbrev wsX00 : List Cond := u_ws RX0 TX0 4
theorem nmX0 : ∀ a, a < 4 → ∀ b, b < 4 → a ≠ b → (TX0 a).2.1 ≠ (TX0 b).2.1 := by decide +kernel
theorem tyX0_ok : ∀ k, k < 4 → parseFieldDescriptor (TX0 k).2.2.1 = some (tyX0 k) := by decide +kernel
abbrev cX0_init : ByteArray := prog_2_method_1_code
def yX0_init : MethodName := ⟨RX0, "<init>", "()V"⟩
abbrev cX0_write : ByteArray := prog_2_method_2_code
def yX0_write : MethodName := ⟨RX0, "write", "(III)I"⟩
abbrev cX0_isWithin : ByteArray := prog_2_method_3_code
def yX0_isWithin : MethodName := ⟨RX0, "isWithin", "(III)Z"⟩
abbrev cX0_sumOf : ByteArray := prog_2_method_4_code
def yX0_sumOf : MethodName := ⟨RX0, "sumOf", "(III)I"⟩
abbrev cX0_sumAll : ByteArray := prog_2_method_5_code
def yX0_sumAll : MethodName := ⟨RX0, "sumAll", "([III)V"⟩
def RX1 : String := "WallPlanner$Law"
def TX1 : u_T := fun k => match k with
  | 0 => ("WallPlanner$Law", "window", "I", false)
  | 1 => ("WallPlanner$Law", "least", "I", false)
  | 2 => ("WallPlanner$Law", "strict", "Z", false)
  | 3 => ("WallPlanner$Law", "rulePrice", "I", false)
  | _ => ("WallPlanner$Law", "strayPrice", "I", false)
def tyX1 : Nat → FieldType := fun k => match k with
  | 0 => .int
  | 1 => .int
  | 2 => .boolean
  | 3 => .int
  | _ => .int
abbrev wsX10 : List Cond := u_ws RX1 TX1 5
theorem nmX1 : ∀ a, a < 5 → ∀ b, b < 5 → a ≠ b → (TX1 a).2.1 ≠ (TX1 b).2.1 := by decide +kernel
theorem tyX1_ok : ∀ k, k < 5 → parseFieldDescriptor (TX1 k).2.2.1 = some (tyX1 k) := by decide +kernel
abbrev cX1_init : ByteArray := prog_3_method_1_code
def yX1_init : MethodName := ⟨RX1, "<init>", "()V"⟩
abbrev cX1_costOf : ByteArray := prog_3_method_2_code
def yX1_costOf : MethodName := ⟨RX1, "costOf", "(II)I"⟩
def RX2 : String := "WallPlanner$Layout"
def TX2 : u_T := fun k => match k with
  | 0 => ("WallPlanner$Layout", "roomOf", "[I", true)
  | 1 => ("WallPlanner$Layout", "doors", "[I", true)
  | 2 => ("WallPlanner$Layout", "rules", "I", false)
  | 3 => ("WallPlanner$Layout", "strays", "I", false)
  | _ => ("WallPlanner$Layout", "letsBarred", "Z", false)
def tyX2 : Nat → FieldType := fun k => match k with
  | 0 => .array .int
  | 1 => .array .int
  | 2 => .int
  | 3 => .int
  | _ => .boolean
abbrev wsX20 : List Cond := u_ws RX2 TX2 5
theorem nmX2 : ∀ a, a < 5 → ∀ b, b < 5 → a ≠ b → (TX2 a).2.1 ≠ (TX2 b).2.1 := by decide +kernel
theorem tyX2_ok : ∀ k, k < 5 → parseFieldDescriptor (TX2 k).2.2.1 = some (tyX2 k) := by decide +kernel
abbrev cX2_init : ByteArray := prog_4_method_1_code
def yX2_init : MethodName := ⟨RX2, "<init>", "()V"⟩
abbrev cX2_areIn : ByteArray := prog_4_method_2_code
def yX2_areIn : MethodName := ⟨RX2, "areIn", "(II)Z"⟩
abbrev cX2_doorsBetween : ByteArray := prog_4_method_3_code
def yX2_doorsBetween : MethodName := ⟨RX2, "doorsBetween", "(II)I"⟩
abbrev cX2_isLet : ByteArray := prog_4_method_4_code
def yX2_isLet : MethodName := ⟨RX2, "isLet", "(III)Z"⟩
abbrev cX2_roomCount : ByteArray := prog_4_method_5_code
def yX2_roomCount : MethodName := ⟨RX2, "roomCount", "()I"⟩
abbrev cX2_copyRooms : ByteArray := prog_4_method_6_code
def yX2_copyRooms : MethodName := ⟨RX2, "copyRooms", "([I)V"⟩
abbrev cX2_hasUnlike : ByteArray := prog_4_method_7_code
def yX2_hasUnlike : MethodName := ⟨RX2, "hasUnlike", "(I[I)Z"⟩
abbrev cX2_draw : ByteArray := prog_4_method_8_code
def yX2_draw : MethodName := ⟨RX2, "draw", "([I[II)V"⟩
abbrev cX2_openRooms : ByteArray := prog_4_method_9_code
def yX2_openRooms : MethodName := ⟨RX2, "openRooms", "()V"⟩
abbrev cX2_openDoorsFrom : ByteArray := prog_4_method_10_code
def yX2_openDoorsFrom : MethodName := ⟨RX2, "openDoorsFrom", "(I[II)V"⟩
abbrev cX2_countStraysFrom : ByteArray := prog_4_method_11_code
def yX2_countStraysFrom : MethodName := ⟨RX2, "countStraysFrom", "(I[I[II)V"⟩
def RX3 : String := "WallPlanner$Needs"
def TX3 : u_T := fun k => match k with
  | 0 => ("WallPlanner$Needs", "doors", "[I", true)
  | _ => ("WallPlanner$Needs", "weights", "[I", true)
def tyX3 : Nat → FieldType := fun k => match k with
  | 0 => .array .int
  | _ => .array .int
abbrev wsX30 : List Cond := u_ws RX3 TX3 2
theorem nmX3 : ∀ a, a < 2 → ∀ b, b < 2 → a ≠ b → (TX3 a).2.1 ≠ (TX3 b).2.1 := by decide +kernel
theorem tyX3_ok : ∀ k, k < 2 → parseFieldDescriptor (TX3 k).2.2.1 = some (tyX3 k) := by decide +kernel
abbrev cX3_init : ByteArray := prog_5_method_1_code
def yX3_init : MethodName := ⟨RX3, "<init>", "()V"⟩
abbrev cX3_take : ByteArray := prog_5_method_2_code
def yX3_take : MethodName := ⟨RX3, "take", "(LWallPlanner$Net;LWallPlanner$Law;LWallPlanner$Diary;I)V"⟩
abbrev cX3_doorsOf : ByteArray := prog_5_method_3_code
def yX3_doorsOf : MethodName := ⟨RX3, "doorsOf", "(ILWallPlanner$Net;I)I"⟩
abbrev cX3_copyFrom : ByteArray := prog_5_method_4_code
def yX3_copyFrom : MethodName := ⟨RX3, "copyFrom", "(LWallPlanner$Needs;)V"⟩
abbrev cX3_total : ByteArray := prog_5_method_5_code
def yX3_total : MethodName := ⟨RX3, "total", "()I"⟩
def RX4 : String := "WallPlanner$Net"
def TX4 : u_T := fun k => match k with
  | 0 => ("WallPlanner$Net", "marks", "[I", true)
  | 1 => ("WallPlanner$Net", "musts", "[I", true)
  | 2 => ("WallPlanner$Net", "bars", "[I", true)
  | _ => ("WallPlanner$Net", "hosts", "I", false)
def tyX4 : Nat → FieldType := fun k => match k with
  | 0 => .array .int
  | 1 => .array .int
  | 2 => .array .int
  | _ => .int
abbrev wsX40 : List Cond := u_ws RX4 TX4 4
theorem nmX4 : ∀ a, a < 4 → ∀ b, b < 4 → a ≠ b → (TX4 a).2.1 ≠ (TX4 b).2.1 := by decide +kernel
theorem tyX4_ok : ∀ k, k < 4 → parseFieldDescriptor (TX4 k).2.2.1 = some (tyX4 k) := by decide +kernel
abbrev cX4_init : ByteArray := prog_6_method_1_code
def yX4_init : MethodName := ⟨RX4, "<init>", "()V"⟩
abbrev cX4_addHost : ByteArray := prog_6_method_2_code
def yX4_addHost : MethodName := ⟨RX4, "addHost", "(I)I"⟩
abbrev cX4_isHost : ByteArray := prog_6_method_3_code
def yX4_isHost : MethodName := ⟨RX4, "isHost", "(I)Z"⟩
abbrev cX4_isWay : ByteArray := prog_6_method_4_code
def yX4_isWay : MethodName := ⟨RX4, "isWay", "(III)Z"⟩
abbrev cX4_isNeed : ByteArray := prog_6_method_5_code
def yX4_isNeed : MethodName := ⟨RX4, "isNeed", "(IIII)Z"⟩
def RX5 : String := "WallPlanner$OddList"
def TX5 : u_T := fun k => match k with
  | 0 => ("WallPlanner$OddList", "talkAt", "[I", true)
  | 1 => ("WallPlanner$OddList", "nearAt", "[I", true)
  | _ => ("WallPlanner$OddList", "size", "I", false)
def tyX5 : Nat → FieldType := fun k => match k with
  | 0 => .array .int
  | 1 => .array .int
  | _ => .int
abbrev wsX50 : List Cond := u_ws RX5 TX5 3
theorem nmX5 : ∀ a, a < 3 → ∀ b, b < 3 → a ≠ b → (TX5 a).2.1 ≠ (TX5 b).2.1 := by decide +kernel
theorem tyX5_ok : ∀ k, k < 3 → parseFieldDescriptor (TX5 k).2.2.1 = some (tyX5 k) := by decide +kernel
abbrev cX5_init : ByteArray := prog_7_method_1_code
def yX5_init : MethodName := ⟨RX5, "<init>", "()V"⟩
abbrev cX5_gather : ByteArray := prog_7_method_2_code
def yX5_gather : MethodName := ⟨RX5, "gather", "(LWallPlanner$Diary;LWallPlanner$Layout;I)V"⟩
abbrev cX5_nearnessOf : ByteArray := prog_7_method_3_code
def yX5_nearnessOf : MethodName := ⟨RX5, "nearnessOf", "(ILWallPlanner$Layout;)I"⟩
def RX6 : String := "WallPlanner$Plan"
def TX6 : u_T := fun k => match k with
  | 0 => ("WallPlanner$Plan", "layout", "LWallPlanner$Layout;", true)
  | 1 => ("WallPlanner$Plan", "needs", "LWallPlanner$Needs;", true)
  | 2 => ("WallPlanner$Plan", "ruleAt", "[I", true)
  | 3 => ("WallPlanner$Plan", "rules", "I", false)
  | 4 => ("WallPlanner$Plan", "cost", "I", false)
  | _ => ("WallPlanner$Plan", "made", "Z", false)
def tyX6 : Nat → FieldType := fun k => match k with
  | 0 => .object "WallPlanner$Layout"
  | 1 => .object "WallPlanner$Needs"
  | 2 => .array .int
  | 3 => .int
  | 4 => .int
  | _ => .boolean
abbrev wsX60 : List Cond := u_ws RX6 TX6 6
theorem nmX6 : ∀ a, a < 6 → ∀ b, b < 6 → a ≠ b → (TX6 a).2.1 ≠ (TX6 b).2.1 := by decide +kernel
theorem tyX6_ok : ∀ k, k < 6 → parseFieldDescriptor (TX6 k).2.2.1 = some (tyX6 k) := by decide +kernel
abbrev cX6_init : ByteArray := prog_8_method_1_code
def yX6_init : MethodName := ⟨RX6, "<init>", "()V"⟩
abbrev cX6_settle : ByteArray := prog_8_method_2_code
def yX6_settle : MethodName := ⟨RX6, "settle", "([ILWallPlanner$Needs;LWallPlanner$Net;LWallPlanner$Law;)V"⟩
abbrev cX6_listRules : ByteArray := prog_8_method_3_code
def yX6_listRules : MethodName := ⟨RX6, "listRules", "()V"⟩
abbrev cX6_isBy : ByteArray := prog_8_method_4_code
def yX6_isBy : MethodName := ⟨RX6, "isBy", "(III)Z"⟩
abbrev cX6_isNeedBy : ByteArray := prog_8_method_5_code
def yX6_isNeedBy : MethodName := ⟨RX6, "isNeedBy", "(III)Z"⟩
abbrev cX6_waysBy : ByteArray := prog_8_method_6_code
def yX6_waysBy : MethodName := ⟨RX6, "waysBy", "(I)I"⟩
abbrev cX6_weightBy : ByteArray := prog_8_method_7_code
def yX6_weightBy : MethodName := ⟨RX6, "weightBy", "(II)I"⟩
abbrev cX6_isMustBy : ByteArray := prog_8_method_8_code
def yX6_isMustBy : MethodName := ⟨RX6, "isMustBy", "(I[I)Z"⟩
def RX7 : String := "WallPlanner$Seeker"
def TX7 : u_T := fun k => match k with
  | 0 => ("WallPlanner$Seeker", "trial", "LWallPlanner$Layout;", true)
  | 1 => ("WallPlanner$Seeker", "roomsBefore", "[I", true)
  | 2 => ("WallPlanner$Seeker", "found", "[I", true)
  | 3 => ("WallPlanner$Seeker", "trialCost", "I", false)
  | _ => ("WallPlanner$Seeker", "leastCost", "I", false)
def tyX7 : Nat → FieldType := fun k => match k with
  | 0 => .object "WallPlanner$Layout"
  | 1 => .array .int
  | 2 => .array .int
  | 3 => .int
  | _ => .int
abbrev wsX70 : List Cond := u_ws RX7 TX7 5
theorem nmX7 : ∀ a, a < 5 → ∀ b, b < 5 → a ≠ b → (TX7 a).2.1 ≠ (TX7 b).2.1 := by decide +kernel
theorem tyX7_ok : ∀ k, k < 5 → parseFieldDescriptor (TX7 k).2.2.1 = some (tyX7 k) := by decide +kernel
abbrev cX7_init : ByteArray := prog_9_method_1_code
def yX7_init : MethodName := ⟨RX7, "<init>", "()V"⟩
abbrev cX7_seekRooms : ByteArray := prog_9_method_2_code
def yX7_seekRooms : MethodName := ⟨RX7, "seekRooms", "(LWallPlanner$Net;LWallPlanner$Law;LWallPlanner$Needs;)V"⟩
abbrev cX7_goOn : ByteArray := prog_9_method_3_code
def yX7_goOn : MethodName := ⟨RX7, "goOn", "(II)I"⟩
abbrev cX7_seekRoomFor : ByteArray := prog_9_method_4_code
def yX7_seekRoomFor : MethodName := ⟨RX7, "seekRoomFor", "(ILWallPlanner$Plan;LWallPlanner$Net;LWallPlanner$Law;LWallPlanner$Needs;)I"⟩
abbrev cX7_isCheaper : ByteArray := prog_9_method_5_code
def yX7_isCheaper : MethodName := ⟨RX7, "isCheaper", "(IILWallPlanner$Net;LWallPlanner$Law;LWallPlanner$Needs;)Z"⟩
abbrev cX7_keepTrial : ByteArray := prog_9_method_6_code
def yX7_keepTrial : MethodName := ⟨RX7, "keepTrial", "()V"⟩
def RX8 : String := "WallPlanner$Shutter"
def TX8 : u_T := fun k => match k with
  | 0 => ("WallPlanner$Shutter", "spreading", "LWallPlanner$Spreading;", true)
  | 1 => ("WallPlanner$Shutter", "fixed", "[I", true)
  | 2 => ("WallPlanner$Shutter", "canAt", "[I", true)
  | 3 => ("WallPlanner$Shutter", "ruleAt", "[I", true)
  | 4 => ("WallPlanner$Shutter", "tollAt", "[I", true)
  | 5 => ("WallPlanner$Shutter", "cans", "I", false)
  | 6 => ("WallPlanner$Shutter", "chosen", "[I", true)
  | _ => ("WallPlanner$Shutter", "chosenCount", "I", false)
def tyX8 : Nat → FieldType := fun k => match k with
  | 0 => .object "WallPlanner$Spreading"
  | 1 => .array .int
  | 2 => .array .int
  | 3 => .array .int
  | 4 => .array .int
  | 5 => .int
  | 6 => .array .int
  | _ => .int
abbrev wsX80 : List Cond := u_ws RX8 TX8 8
theorem nmX8 : ∀ a, a < 8 → ∀ b, b < 8 → a ≠ b → (TX8 a).2.1 ≠ (TX8 b).2.1 := by decide +kernel
theorem tyX8_ok : ∀ k, k < 8 → parseFieldDescriptor (TX8 k).2.2.1 = some (tyX8 k) := by decide +kernel
abbrev cX8_init : ByteArray := prog_10_method_1_code
def yX8_init : MethodName := ⟨RX8, "<init>", "()V"⟩
abbrev cX8_seekSet : ByteArray := prog_10_method_2_code
def yX8_seekSet : MethodName := ⟨RX8, "seekSet", "(LWallPlanner$Plan;[II)I"⟩
abbrev cX8_gatherCans : ByteArray := prog_10_method_3_code
def yX8_gatherCans : MethodName := ⟨RX8, "gatherCans", "(LWallPlanner$Plan;[I)Z"⟩
abbrev cX8_tollOf : ByteArray := prog_10_method_4_code
def yX8_tollOf : MethodName := ⟨RX8, "tollOf", "(I)I"⟩
abbrev cX8_widestWithout : ByteArray := prog_10_method_5_code
def yX8_widestWithout : MethodName := ⟨RX8, "widestWithout", "(I)I"⟩
abbrev cX8_choose : ByteArray := prog_10_method_6_code
def yX8_choose : MethodName := ⟨RX8, "choose", "(I)V"⟩
def RX9 : String := "WallPlanner$Spreading"
def TX9 : u_T := fun k => match k with
  | 0 => ("WallPlanner$Spreading", "sizes", "[I", true)
  | 1 => ("WallPlanner$Spreading", "next", "[I", true)
  | _ => ("WallPlanner$Spreading", "rooms", "I", false)
def tyX9 : Nat → FieldType := fun k => match k with
  | 0 => .array .int
  | 1 => .array .int
  | _ => .int
abbrev wsX90 : List Cond := u_ws RX9 TX9 3
theorem nmX9 : ∀ a, a < 3 → ∀ b, b < 3 → a ≠ b → (TX9 a).2.1 ≠ (TX9 b).2.1 := by decide +kernel
theorem tyX9_ok : ∀ k, k < 3 → parseFieldDescriptor (TX9 k).2.2.1 = some (tyX9 k) := by decide +kernel
abbrev cX9_init : ByteArray := prog_11_method_1_code
def yX9_init : MethodName := ⟨RX9, "<init>", "()V"⟩
abbrev cX9_follow : ByteArray := prog_11_method_2_code
def yX9_follow : MethodName := ⟨RX9, "follow", "(LWallPlanner$Plan;)V"⟩
abbrev cX9_begin : ByteArray := prog_11_method_3_code
def yX9_begin : MethodName := ⟨RX9, "begin", "(LWallPlanner$Layout;)V"⟩
abbrev cX9_addRule : ByteArray := prog_11_method_4_code
def yX9_addRule : MethodName := ⟨RX9, "addRule", "(I)V"⟩
abbrev cX9_chain : ByteArray := prog_11_method_5_code
def yX9_chain : MethodName := ⟨RX9, "chain", "()V"⟩
abbrev cX9_othersFrom : ByteArray := prog_11_method_6_code
def yX9_othersFrom : MethodName := ⟨RX9, "othersFrom", "(I)I"⟩
abbrev cX9_widest : ByteArray := prog_11_method_7_code
def yX9_widest : MethodName := ⟨RX9, "widest", "()I"⟩
abbrev cX9_firstWith : ByteArray := prog_11_method_8_code
def yX9_firstWith : MethodName := ⟨RX9, "firstWith", "(ILWallPlanner$Layout;)I"⟩
def RX10 : String := "WallPlanner"
def TX10 : u_T := fun k => match k with
  | 0 => ("WallPlanner", "net", "LWallPlanner$Net;", true)
  | 1 => ("WallPlanner", "lawNow", "LWallPlanner$Law;", true)
  | 2 => ("WallPlanner", "diary", "LWallPlanner$Diary;", true)
  | 3 => ("WallPlanner", "walls", "LWallPlanner$Plan;", true)
  | 4 => ("WallPlanner", "fresh", "LWallPlanner$Needs;", true)
  | 5 => ("WallPlanner", "seeker", "LWallPlanner$Seeker;", true)
  | 6 => ("WallPlanner", "spreading", "LWallPlanner$Spreading;", true)
  | 7 => ("WallPlanner", "shutter", "LWallPlanner$Shutter;", true)
  | _ => ("WallPlanner", "oddList", "LWallPlanner$OddList;", true)
def tyX10 : Nat → FieldType := fun k => match k with
  | 0 => .object "WallPlanner$Net"
  | 1 => .object "WallPlanner$Law"
  | 2 => .object "WallPlanner$Diary"
  | 3 => .object "WallPlanner$Plan"
  | 4 => .object "WallPlanner$Needs"
  | 5 => .object "WallPlanner$Seeker"
  | 6 => .object "WallPlanner$Spreading"
  | 7 => .object "WallPlanner$Shutter"
  | _ => .object "WallPlanner$OddList"
abbrev wsX100 : List Cond := u_ws RX10 TX10 9
theorem nmX10 : ∀ a, a < 9 → ∀ b, b < 9 → a ≠ b → (TX10 a).2.1 ≠ (TX10 b).2.1 := by decide +kernel
theorem tyX10_ok : ∀ k, k < 9 → parseFieldDescriptor (TX10 k).2.2.1 = some (tyX10 k) := by decide +kernel
abbrev cX10_init : ByteArray := prog_1_method_1_code
def yX10_init : MethodName := ⟨RX10, "<init>", "()V"⟩
abbrev cX10_host : ByteArray := prog_1_method_2_code
def yX10_host : MethodName := ⟨RX10, "host", "(I)I"⟩
abbrev cX10_talk : ByteArray := prog_1_method_3_code
def yX10_talk : MethodName := ⟨RX10, "talk", "(IIIII)I"⟩
abbrev cX10_must : ByteArray := prog_1_method_4_code
def yX10_must : MethodName := ⟨RX10, "must", "(IIIZ)Z"⟩
abbrev cX10_bar : ByteArray := prog_1_method_5_code
def yX10_bar : MethodName := ⟨RX10, "bar", "(IIIZ)Z"⟩
abbrev cX10_law : ByteArray := prog_1_method_6_code
def yX10_law : MethodName := ⟨RX10, "law", "(IIZ)Z"⟩
abbrev cX10_prices : ByteArray := prog_1_method_7_code
def yX10_prices : MethodName := ⟨RX10, "prices", "(II)Z"⟩
abbrev cX10_weight : ByteArray := prog_1_method_8_code
def yX10_weight : MethodName := ⟨RX10, "weight", "(IIII)I"⟩
abbrev cX10_needed : ByteArray := prog_1_method_9_code
def yX10_needed : MethodName := ⟨RX10, "needed", "(IIII)I"⟩
abbrev cX10_plan : ByteArray := prog_1_method_10_code
def yX10_plan : MethodName := ⟨RX10, "plan", "(I)I"⟩
abbrev cX10_room : ByteArray := prog_1_method_11_code
def yX10_room : MethodName := ⟨RX10, "room", "(I)I"⟩
abbrev cX10_rule : ByteArray := prog_1_method_12_code
def yX10_rule : MethodName := ⟨RX10, "rule", "(II)I"⟩
abbrev cX10_lets : ByteArray := prog_1_method_13_code
def yX10_lets : MethodName := ⟨RX10, "lets", "(III)I"⟩
abbrev cX10_reach : ByteArray := prog_1_method_14_code
def yX10_reach : MethodName := ⟨RX10, "reach", "(I)I"⟩
abbrev cX10_spread : ByteArray := prog_1_method_15_code
def yX10_spread : MethodName := ⟨RX10, "spread", "(I)I"⟩
abbrev cX10_shut : ByteArray := prog_1_method_16_code
def yX10_shut : MethodName := ⟨RX10, "shut", "(I)I"⟩
abbrev cX10_shutting : ByteArray := prog_1_method_17_code
def yX10_shutting : MethodName := ⟨RX10, "shutting", "(I)I"⟩
abbrev cX10_odd : ByteArray := prog_1_method_18_code
def yX10_odd : MethodName := ⟨RX10, "odd", "(I)I"⟩
abbrev cX10_oddTalk : ByteArray := prog_1_method_19_code
def yX10_oddTalk : MethodName := ⟨RX10, "oddTalk", "(II)I"⟩
abbrev cX10_place : ByteArray := prog_1_method_20_code
def yX10_place : MethodName := ⟨RX10, "place", "(II)I"⟩
abbrev cX10_count : ByteArray := prog_1_method_21_code
def yX10_count : MethodName := ⟨RX10, "count", "(I)I"⟩
abbrev cX10_isBetween : ByteArray := prog_1_method_22_code
def yX10_isBetween : MethodName := ⟨RX10, "isBetween", "(III)Z"⟩
abbrev cX10_isDay : ByteArray := prog_1_method_23_code
def yX10_isDay : MethodName := ⟨RX10, "isDay", "(I)Z"⟩
abbrev cX10_pairOf : ByteArray := prog_1_method_24_code
def yX10_pairOf : MethodName := ⟨RX10, "pairOf", "(II)I"⟩
abbrev cX10_wayOf : ByteArray := prog_1_method_25_code
def yX10_wayOf : MethodName := ⟨RX10, "wayOf", "(III)I"⟩
abbrev cX10_firstOf : ByteArray := prog_1_method_26_code
def yX10_firstOf : MethodName := ⟨RX10, "firstOf", "(I)I"⟩
abbrev cX10_secondOf : ByteArray := prog_1_method_27_code
def yX10_secondOf : MethodName := ⟨RX10, "secondOf", "(I)I"⟩
abbrev cX10_doorOf : ByteArray := prog_1_method_28_code
def yX10_doorOf : MethodName := ⟨RX10, "doorOf", "(I)I"⟩
abbrev cX10_hasDoor : ByteArray := prog_1_method_29_code
def yX10_hasDoor : MethodName := ⟨RX10, "hasDoor", "(II)Z"⟩
abbrev cX10_turnDoor : ByteArray := prog_1_method_30_code
def yX10_turnDoor : MethodName := ⟨RX10, "turnDoor", "([I[IIIZ)Z"⟩
def RX11 : String := "WallPlannerModel"
def TX11 : u_T := fun k => match k with
  | 0 => ("WallPlannerModel", "thrown", "I", false)
  | 1 => ("WallPlannerModel", "hosts", "I", false)
  | 2 => ("WallPlannerModel", "marks", "[I", true)
  | 3 => ("WallPlannerModel", "rooms", "[I", true)
  | 4 => ("WallPlannerModel", "talks", "I", false)
  | 5 => ("WallPlannerModel", "talkWay", "[I", true)
  | 6 => ("WallPlannerModel", "talkDay", "[I", true)
  | 7 => ("WallPlannerModel", "talkCount", "[I", true)
  | 8 => ("WallPlannerModel", "isMust", "[Z", true)
  | 9 => ("WallPlannerModel", "isBarred", "[Z", true)
  | 10 => ("WallPlannerModel", "window", "I", false)
  | 11 => ("WallPlannerModel", "least", "I", false)
  | 12 => ("WallPlannerModel", "strict", "Z", false)
  | 13 => ("WallPlannerModel", "rulePrice", "I", false)
  | 14 => ("WallPlannerModel", "strayPrice", "I", false)
  | 15 => ("WallPlannerModel", "isDue", "[Z", true)
  | 16 => ("WallPlannerModel", "dueWeight", "[I", true)
  | 17 => ("WallPlannerModel", "wasDue", "[Z", true)
  | 18 => ("WallPlannerModel", "wasWeight", "[I", true)
  | 19 => ("WallPlannerModel", "hasPlan", "Z", false)
  | 20 => ("WallPlannerModel", "planCost", "I", false)
  | 21 => ("WallPlannerModel", "planStrays", "I", false)
  | 22 => ("WallPlannerModel", "tried", "[I", true)
  | 23 => ("WallPlannerModel", "best", "[I", true)
  | 24 => ("WallPlannerModel", "isRule", "[Z", true)
  | 25 => ("WallPlannerModel", "wasRule", "[Z", true)
  | 26 => ("WallPlannerModel", "triedStrays", "I", false)
  | 27 => ("WallPlannerModel", "isShut", "[Z", true)
  | 28 => ("WallPlannerModel", "spreadAt", "I", false)
  | 29 => ("WallPlannerModel", "free", "[I", true)
  | 30 => ("WallPlannerModel", "freePrice", "[I", true)
  | 31 => ("WallPlannerModel", "freeNumber", "[I", true)
  | 32 => ("WallPlannerModel", "shutSet", "I", false)
  | 33 => ("WallPlannerModel", "shutNumber", "[I", true)
  | 34 => ("WallPlannerModel", "shutMany", "I", false)
  | 35 => ("WallPlannerModel", "oddWay", "[I", true)
  | 36 => ("WallPlannerModel", "oddCount", "[I", true)
  | 37 => ("WallPlannerModel", "oddNear", "[I", true)
  | _ => ("WallPlannerModel", "oddMany", "I", false)
def tyX11 : Nat → FieldType := fun k => match k with
  | 0 => .int
  | 1 => .int
  | 2 => .array .int
  | 3 => .array .int
  | 4 => .int
  | 5 => .array .int
  | 6 => .array .int
  | 7 => .array .int
  | 8 => .array .boolean
  | 9 => .array .boolean
  | 10 => .int
  | 11 => .int
  | 12 => .boolean
  | 13 => .int
  | 14 => .int
  | 15 => .array .boolean
  | 16 => .array .int
  | 17 => .array .boolean
  | 18 => .array .int
  | 19 => .boolean
  | 20 => .int
  | 21 => .int
  | 22 => .array .int
  | 23 => .array .int
  | 24 => .array .boolean
  | 25 => .array .boolean
  | 26 => .int
  | 27 => .array .boolean
  | 28 => .int
  | 29 => .array .int
  | 30 => .array .int
  | 31 => .array .int
  | 32 => .int
  | 33 => .array .int
  | 34 => .int
  | 35 => .array .int
  | 36 => .array .int
  | 37 => .array .int
  | _ => .int
abbrev wsX110 : List Cond := u_ws RX11 TX11 39
theorem nmX11 : ∀ a, a < 39 → ∀ b, b < 39 → a ≠ b → (TX11 a).2.1 ≠ (TX11 b).2.1 := by decide +kernel
theorem tyX11_ok : ∀ k, k < 39 → parseFieldDescriptor (TX11 k).2.2.1 = some (tyX11 k) := by decide +kernel
abbrev cX11_init : ByteArray := prog_13_method_1_code
def yX11_init : MethodName := ⟨RX11, "<init>", "()V"⟩
abbrev cX11_isHost : ByteArray := prog_13_method_3_code
def yX11_isHost : MethodName := ⟨RX11, "isHost", "(I)Z"⟩
abbrev cX11_way : ByteArray := prog_13_method_4_code
def yX11_way : MethodName := ⟨RX11, "way", "(III)I"⟩
abbrev cX11_isDay : ByteArray := prog_13_method_5_code
def yX11_isDay : MethodName := ⟨RX11, "isDay", "(I)Z"⟩
abbrev cX11_host : ByteArray := prog_13_method_6_code
def yX11_host : MethodName := ⟨RX11, "host", "(I)I"⟩
abbrev cX11_talk : ByteArray := prog_13_method_7_code
def yX11_talk : MethodName := ⟨RX11, "talk", "(IIIII)I"⟩
abbrev cX11_must : ByteArray := prog_13_method_8_code
def yX11_must : MethodName := ⟨RX11, "must", "(IIIZ)Z"⟩
abbrev cX11_bar : ByteArray := prog_13_method_9_code
def yX11_bar : MethodName := ⟨RX11, "bar", "(IIIZ)Z"⟩
abbrev cX11_law : ByteArray := prog_13_method_10_code
def yX11_law : MethodName := ⟨RX11, "law", "(IIZ)Z"⟩
abbrev cX11_prices : ByteArray := prog_13_method_11_code
def yX11_prices : MethodName := ⟨RX11, "prices", "(II)Z"⟩
abbrev cX11_weightOf : ByteArray := prog_13_method_12_code
def yX11_weightOf : MethodName := ⟨RX11, "weightOf", "(II)I"⟩
abbrev cX11_isNeeded : ByteArray := prog_13_method_13_code
def yX11_isNeeded : MethodName := ⟨RX11, "isNeeded", "(II)Z"⟩
abbrev cX11_weight : ByteArray := prog_13_method_14_code
def yX11_weight : MethodName := ⟨RX11, "weight", "(IIII)I"⟩
abbrev cX11_needed : ByteArray := prog_13_method_15_code
def yX11_needed : MethodName := ⟨RX11, "needed", "(IIII)I"⟩
abbrev cX11_dues : ByteArray := prog_13_method_16_code
def yX11_dues : MethodName := ⟨RX11, "dues", "(I)V"⟩
abbrev cX11_between : ByteArray := prog_13_method_17_code
def yX11_between : MethodName := ⟨RX11, "between", "(I)I"⟩
abbrev cX11_isTried : ByteArray := prog_13_method_18_code
def yX11_isTried : MethodName := ⟨RX11, "isTried", "(I)Z"⟩
abbrev cX11_costs : ByteArray := prog_13_method_19_code
def yX11_costs : MethodName := ⟨RX11, "costs", "()I"⟩
abbrev cX11_mixes : ByteArray := prog_13_method_20_code
def yX11_mixes : MethodName := ⟨RX11, "mixes", "()Z"⟩
abbrev cX11_goesOn : ByteArray := prog_13_method_21_code
def yX11_goesOn : MethodName := ⟨RX11, "goesOn", "()Z"⟩
abbrev cX11_comes : ByteArray := prog_13_method_22_code
def yX11_comes : MethodName := ⟨RX11, "comes", "(I)V"⟩
abbrev cX11_plan : ByteArray := prog_13_method_23_code
def yX11_plan : MethodName := ⟨RX11, "plan", "(I)I"⟩
abbrev cX11_room : ByteArray := prog_13_method_24_code
def yX11_room : MethodName := ⟨RX11, "room", "(I)I"⟩
abbrev cX11_roomMany : ByteArray := prog_13_method_25_code
def yX11_roomMany : MethodName := ⟨RX11, "roomMany", "()I"⟩
abbrev cX11_ruleAt : ByteArray := prog_13_method_26_code
def yX11_ruleAt : MethodName := ⟨RX11, "ruleAt", "(I)I"⟩
abbrev cX11_isBy : ByteArray := prog_13_method_27_code
def yX11_isBy : MethodName := ⟨RX11, "isBy", "(II)Z"⟩
abbrev cX11_canShut : ByteArray := prog_13_method_28_code
def yX11_canShut : MethodName := ⟨RX11, "canShut", "(I)Z"⟩
abbrev cX11_rule : ByteArray := prog_13_method_29_code
def yX11_rule : MethodName := ⟨RX11, "rule", "(II)I"⟩
abbrev cX11_letsBy : ByteArray := prog_13_method_30_code
def yX11_letsBy : MethodName := ⟨RX11, "letsBy", "(I)I"⟩
abbrev cX11_lets : ByteArray := prog_13_method_31_code
def yX11_lets : MethodName := ⟨RX11, "lets", "(III)I"⟩
abbrev cX11_reachOf : ByteArray := prog_13_method_32_code
def yX11_reachOf : MethodName := ⟨RX11, "reachOf", "(I)I"⟩
abbrev cX11_opens : ByteArray := prog_13_method_33_code
def yX11_opens : MethodName := ⟨RX11, "opens", "()V"⟩
abbrev cX11_reach : ByteArray := prog_13_method_34_code
def yX11_reach : MethodName := ⟨RX11, "reach", "(I)I"⟩
abbrev cX11_spreads : ByteArray := prog_13_method_35_code
def yX11_spreads : MethodName := ⟨RX11, "spreads", "()I"⟩
abbrev cX11_spread : ByteArray := prog_13_method_36_code
def yX11_spread : MethodName := ⟨RX11, "spread", "(I)I"⟩
abbrev cX11_shut : ByteArray := prog_13_method_37_code
def yX11_shut : MethodName := ⟨RX11, "shut", "(I)I"⟩
abbrev cX11_shutting : ByteArray := prog_13_method_38_code
def yX11_shutting : MethodName := ⟨RX11, "shutting", "(I)I"⟩
abbrev cX11_odd : ByteArray := prog_13_method_39_code
def yX11_odd : MethodName := ⟨RX11, "odd", "(I)I"⟩
abbrev cX11_nearOf : ByteArray := prog_13_method_40_code
def yX11_nearOf : MethodName := ⟨RX11, "nearOf", "(I)I"⟩
abbrev cX11_oddTalk : ByteArray := prog_13_method_41_code
def yX11_oddTalk : MethodName := ⟨RX11, "oddTalk", "(II)I"⟩
abbrev cX11_place : ByteArray := prog_13_method_42_code
def yX11_place : MethodName := ⟨RX11, "place", "(II)I"⟩
abbrev cX11_putsIn : ByteArray := prog_13_method_43_code
def yX11_putsIn : MethodName := ⟨RX11, "putsIn", "(II)V"⟩
abbrev cX11_isUnlike : ByteArray := prog_13_method_44_code
def yX11_isUnlike : MethodName := ⟨RX11, "isUnlike", "(II)Z"⟩
abbrev cX11_count : ByteArray := prog_13_method_45_code
def yX11_count : MethodName := ⟨RX11, "count", "(I)I"⟩
def RJ6 : String := "java/lang/Integer"
def TJ6 : u_T := fun k => match k with
  | _ => ("", "", "", false)
def tyJ6 : Nat → FieldType := fun k => match k with
  | _ => .int
abbrev wsJ60 : List Cond := u_ws RJ6 TJ6 0
theorem nmJ6 : ∀ a, a < 0 → ∀ b, b < 0 → a ≠ b → (TJ6 a).2.1 ≠ (TJ6 b).2.1 := by decide +kernel
theorem tyJ6_ok : ∀ k, k < 0 → parseFieldDescriptor (TJ6 k).2.2.1 = some (tyJ6 k) := by decide +kernel
abbrev cJ6_bitCount_0f7a4 : ByteArray := prog_14_method_49_code
def yJ6_bitCount_0f7a4 : MethodName := ⟨RJ6, "bitCount", "(I)I"⟩
def RJ9 : String := "java/lang/Math"
def TJ9 : u_T := fun k => match k with
  | _ => ("", "", "", false)
def tyJ9 : Nat → FieldType := fun k => match k with
  | _ => .int
abbrev wsJ90 : List Cond := u_ws RJ9 TJ9 0
theorem nmJ9 : ∀ a, a < 0 → ∀ b, b < 0 → a ≠ b → (TJ9 a).2.1 ≠ (TJ9 b).2.1 := by decide +kernel
theorem tyJ9_ok : ∀ k, k < 0 → parseFieldDescriptor (TJ9 k).2.2.1 = some (tyJ9 k) := by decide +kernel
abbrev cJ9_max_7cf53 : ByteArray := prog_15_method_65_code
def yJ9_max_7cf53 : MethodName := ⟨RJ9, "max", "(II)I"⟩
def RJ10 : String := "java/lang/System"
def TJ10 : u_T := fun k => match k with
  | _ => ("", "", "", false)
def tyJ10 : Nat → FieldType := fun k => match k with
  | _ => .int
abbrev wsJ100 : List Cond := u_ws RJ10 TJ10 0
theorem nmJ10 : ∀ a, a < 0 → ∀ b, b < 0 → a ≠ b → (TJ10 a).2.1 ≠ (TJ10 b).2.1 := by decide +kernel
theorem tyJ10_ok : ∀ k, k < 0 → parseFieldDescriptor (TJ10 k).2.2.1 = some (tyJ10 k) := by decide +kernel
def RJ7 : String := "java/util/Arrays"
def TJ7 : u_T := fun k => match k with
  | _ => ("", "", "", false)
def tyJ7 : Nat → FieldType := fun k => match k with
  | _ => .int
abbrev wsJ70 : List Cond := u_ws RJ7 TJ7 0
theorem nmJ7 : ∀ a, a < 0 → ∀ b, b < 0 → a ≠ b → (TJ7 a).2.1 ≠ (TJ7 b).2.1 := by decide +kernel
theorem tyJ7_ok : ∀ k, k < 0 → parseFieldDescriptor (TJ7 k).2.2.1 = some (tyJ7 k) := by decide +kernel
abbrev cJ7_fill_53178 : ByteArray := prog_17_method_103_code
def yJ7_fill_53178 : MethodName := ⟨RJ7, "fill", "([II)V"⟩
def RL : String := "WallPlannerLaw"
abbrev cL_law : ByteArray := code
def yL_law : MethodName := ⟨RL, "law", "([I)Z"⟩
abbrev vwCl : List vw_C := [(RX0, TX0, 4), (RX1, TX1, 5), (RX2, TX2, 5), (RX3, TX3, 2), (RX4, TX4, 4), (RX5, TX5, 3), (RX6, TX6, 6), (RX7, TX7, 5), (RX8, TX8, 8), (RX9, TX9, 3), (RX10, TX10, 9), (RX11, TX11, 39)]
end
section
theorem dX0_init_0 : decode cX0_init 0 = .ok (.aload_n 0, 1) := by decide +kernel
theorem dX0_init_1 : decode cX0_init 1 = .ok (.invokespecial 3, 3) := by decide +kernel
theorem dX0_init_4 : decode cX0_init 4 = .ok (.aload_n 0, 1) := by decide +kernel
theorem dX0_init_5 : decode cX0_init 5 = .ok (.sipush 300, 3) := by decide +kernel
theorem dX0_init_8 : decode cX0_init 8 = .ok (.newarray .int, 2) := by decide +kernel
theorem dX0_init_10 : decode cX0_init 10 = .ok (.putfield 9, 3) := by decide +kernel
theorem dX0_init_13 : decode cX0_init 13 = .ok (.aload_n 0, 1) := by decide +kernel
theorem dX0_init_14 : decode cX0_init 14 = .ok (.sipush 300, 3) := by decide +kernel
theorem dX0_init_17 : decode cX0_init 17 = .ok (.newarray .int, 2) := by decide +kernel
theorem dX0_init_19 : decode cX0_init 19 = .ok (.putfield 15, 3) := by decide +kernel
theorem dX0_init_22 : decode cX0_init 22 = .ok (.aload_n 0, 1) := by decide +kernel
theorem dX0_init_23 : decode cX0_init 23 = .ok (.sipush 300, 3) := by decide +kernel
theorem dX0_init_26 : decode cX0_init 26 = .ok (.newarray .int, 2) := by decide +kernel
theorem dX0_init_28 : decode cX0_init 28 = .ok (.putfield 18, 3) := by decide +kernel
theorem dX0_init_31 : decode cX0_init 31 = .ok (.aload_n 0, 1) := by decide +kernel
theorem dX0_init_32 : decode cX0_init 32 = .ok (.iconst 0, 1) := by decide +kernel
theorem dX0_init_33 : decode cX0_init 33 = .ok (.putfield 21, 3) := by decide +kernel
theorem dX0_init_36 : decode cX0_init 36 = .ok (.return_, 1) := by decide +kernel
theorem dX0_write_0 : decode cX0_write 0 = .ok (.aload_n 0, 1) := by decide +kernel
theorem dX0_write_1 : decode cX0_write 1 = .ok (.getfield 21, 3) := by decide +kernel
theorem dX0_write_4 : decode cX0_write 4 = .ok (.sipush 300, 3) := by decide +kernel
theorem dX0_write_7 : decode cX0_write 7 = .ok (.if_icmp .lt 5, 3) := by decide +kernel
theorem dX0_write_10 : decode cX0_write 10 = .ok (.iconst (-1), 1) := by decide +kernel
theorem dX0_write_11 : decode cX0_write 11 = .ok (.ireturn, 1) := by decide +kernel
theorem dX0_write_12 : decode cX0_write 12 = .ok (.aload_n 0, 1) := by decide +kernel
theorem dX0_write_13 : decode cX0_write 13 = .ok (.getfield 9, 3) := by decide +kernel
theorem dX0_write_16 : decode cX0_write 16 = .ok (.aload_n 0, 1) := by decide +kernel
theorem dX0_write_17 : decode cX0_write 17 = .ok (.getfield 21, 3) := by decide +kernel
theorem dX0_write_20 : decode cX0_write 20 = .ok (.iload_n 1, 1) := by decide +kernel
theorem dX0_write_21 : decode cX0_write 21 = .ok (.iastore, 1) := by decide +kernel
theorem dX0_write_22 : decode cX0_write 22 = .ok (.aload_n 0, 1) := by decide +kernel
theorem dX0_write_23 : decode cX0_write 23 = .ok (.getfield 15, 3) := by decide +kernel
theorem dX0_write_26 : decode cX0_write 26 = .ok (.aload_n 0, 1) := by decide +kernel
theorem dX0_write_27 : decode cX0_write 27 = .ok (.getfield 21, 3) := by decide +kernel
theorem dX0_write_30 : decode cX0_write 30 = .ok (.iload_n 2, 1) := by decide +kernel
theorem dX0_write_31 : decode cX0_write 31 = .ok (.iastore, 1) := by decide +kernel
theorem dX0_write_32 : decode cX0_write 32 = .ok (.aload_n 0, 1) := by decide +kernel
theorem dX0_write_33 : decode cX0_write 33 = .ok (.getfield 18, 3) := by decide +kernel
theorem dX0_write_36 : decode cX0_write 36 = .ok (.aload_n 0, 1) := by decide +kernel
theorem dX0_write_37 : decode cX0_write 37 = .ok (.getfield 21, 3) := by decide +kernel
theorem dX0_write_40 : decode cX0_write 40 = .ok (.iload_n 3, 1) := by decide +kernel
theorem dX0_write_41 : decode cX0_write 41 = .ok (.iastore, 1) := by decide +kernel
theorem dX0_write_42 : decode cX0_write 42 = .ok (.aload_n 0, 1) := by decide +kernel
theorem dX0_write_43 : decode cX0_write 43 = .ok (.dup, 1) := by decide +kernel
theorem dX0_write_44 : decode cX0_write 44 = .ok (.getfield 21, 3) := by decide +kernel
theorem dX0_write_47 : decode cX0_write 47 = .ok (.iconst 1, 1) := by decide +kernel
theorem dX0_write_48 : decode cX0_write 48 = .ok (.iadd, 1) := by decide +kernel
theorem dX0_write_49 : decode cX0_write 49 = .ok (.putfield 21, 3) := by decide +kernel
theorem dX0_write_52 : decode cX0_write 52 = .ok (.aload_n 0, 1) := by decide +kernel
theorem dX0_write_53 : decode cX0_write 53 = .ok (.getfield 21, 3) := by decide +kernel
theorem dX0_write_56 : decode cX0_write 56 = .ok (.ireturn, 1) := by decide +kernel
theorem dX0_isWithin_0 : decode cX0_isWithin 0 = .ok (.aload_n 0, 1) := by decide +kernel
theorem dX0_isWithin_1 : decode cX0_isWithin 1 = .ok (.getfield 15, 3) := by decide +kernel
theorem dX0_isWithin_4 : decode cX0_isWithin 4 = .ok (.iload_n 1, 1) := by decide +kernel
theorem dX0_isWithin_5 : decode cX0_isWithin 5 = .ok (.iaload, 1) := by decide +kernel
theorem dX0_isWithin_6 : decode cX0_isWithin 6 = .ok (.iload_n 2, 1) := by decide +kernel
theorem dX0_isWithin_7 : decode cX0_isWithin 7 = .ok (.if_icmp .gt 19, 3) := by decide +kernel
theorem dX0_isWithin_10 : decode cX0_isWithin 10 = .ok (.aload_n 0, 1) := by decide +kernel
theorem dX0_isWithin_11 : decode cX0_isWithin 11 = .ok (.getfield 15, 3) := by decide +kernel
theorem dX0_isWithin_14 : decode cX0_isWithin 14 = .ok (.iload_n 1, 1) := by decide +kernel
theorem dX0_isWithin_15 : decode cX0_isWithin 15 = .ok (.iaload, 1) := by decide +kernel
theorem dX0_isWithin_16 : decode cX0_isWithin 16 = .ok (.iload_n 2, 1) := by decide +kernel
theorem dX0_isWithin_17 : decode cX0_isWithin 17 = .ok (.iload_n 3, 1) := by decide +kernel
theorem dX0_isWithin_18 : decode cX0_isWithin 18 = .ok (.isub, 1) := by decide +kernel
theorem dX0_isWithin_19 : decode cX0_isWithin 19 = .ok (.if_icmp .le 7, 3) := by decide +kernel
theorem dX0_isWithin_22 : decode cX0_isWithin 22 = .ok (.iconst 1, 1) := by decide +kernel
theorem dX0_isWithin_23 : decode cX0_isWithin 23 = .ok (.goto 4, 3) := by decide +kernel
theorem dX0_isWithin_26 : decode cX0_isWithin 26 = .ok (.iconst 0, 1) := by decide +kernel
theorem dX0_isWithin_27 : decode cX0_isWithin 27 = .ok (.ireturn, 1) := by decide +kernel
theorem dX0_sumOf_0 : decode cX0_sumOf 0 = .ok (.iconst 0, 1) := by decide +kernel
theorem dX0_sumOf_1 : decode cX0_sumOf 1 = .ok (.istore 4, 2) := by decide +kernel
theorem dX0_sumOf_3 : decode cX0_sumOf 3 = .ok (.iconst 0, 1) := by decide +kernel
theorem dX0_sumOf_4 : decode cX0_sumOf 4 = .ok (.istore 5, 2) := by decide +kernel
theorem dX0_sumOf_6 : decode cX0_sumOf 6 = .ok (.iload 5, 2) := by decide +kernel
theorem dX0_sumOf_8 : decode cX0_sumOf 8 = .ok (.aload_n 0, 1) := by decide +kernel
theorem dX0_sumOf_9 : decode cX0_sumOf 9 = .ok (.getfield 21, 3) := by decide +kernel
theorem dX0_sumOf_12 : decode cX0_sumOf 12 = .ok (.if_icmp .ge 43, 3) := by decide +kernel
theorem dX0_sumOf_15 : decode cX0_sumOf 15 = .ok (.aload_n 0, 1) := by decide +kernel
theorem dX0_sumOf_16 : decode cX0_sumOf 16 = .ok (.getfield 9, 3) := by decide +kernel
theorem dX0_sumOf_19 : decode cX0_sumOf 19 = .ok (.iload 5, 2) := by decide +kernel
theorem dX0_sumOf_21 : decode cX0_sumOf 21 = .ok (.iaload, 1) := by decide +kernel
theorem dX0_sumOf_22 : decode cX0_sumOf 22 = .ok (.iload_n 1, 1) := by decide +kernel
theorem dX0_sumOf_23 : decode cX0_sumOf 23 = .ok (.if_icmp .ne 26, 3) := by decide +kernel
theorem dX0_sumOf_26 : decode cX0_sumOf 26 = .ok (.aload_n 0, 1) := by decide +kernel
theorem dX0_sumOf_27 : decode cX0_sumOf 27 = .ok (.iload 5, 2) := by decide +kernel
theorem dX0_sumOf_29 : decode cX0_sumOf 29 = .ok (.iload_n 2, 1) := by decide +kernel
theorem dX0_sumOf_30 : decode cX0_sumOf 30 = .ok (.iload_n 3, 1) := by decide +kernel
theorem dX0_sumOf_31 : decode cX0_sumOf 31 = .ok (.invokevirtual 25, 3) := by decide +kernel
theorem dX0_sumOf_34 : decode cX0_sumOf 34 = .ok (.ifCond .eq 15, 3) := by decide +kernel
theorem dX0_sumOf_37 : decode cX0_sumOf 37 = .ok (.iload 4, 2) := by decide +kernel
theorem dX0_sumOf_39 : decode cX0_sumOf 39 = .ok (.aload_n 0, 1) := by decide +kernel
theorem dX0_sumOf_40 : decode cX0_sumOf 40 = .ok (.getfield 18, 3) := by decide +kernel
theorem dX0_sumOf_43 : decode cX0_sumOf 43 = .ok (.iload 5, 2) := by decide +kernel
theorem dX0_sumOf_45 : decode cX0_sumOf 45 = .ok (.iaload, 1) := by decide +kernel
theorem dX0_sumOf_46 : decode cX0_sumOf 46 = .ok (.iadd, 1) := by decide +kernel
theorem dX0_sumOf_47 : decode cX0_sumOf 47 = .ok (.istore 4, 2) := by decide +kernel
theorem dX0_sumOf_49 : decode cX0_sumOf 49 = .ok (.iinc 5 1, 3) := by decide +kernel
theorem dX0_sumOf_52 : decode cX0_sumOf 52 = .ok (.goto (-46), 3) := by decide +kernel
theorem dX0_sumOf_55 : decode cX0_sumOf 55 = .ok (.iload 4, 2) := by decide +kernel
theorem dX0_sumOf_57 : decode cX0_sumOf 57 = .ok (.ireturn, 1) := by decide +kernel
theorem dX0_sumAll_0 : decode cX0_sumAll 0 = .ok (.aload_n 1, 1) := by decide +kernel
theorem dX0_sumAll_1 : decode cX0_sumAll 1 = .ok (.iconst 0, 1) := by decide +kernel
theorem dX0_sumAll_2 : decode cX0_sumAll 2 = .ok (.invokestatic 29, 3) := by decide +kernel
theorem dX0_sumAll_5 : decode cX0_sumAll 5 = .ok (.iconst 0, 1) := by decide +kernel
theorem dX0_sumAll_6 : decode cX0_sumAll 6 = .ok (.istore 4, 2) := by decide +kernel
theorem dX0_sumAll_8 : decode cX0_sumAll 8 = .ok (.iload 4, 2) := by decide +kernel
theorem dX0_sumAll_10 : decode cX0_sumAll 10 = .ok (.aload_n 0, 1) := by decide +kernel
theorem dX0_sumAll_11 : decode cX0_sumAll 11 = .ok (.getfield 21, 3) := by decide +kernel
theorem dX0_sumAll_14 : decode cX0_sumAll 14 = .ok (.if_icmp .ge 39, 3) := by decide +kernel
theorem dX0_sumAll_17 : decode cX0_sumAll 17 = .ok (.aload_n 0, 1) := by decide +kernel
theorem dX0_sumAll_18 : decode cX0_sumAll 18 = .ok (.iload 4, 2) := by decide +kernel
theorem dX0_sumAll_20 : decode cX0_sumAll 20 = .ok (.iload_n 2, 1) := by decide +kernel
theorem dX0_sumAll_21 : decode cX0_sumAll 21 = .ok (.iload_n 3, 1) := by decide +kernel
theorem dX0_sumAll_22 : decode cX0_sumAll 22 = .ok (.invokevirtual 25, 3) := by decide +kernel
theorem dX0_sumAll_25 : decode cX0_sumAll 25 = .ok (.ifCond .eq 22, 3) := by decide +kernel
theorem dX0_sumAll_28 : decode cX0_sumAll 28 = .ok (.aload_n 1, 1) := by decide +kernel
theorem dX0_sumAll_29 : decode cX0_sumAll 29 = .ok (.aload_n 0, 1) := by decide +kernel
theorem dX0_sumAll_30 : decode cX0_sumAll 30 = .ok (.getfield 9, 3) := by decide +kernel
theorem dX0_sumAll_33 : decode cX0_sumAll 33 = .ok (.iload 4, 2) := by decide +kernel
theorem dX0_sumAll_35 : decode cX0_sumAll 35 = .ok (.iaload, 1) := by decide +kernel
theorem dX0_sumAll_36 : decode cX0_sumAll 36 = .ok (.dup2, 1) := by decide +kernel
theorem dX0_sumAll_37 : decode cX0_sumAll 37 = .ok (.iaload, 1) := by decide +kernel
theorem dX0_sumAll_38 : decode cX0_sumAll 38 = .ok (.aload_n 0, 1) := by decide +kernel
theorem dX0_sumAll_39 : decode cX0_sumAll 39 = .ok (.getfield 18, 3) := by decide +kernel
theorem dX0_sumAll_42 : decode cX0_sumAll 42 = .ok (.iload 4, 2) := by decide +kernel
theorem dX0_sumAll_44 : decode cX0_sumAll 44 = .ok (.iaload, 1) := by decide +kernel
theorem dX0_sumAll_45 : decode cX0_sumAll 45 = .ok (.iadd, 1) := by decide +kernel
theorem dX0_sumAll_46 : decode cX0_sumAll 46 = .ok (.iastore, 1) := by decide +kernel
theorem dX0_sumAll_47 : decode cX0_sumAll 47 = .ok (.iinc 4 1, 3) := by decide +kernel
theorem dX0_sumAll_50 : decode cX0_sumAll 50 = .ok (.goto (-42), 3) := by decide +kernel
theorem dX0_sumAll_53 : decode cX0_sumAll 53 = .ok (.return_, 1) := by decide +kernel
theorem dX1_init_0 : decode cX1_init 0 = .ok (.aload_n 0, 1) := by decide +kernel
theorem dX1_init_1 : decode cX1_init 1 = .ok (.invokespecial 1, 3) := by decide +kernel
theorem dX1_init_4 : decode cX1_init 4 = .ok (.aload_n 0, 1) := by decide +kernel
theorem dX1_init_5 : decode cX1_init 5 = .ok (.bipush 7, 2) := by decide +kernel
theorem dX1_init_7 : decode cX1_init 7 = .ok (.putfield 7, 3) := by decide +kernel
theorem dX1_init_10 : decode cX1_init 10 = .ok (.aload_n 0, 1) := by decide +kernel
theorem dX1_init_11 : decode cX1_init 11 = .ok (.iconst 1, 1) := by decide +kernel
theorem dX1_init_12 : decode cX1_init 12 = .ok (.putfield 13, 3) := by decide +kernel
theorem dX1_init_15 : decode cX1_init 15 = .ok (.aload_n 0, 1) := by decide +kernel
theorem dX1_init_16 : decode cX1_init 16 = .ok (.iconst 0, 1) := by decide +kernel
theorem dX1_init_17 : decode cX1_init 17 = .ok (.putfield 16, 3) := by decide +kernel
theorem dX1_init_20 : decode cX1_init 20 = .ok (.aload_n 0, 1) := by decide +kernel
theorem dX1_init_21 : decode cX1_init 21 = .ok (.iconst 5, 1) := by decide +kernel
theorem dX1_init_22 : decode cX1_init 22 = .ok (.putfield 20, 3) := by decide +kernel
theorem dX1_init_25 : decode cX1_init 25 = .ok (.aload_n 0, 1) := by decide +kernel
theorem dX1_init_26 : decode cX1_init 26 = .ok (.iconst 1, 1) := by decide +kernel
theorem dX1_init_27 : decode cX1_init 27 = .ok (.putfield 23, 3) := by decide +kernel
theorem dX1_init_30 : decode cX1_init 30 = .ok (.return_, 1) := by decide +kernel
theorem dX1_costOf_0 : decode cX1_costOf 0 = .ok (.iload_n 1, 1) := by decide +kernel
theorem dX1_costOf_1 : decode cX1_costOf 1 = .ok (.aload_n 0, 1) := by decide +kernel
theorem dX1_costOf_2 : decode cX1_costOf 2 = .ok (.getfield 20, 3) := by decide +kernel
theorem dX1_costOf_5 : decode cX1_costOf 5 = .ok (.imul, 1) := by decide +kernel
theorem dX1_costOf_6 : decode cX1_costOf 6 = .ok (.iload_n 2, 1) := by decide +kernel
theorem dX1_costOf_7 : decode cX1_costOf 7 = .ok (.aload_n 0, 1) := by decide +kernel
theorem dX1_costOf_8 : decode cX1_costOf 8 = .ok (.getfield 23, 3) := by decide +kernel
theorem dX1_costOf_11 : decode cX1_costOf 11 = .ok (.imul, 1) := by decide +kernel
theorem dX1_costOf_12 : decode cX1_costOf 12 = .ok (.iadd, 1) := by decide +kernel
theorem dX1_costOf_13 : decode cX1_costOf 13 = .ok (.ireturn, 1) := by decide +kernel
theorem dX2_init_0 : decode cX2_init 0 = .ok (.aload_n 0, 1) := by decide +kernel
theorem dX2_init_1 : decode cX2_init 1 = .ok (.invokespecial 3, 3) := by decide +kernel
theorem dX2_init_4 : decode cX2_init 4 = .ok (.aload_n 0, 1) := by decide +kernel
theorem dX2_init_5 : decode cX2_init 5 = .ok (.bipush 8, 2) := by decide +kernel
theorem dX2_init_7 : decode cX2_init 7 = .ok (.newarray .int, 2) := by decide +kernel
theorem dX2_init_9 : decode cX2_init 9 = .ok (.putfield 9, 3) := by decide +kernel
theorem dX2_init_12 : decode cX2_init 12 = .ok (.aload_n 0, 1) := by decide +kernel
theorem dX2_init_13 : decode cX2_init 13 = .ok (.bipush 64, 2) := by decide +kernel
theorem dX2_init_15 : decode cX2_init 15 = .ok (.newarray .int, 2) := by decide +kernel
theorem dX2_init_17 : decode cX2_init 17 = .ok (.putfield 15, 3) := by decide +kernel
theorem dX2_init_20 : decode cX2_init 20 = .ok (.aload_n 0, 1) := by decide +kernel
theorem dX2_init_21 : decode cX2_init 21 = .ok (.iconst 0, 1) := by decide +kernel
theorem dX2_init_22 : decode cX2_init 22 = .ok (.putfield 18, 3) := by decide +kernel
theorem dX2_init_25 : decode cX2_init 25 = .ok (.aload_n 0, 1) := by decide +kernel
theorem dX2_init_26 : decode cX2_init 26 = .ok (.iconst 0, 1) := by decide +kernel
theorem dX2_init_27 : decode cX2_init 27 = .ok (.putfield 22, 3) := by decide +kernel
theorem dX2_init_30 : decode cX2_init 30 = .ok (.aload_n 0, 1) := by decide +kernel
theorem dX2_init_31 : decode cX2_init 31 = .ok (.iconst 0, 1) := by decide +kernel
theorem dX2_init_32 : decode cX2_init 32 = .ok (.putfield 25, 3) := by decide +kernel
theorem dX2_init_35 : decode cX2_init 35 = .ok (.aload_n 0, 1) := by decide +kernel
theorem dX2_init_36 : decode cX2_init 36 = .ok (.getfield 9, 3) := by decide +kernel
theorem dX2_init_39 : decode cX2_init 39 = .ok (.iconst (-1), 1) := by decide +kernel
theorem dX2_init_40 : decode cX2_init 40 = .ok (.invokestatic 29, 3) := by decide +kernel
theorem dX2_init_43 : decode cX2_init 43 = .ok (.return_, 1) := by decide +kernel
theorem dX2_areIn_0 : decode cX2_areIn 0 = .ok (.aload_n 0, 1) := by decide +kernel
theorem dX2_areIn_1 : decode cX2_areIn 1 = .ok (.getfield 9, 3) := by decide +kernel
theorem dX2_areIn_4 : decode cX2_areIn 4 = .ok (.iload_n 1, 1) := by decide +kernel
theorem dX2_areIn_5 : decode cX2_areIn 5 = .ok (.iaload, 1) := by decide +kernel
theorem dX2_areIn_6 : decode cX2_areIn 6 = .ok (.iconst (-1), 1) := by decide +kernel
theorem dX2_areIn_7 : decode cX2_areIn 7 = .ok (.if_icmp .eq 17, 3) := by decide +kernel
theorem dX2_areIn_10 : decode cX2_areIn 10 = .ok (.aload_n 0, 1) := by decide +kernel
theorem dX2_areIn_11 : decode cX2_areIn 11 = .ok (.getfield 9, 3) := by decide +kernel
theorem dX2_areIn_14 : decode cX2_areIn 14 = .ok (.iload_n 2, 1) := by decide +kernel
theorem dX2_areIn_15 : decode cX2_areIn 15 = .ok (.iaload, 1) := by decide +kernel
theorem dX2_areIn_16 : decode cX2_areIn 16 = .ok (.iconst (-1), 1) := by decide +kernel
theorem dX2_areIn_17 : decode cX2_areIn 17 = .ok (.if_icmp .eq 7, 3) := by decide +kernel
theorem dX2_areIn_20 : decode cX2_areIn 20 = .ok (.iconst 1, 1) := by decide +kernel
theorem dX2_areIn_21 : decode cX2_areIn 21 = .ok (.goto 4, 3) := by decide +kernel
theorem dX2_areIn_24 : decode cX2_areIn 24 = .ok (.iconst 0, 1) := by decide +kernel
theorem dX2_areIn_25 : decode cX2_areIn 25 = .ok (.ireturn, 1) := by decide +kernel
theorem dX2_doorsBetween_0 : decode cX2_doorsBetween 0 = .ok (.aload_n 0, 1) := by decide +kernel
theorem dX2_doorsBetween_1 : decode cX2_doorsBetween 1 = .ok (.getfield 15, 3) := by decide +kernel
theorem dX2_doorsBetween_4 : decode cX2_doorsBetween 4 = .ok (.aload_n 0, 1) := by decide +kernel
theorem dX2_doorsBetween_5 : decode cX2_doorsBetween 5 = .ok (.getfield 9, 3) := by decide +kernel
theorem dX2_doorsBetween_8 : decode cX2_doorsBetween 8 = .ok (.iload_n 1, 1) := by decide +kernel
theorem dX2_doorsBetween_9 : decode cX2_doorsBetween 9 = .ok (.iaload, 1) := by decide +kernel
theorem dX2_doorsBetween_10 : decode cX2_doorsBetween 10 = .ok (.aload_n 0, 1) := by decide +kernel
theorem dX2_doorsBetween_11 : decode cX2_doorsBetween 11 = .ok (.getfield 9, 3) := by decide +kernel
theorem dX2_doorsBetween_14 : decode cX2_doorsBetween 14 = .ok (.iload_n 2, 1) := by decide +kernel
theorem dX2_doorsBetween_15 : decode cX2_doorsBetween 15 = .ok (.iaload, 1) := by decide +kernel
theorem dX2_doorsBetween_16 : decode cX2_doorsBetween 16 = .ok (.invokestatic 35, 3) := by decide +kernel
theorem dX2_doorsBetween_19 : decode cX2_doorsBetween 19 = .ok (.iaload, 1) := by decide +kernel
theorem dX2_doorsBetween_20 : decode cX2_doorsBetween 20 = .ok (.ireturn, 1) := by decide +kernel
theorem dX2_isLet_0 : decode cX2_isLet 0 = .ok (.aload_n 0, 1) := by decide +kernel
theorem dX2_isLet_1 : decode cX2_isLet 1 = .ok (.iload_n 1, 1) := by decide +kernel
theorem dX2_isLet_2 : decode cX2_isLet 2 = .ok (.iload_n 2, 1) := by decide +kernel
theorem dX2_isLet_3 : decode cX2_isLet 3 = .ok (.invokevirtual 39, 3) := by decide +kernel
theorem dX2_isLet_6 : decode cX2_isLet 6 = .ok (.ifCond .eq 20, 3) := by decide +kernel
theorem dX2_isLet_9 : decode cX2_isLet 9 = .ok (.aload_n 0, 1) := by decide +kernel
theorem dX2_isLet_10 : decode cX2_isLet 10 = .ok (.iload_n 1, 1) := by decide +kernel
theorem dX2_isLet_11 : decode cX2_isLet 11 = .ok (.iload_n 2, 1) := by decide +kernel
theorem dX2_isLet_12 : decode cX2_isLet 12 = .ok (.invokevirtual 43, 3) := by decide +kernel
theorem dX2_isLet_15 : decode cX2_isLet 15 = .ok (.iload_n 3, 1) := by decide +kernel
theorem dX2_isLet_16 : decode cX2_isLet 16 = .ok (.invokestatic 46, 3) := by decide +kernel
theorem dX2_isLet_19 : decode cX2_isLet 19 = .ok (.ifCond .eq 7, 3) := by decide +kernel
theorem dX2_isLet_22 : decode cX2_isLet 22 = .ok (.iconst 1, 1) := by decide +kernel
theorem dX2_isLet_23 : decode cX2_isLet 23 = .ok (.goto 4, 3) := by decide +kernel
theorem dX2_isLet_26 : decode cX2_isLet 26 = .ok (.iconst 0, 1) := by decide +kernel
theorem dX2_isLet_27 : decode cX2_isLet 27 = .ok (.ireturn, 1) := by decide +kernel
theorem dX2_roomCount_0 : decode cX2_roomCount 0 = .ok (.iconst (-1), 1) := by decide +kernel
theorem dX2_roomCount_1 : decode cX2_roomCount 1 = .ok (.istore_n 1, 1) := by decide +kernel
theorem dX2_roomCount_2 : decode cX2_roomCount 2 = .ok (.iconst 0, 1) := by decide +kernel
theorem dX2_roomCount_3 : decode cX2_roomCount 3 = .ok (.istore_n 2, 1) := by decide +kernel
theorem dX2_roomCount_4 : decode cX2_roomCount 4 = .ok (.iload_n 2, 1) := by decide +kernel
theorem dX2_roomCount_5 : decode cX2_roomCount 5 = .ok (.bipush 8, 2) := by decide +kernel
theorem dX2_roomCount_7 : decode cX2_roomCount 7 = .ok (.if_icmp .ge 20, 3) := by decide +kernel
theorem dX2_roomCount_10 : decode cX2_roomCount 10 = .ok (.iload_n 1, 1) := by decide +kernel
theorem dX2_roomCount_11 : decode cX2_roomCount 11 = .ok (.aload_n 0, 1) := by decide +kernel
theorem dX2_roomCount_12 : decode cX2_roomCount 12 = .ok (.getfield 9, 3) := by decide +kernel
theorem dX2_roomCount_15 : decode cX2_roomCount 15 = .ok (.iload_n 2, 1) := by decide +kernel
theorem dX2_roomCount_16 : decode cX2_roomCount 16 = .ok (.iaload, 1) := by decide +kernel
theorem dX2_roomCount_17 : decode cX2_roomCount 17 = .ok (.invokestatic 49, 3) := by decide +kernel
theorem dX2_roomCount_20 : decode cX2_roomCount 20 = .ok (.istore_n 1, 1) := by decide +kernel
theorem dX2_roomCount_21 : decode cX2_roomCount 21 = .ok (.iinc 2 1, 3) := by decide +kernel
theorem dX2_roomCount_24 : decode cX2_roomCount 24 = .ok (.goto (-20), 3) := by decide +kernel
theorem dX2_roomCount_27 : decode cX2_roomCount 27 = .ok (.iload_n 1, 1) := by decide +kernel
theorem dX2_roomCount_28 : decode cX2_roomCount 28 = .ok (.iconst 1, 1) := by decide +kernel
theorem dX2_roomCount_29 : decode cX2_roomCount 29 = .ok (.iadd, 1) := by decide +kernel
theorem dX2_roomCount_30 : decode cX2_roomCount 30 = .ok (.ireturn, 1) := by decide +kernel
theorem dX2_copyRooms_0 : decode cX2_copyRooms 0 = .ok (.aload_n 1, 1) := by decide +kernel
theorem dX2_copyRooms_1 : decode cX2_copyRooms 1 = .ok (.iconst 0, 1) := by decide +kernel
theorem dX2_copyRooms_2 : decode cX2_copyRooms 2 = .ok (.aload_n 0, 1) := by decide +kernel
theorem dX2_copyRooms_3 : decode cX2_copyRooms 3 = .ok (.getfield 9, 3) := by decide +kernel
theorem dX2_copyRooms_6 : decode cX2_copyRooms 6 = .ok (.iconst 0, 1) := by decide +kernel
theorem dX2_copyRooms_7 : decode cX2_copyRooms 7 = .ok (.bipush 8, 2) := by decide +kernel
theorem dX2_copyRooms_9 : decode cX2_copyRooms 9 = .ok (.invokestatic 54, 3) := by decide +kernel
theorem dX2_copyRooms_12 : decode cX2_copyRooms 12 = .ok (.return_, 1) := by decide +kernel
theorem dX2_hasUnlike_0 : decode cX2_hasUnlike 0 = .ok (.iconst 0, 1) := by decide +kernel
theorem dX2_hasUnlike_1 : decode cX2_hasUnlike 1 = .ok (.istore_n 3, 1) := by decide +kernel
theorem dX2_hasUnlike_2 : decode cX2_hasUnlike 2 = .ok (.iload_n 3, 1) := by decide +kernel
theorem dX2_hasUnlike_3 : decode cX2_hasUnlike 3 = .ok (.bipush 8, 2) := by decide +kernel
theorem dX2_hasUnlike_5 : decode cX2_hasUnlike 5 = .ok (.if_icmp .ge 35, 3) := by decide +kernel
theorem dX2_hasUnlike_8 : decode cX2_hasUnlike 8 = .ok (.aload_n 0, 1) := by decide +kernel
theorem dX2_hasUnlike_9 : decode cX2_hasUnlike 9 = .ok (.getfield 9, 3) := by decide +kernel
theorem dX2_hasUnlike_12 : decode cX2_hasUnlike 12 = .ok (.iload_n 3, 1) := by decide +kernel
theorem dX2_hasUnlike_13 : decode cX2_hasUnlike 13 = .ok (.iaload, 1) := by decide +kernel
theorem dX2_hasUnlike_14 : decode cX2_hasUnlike 14 = .ok (.aload_n 0, 1) := by decide +kernel
theorem dX2_hasUnlike_15 : decode cX2_hasUnlike 15 = .ok (.getfield 9, 3) := by decide +kernel
theorem dX2_hasUnlike_18 : decode cX2_hasUnlike 18 = .ok (.iload_n 1, 1) := by decide +kernel
theorem dX2_hasUnlike_19 : decode cX2_hasUnlike 19 = .ok (.iaload, 1) := by decide +kernel
theorem dX2_hasUnlike_20 : decode cX2_hasUnlike 20 = .ok (.if_icmp .ne 14, 3) := by decide +kernel
theorem dX2_hasUnlike_23 : decode cX2_hasUnlike 23 = .ok (.aload_n 2, 1) := by decide +kernel
theorem dX2_hasUnlike_24 : decode cX2_hasUnlike 24 = .ok (.iload_n 3, 1) := by decide +kernel
theorem dX2_hasUnlike_25 : decode cX2_hasUnlike 25 = .ok (.iaload, 1) := by decide +kernel
theorem dX2_hasUnlike_26 : decode cX2_hasUnlike 26 = .ok (.aload_n 2, 1) := by decide +kernel
theorem dX2_hasUnlike_27 : decode cX2_hasUnlike 27 = .ok (.iload_n 1, 1) := by decide +kernel
theorem dX2_hasUnlike_28 : decode cX2_hasUnlike 28 = .ok (.iaload, 1) := by decide +kernel
theorem dX2_hasUnlike_29 : decode cX2_hasUnlike 29 = .ok (.if_icmp .eq 5, 3) := by decide +kernel
theorem dX2_hasUnlike_32 : decode cX2_hasUnlike 32 = .ok (.iconst 1, 1) := by decide +kernel
theorem dX2_hasUnlike_33 : decode cX2_hasUnlike 33 = .ok (.ireturn, 1) := by decide +kernel
theorem dX2_hasUnlike_34 : decode cX2_hasUnlike 34 = .ok (.iinc 3 1, 3) := by decide +kernel
theorem dX2_hasUnlike_37 : decode cX2_hasUnlike 37 = .ok (.goto (-35), 3) := by decide +kernel
theorem dX2_hasUnlike_40 : decode cX2_hasUnlike 40 = .ok (.iconst 0, 1) := by decide +kernel
theorem dX2_hasUnlike_41 : decode cX2_hasUnlike 41 = .ok (.ireturn, 1) := by decide +kernel
theorem dX2_draw_0 : decode cX2_draw 0 = .ok (.aload_n 0, 1) := by decide +kernel
theorem dX2_draw_1 : decode cX2_draw 1 = .ok (.invokevirtual 60, 3) := by decide +kernel
theorem dX2_draw_4 : decode cX2_draw 4 = .ok (.iconst 0, 1) := by decide +kernel
theorem dX2_draw_5 : decode cX2_draw 5 = .ok (.istore 4, 2) := by decide +kernel
theorem dX2_draw_7 : decode cX2_draw 7 = .ok (.iload 4, 2) := by decide +kernel
theorem dX2_draw_9 : decode cX2_draw 9 = .ok (.iload_n 3, 1) := by decide +kernel
theorem dX2_draw_10 : decode cX2_draw 10 = .ok (.if_icmp .ge 28, 3) := by decide +kernel
theorem dX2_draw_13 : decode cX2_draw 13 = .ok (.aload_n 0, 1) := by decide +kernel
theorem dX2_draw_14 : decode cX2_draw 14 = .ok (.getfield 9, 3) := by decide +kernel
theorem dX2_draw_17 : decode cX2_draw 17 = .ok (.iload 4, 2) := by decide +kernel
theorem dX2_draw_19 : decode cX2_draw 19 = .ok (.iaload, 1) := by decide +kernel
theorem dX2_draw_20 : decode cX2_draw 20 = .ok (.iconst (-1), 1) := by decide +kernel
theorem dX2_draw_21 : decode cX2_draw 21 = .ok (.if_icmp .eq 11, 3) := by decide +kernel
theorem dX2_draw_24 : decode cX2_draw 24 = .ok (.aload_n 0, 1) := by decide +kernel
theorem dX2_draw_25 : decode cX2_draw 25 = .ok (.iload 4, 2) := by decide +kernel
theorem dX2_draw_27 : decode cX2_draw 27 = .ok (.aload_n 1, 1) := by decide +kernel
theorem dX2_draw_28 : decode cX2_draw 28 = .ok (.iload_n 3, 1) := by decide +kernel
theorem dX2_draw_29 : decode cX2_draw 29 = .ok (.invokevirtual 63, 3) := by decide +kernel
theorem dX2_draw_32 : decode cX2_draw 32 = .ok (.iinc 4 1, 3) := by decide +kernel
theorem dX2_draw_35 : decode cX2_draw 35 = .ok (.goto (-28), 3) := by decide +kernel
theorem dX2_draw_38 : decode cX2_draw 38 = .ok (.aload_n 0, 1) := by decide +kernel
theorem dX2_draw_39 : decode cX2_draw 39 = .ok (.iconst 0, 1) := by decide +kernel
theorem dX2_draw_40 : decode cX2_draw 40 = .ok (.putfield 22, 3) := by decide +kernel
theorem dX2_draw_43 : decode cX2_draw 43 = .ok (.aload_n 0, 1) := by decide +kernel
theorem dX2_draw_44 : decode cX2_draw 44 = .ok (.iconst 0, 1) := by decide +kernel
theorem dX2_draw_45 : decode cX2_draw 45 = .ok (.putfield 25, 3) := by decide +kernel
theorem dX2_draw_48 : decode cX2_draw 48 = .ok (.iconst 0, 1) := by decide +kernel
theorem dX2_draw_49 : decode cX2_draw 49 = .ok (.istore 4, 2) := by decide +kernel
theorem dX2_draw_51 : decode cX2_draw 51 = .ok (.iload 4, 2) := by decide +kernel
theorem dX2_draw_53 : decode cX2_draw 53 = .ok (.iload_n 3, 1) := by decide +kernel
theorem dX2_draw_54 : decode cX2_draw 54 = .ok (.if_icmp .ge 29, 3) := by decide +kernel
theorem dX2_draw_57 : decode cX2_draw 57 = .ok (.aload_n 0, 1) := by decide +kernel
theorem dX2_draw_58 : decode cX2_draw 58 = .ok (.getfield 9, 3) := by decide +kernel
theorem dX2_draw_61 : decode cX2_draw 61 = .ok (.iload 4, 2) := by decide +kernel
theorem dX2_draw_63 : decode cX2_draw 63 = .ok (.iaload, 1) := by decide +kernel
theorem dX2_draw_64 : decode cX2_draw 64 = .ok (.iconst (-1), 1) := by decide +kernel
theorem dX2_draw_65 : decode cX2_draw 65 = .ok (.if_icmp .eq 12, 3) := by decide +kernel
theorem dX2_draw_68 : decode cX2_draw 68 = .ok (.aload_n 0, 1) := by decide +kernel
theorem dX2_draw_69 : decode cX2_draw 69 = .ok (.iload 4, 2) := by decide +kernel
theorem dX2_draw_71 : decode cX2_draw 71 = .ok (.aload_n 1, 1) := by decide +kernel
theorem dX2_draw_72 : decode cX2_draw 72 = .ok (.aload_n 2, 1) := by decide +kernel
theorem dX2_draw_73 : decode cX2_draw 73 = .ok (.iload_n 3, 1) := by decide +kernel
theorem dX2_draw_74 : decode cX2_draw 74 = .ok (.invokevirtual 67, 3) := by decide +kernel
theorem dX2_draw_77 : decode cX2_draw 77 = .ok (.iinc 4 1, 3) := by decide +kernel
theorem dX2_draw_80 : decode cX2_draw 80 = .ok (.goto (-29), 3) := by decide +kernel
theorem dX2_draw_83 : decode cX2_draw 83 = .ok (.return_, 1) := by decide +kernel
theorem dX2_openRooms_0 : decode cX2_openRooms 0 = .ok (.aload_n 0, 1) := by decide +kernel
theorem dX2_openRooms_1 : decode cX2_openRooms 1 = .ok (.iconst 0, 1) := by decide +kernel
theorem dX2_openRooms_2 : decode cX2_openRooms 2 = .ok (.putfield 18, 3) := by decide +kernel
theorem dX2_openRooms_5 : decode cX2_openRooms 5 = .ok (.aload_n 0, 1) := by decide +kernel
theorem dX2_openRooms_6 : decode cX2_openRooms 6 = .ok (.getfield 15, 3) := by decide +kernel
theorem dX2_openRooms_9 : decode cX2_openRooms 9 = .ok (.iconst 0, 1) := by decide +kernel
theorem dX2_openRooms_10 : decode cX2_openRooms 10 = .ok (.invokestatic 29, 3) := by decide +kernel
theorem dX2_openRooms_13 : decode cX2_openRooms 13 = .ok (.iconst 0, 1) := by decide +kernel
theorem dX2_openRooms_14 : decode cX2_openRooms 14 = .ok (.istore_n 1, 1) := by decide +kernel
theorem dX2_openRooms_15 : decode cX2_openRooms 15 = .ok (.iload_n 1, 1) := by decide +kernel
theorem dX2_openRooms_16 : decode cX2_openRooms 16 = .ok (.bipush 8, 2) := by decide +kernel
theorem dX2_openRooms_18 : decode cX2_openRooms 18 = .ok (.if_icmp .ge 21, 3) := by decide +kernel
theorem dX2_openRooms_21 : decode cX2_openRooms 21 = .ok (.aload_n 0, 1) := by decide +kernel
theorem dX2_openRooms_22 : decode cX2_openRooms 22 = .ok (.getfield 15, 3) := by decide +kernel
theorem dX2_openRooms_25 : decode cX2_openRooms 25 = .ok (.iload_n 1, 1) := by decide +kernel
theorem dX2_openRooms_26 : decode cX2_openRooms 26 = .ok (.iload_n 1, 1) := by decide +kernel
theorem dX2_openRooms_27 : decode cX2_openRooms 27 = .ok (.invokestatic 35, 3) := by decide +kernel
theorem dX2_openRooms_30 : decode cX2_openRooms 30 = .ok (.bipush 15, 2) := by decide +kernel
theorem dX2_openRooms_32 : decode cX2_openRooms 32 = .ok (.iastore, 1) := by decide +kernel
theorem dX2_openRooms_33 : decode cX2_openRooms 33 = .ok (.iinc 1 1, 3) := by decide +kernel
theorem dX2_openRooms_36 : decode cX2_openRooms 36 = .ok (.goto (-21), 3) := by decide +kernel
theorem dX2_openRooms_39 : decode cX2_openRooms 39 = .ok (.return_, 1) := by decide +kernel
theorem dX2_openDoorsFrom_0 : decode cX2_openDoorsFrom 0 = .ok (.aload_n 0, 1) := by decide +kernel
theorem dX2_openDoorsFrom_1 : decode cX2_openDoorsFrom 1 = .ok (.getfield 9, 3) := by decide +kernel
theorem dX2_openDoorsFrom_4 : decode cX2_openDoorsFrom 4 = .ok (.iload_n 1, 1) := by decide +kernel
theorem dX2_openDoorsFrom_5 : decode cX2_openDoorsFrom 5 = .ok (.iaload, 1) := by decide +kernel
theorem dX2_openDoorsFrom_6 : decode cX2_openDoorsFrom 6 = .ok (.istore 4, 2) := by decide +kernel
theorem dX2_openDoorsFrom_8 : decode cX2_openDoorsFrom 8 = .ok (.iconst 0, 1) := by decide +kernel
theorem dX2_openDoorsFrom_9 : decode cX2_openDoorsFrom 9 = .ok (.istore 5, 2) := by decide +kernel
theorem dX2_openDoorsFrom_11 : decode cX2_openDoorsFrom 11 = .ok (.iload 5, 2) := by decide +kernel
theorem dX2_openDoorsFrom_13 : decode cX2_openDoorsFrom 13 = .ok (.iload_n 3, 1) := by decide +kernel
theorem dX2_openDoorsFrom_14 : decode cX2_openDoorsFrom 14 = .ok (.if_icmp .ge 85, 3) := by decide +kernel
theorem dX2_openDoorsFrom_17 : decode cX2_openDoorsFrom 17 = .ok (.aload_n 2, 1) := by decide +kernel
theorem dX2_openDoorsFrom_18 : decode cX2_openDoorsFrom 18 = .ok (.iload_n 1, 1) := by decide +kernel
theorem dX2_openDoorsFrom_19 : decode cX2_openDoorsFrom 19 = .ok (.iload 5, 2) := by decide +kernel
theorem dX2_openDoorsFrom_21 : decode cX2_openDoorsFrom 21 = .ok (.invokestatic 35, 3) := by decide +kernel
theorem dX2_openDoorsFrom_24 : decode cX2_openDoorsFrom 24 = .ok (.iaload, 1) := by decide +kernel
theorem dX2_openDoorsFrom_25 : decode cX2_openDoorsFrom 25 = .ok (.istore 6, 2) := by decide +kernel
theorem dX2_openDoorsFrom_27 : decode cX2_openDoorsFrom 27 = .ok (.iload 6, 2) := by decide +kernel
theorem dX2_openDoorsFrom_29 : decode cX2_openDoorsFrom 29 = .ok (.ifCond .eq 64, 3) := by decide +kernel
theorem dX2_openDoorsFrom_32 : decode cX2_openDoorsFrom 32 = .ok (.aload_n 0, 1) := by decide +kernel
theorem dX2_openDoorsFrom_33 : decode cX2_openDoorsFrom 33 = .ok (.getfield 9, 3) := by decide +kernel
theorem dX2_openDoorsFrom_36 : decode cX2_openDoorsFrom 36 = .ok (.iload 5, 2) := by decide +kernel
theorem dX2_openDoorsFrom_38 : decode cX2_openDoorsFrom 38 = .ok (.iaload, 1) := by decide +kernel
theorem dX2_openDoorsFrom_39 : decode cX2_openDoorsFrom 39 = .ok (.iconst (-1), 1) := by decide +kernel
theorem dX2_openDoorsFrom_40 : decode cX2_openDoorsFrom 40 = .ok (.if_icmp .eq 53, 3) := by decide +kernel
theorem dX2_openDoorsFrom_43 : decode cX2_openDoorsFrom 43 = .ok (.iload 4, 2) := by decide +kernel
theorem dX2_openDoorsFrom_45 : decode cX2_openDoorsFrom 45 = .ok (.aload_n 0, 1) := by decide +kernel
theorem dX2_openDoorsFrom_46 : decode cX2_openDoorsFrom 46 = .ok (.getfield 9, 3) := by decide +kernel
theorem dX2_openDoorsFrom_49 : decode cX2_openDoorsFrom 49 = .ok (.iload 5, 2) := by decide +kernel
theorem dX2_openDoorsFrom_51 : decode cX2_openDoorsFrom 51 = .ok (.iaload, 1) := by decide +kernel
theorem dX2_openDoorsFrom_52 : decode cX2_openDoorsFrom 52 = .ok (.invokestatic 35, 3) := by decide +kernel
theorem dX2_openDoorsFrom_55 : decode cX2_openDoorsFrom 55 = .ok (.istore 7, 2) := by decide +kernel
theorem dX2_openDoorsFrom_57 : decode cX2_openDoorsFrom 57 = .ok (.aload_n 0, 1) := by decide +kernel
theorem dX2_openDoorsFrom_58 : decode cX2_openDoorsFrom 58 = .ok (.dup, 1) := by decide +kernel
theorem dX2_openDoorsFrom_59 : decode cX2_openDoorsFrom 59 = .ok (.getfield 18, 3) := by decide +kernel
theorem dX2_openDoorsFrom_62 : decode cX2_openDoorsFrom 62 = .ok (.iload 6, 2) := by decide +kernel
theorem dX2_openDoorsFrom_64 : decode cX2_openDoorsFrom 64 = .ok (.aload_n 0, 1) := by decide +kernel
theorem dX2_openDoorsFrom_65 : decode cX2_openDoorsFrom 65 = .ok (.getfield 15, 3) := by decide +kernel
theorem dX2_openDoorsFrom_68 : decode cX2_openDoorsFrom 68 = .ok (.iload 7, 2) := by decide +kernel
theorem dX2_openDoorsFrom_70 : decode cX2_openDoorsFrom 70 = .ok (.iaload, 1) := by decide +kernel
theorem dX2_openDoorsFrom_71 : decode cX2_openDoorsFrom 71 = .ok (.iconst (-1), 1) := by decide +kernel
theorem dX2_openDoorsFrom_72 : decode cX2_openDoorsFrom 72 = .ok (.ixor, 1) := by decide +kernel
theorem dX2_openDoorsFrom_73 : decode cX2_openDoorsFrom 73 = .ok (.iand, 1) := by decide +kernel
theorem dX2_openDoorsFrom_74 : decode cX2_openDoorsFrom 74 = .ok (.invokestatic 71, 3) := by decide +kernel
theorem dX2_openDoorsFrom_77 : decode cX2_openDoorsFrom 77 = .ok (.iadd, 1) := by decide +kernel
theorem dX2_openDoorsFrom_78 : decode cX2_openDoorsFrom 78 = .ok (.putfield 18, 3) := by decide +kernel
theorem dX2_openDoorsFrom_81 : decode cX2_openDoorsFrom 81 = .ok (.aload_n 0, 1) := by decide +kernel
theorem dX2_openDoorsFrom_82 : decode cX2_openDoorsFrom 82 = .ok (.getfield 15, 3) := by decide +kernel
theorem dX2_openDoorsFrom_85 : decode cX2_openDoorsFrom 85 = .ok (.iload 7, 2) := by decide +kernel
theorem dX2_openDoorsFrom_87 : decode cX2_openDoorsFrom 87 = .ok (.dup2, 1) := by decide +kernel
theorem dX2_openDoorsFrom_88 : decode cX2_openDoorsFrom 88 = .ok (.iaload, 1) := by decide +kernel
theorem dX2_openDoorsFrom_89 : decode cX2_openDoorsFrom 89 = .ok (.iload 6, 2) := by decide +kernel
theorem dX2_openDoorsFrom_91 : decode cX2_openDoorsFrom 91 = .ok (.ior, 1) := by decide +kernel
theorem dX2_openDoorsFrom_92 : decode cX2_openDoorsFrom 92 = .ok (.iastore, 1) := by decide +kernel
theorem dX2_openDoorsFrom_93 : decode cX2_openDoorsFrom 93 = .ok (.iinc 5 1, 3) := by decide +kernel
theorem dX2_openDoorsFrom_96 : decode cX2_openDoorsFrom 96 = .ok (.goto (-85), 3) := by decide +kernel
theorem dX2_openDoorsFrom_99 : decode cX2_openDoorsFrom 99 = .ok (.return_, 1) := by decide +kernel
theorem dX2_countStraysFrom_0 : decode cX2_countStraysFrom 0 = .ok (.aload_n 0, 1) := by decide +kernel
theorem dX2_countStraysFrom_1 : decode cX2_countStraysFrom 1 = .ok (.getfield 9, 3) := by decide +kernel
theorem dX2_countStraysFrom_4 : decode cX2_countStraysFrom 4 = .ok (.iload_n 1, 1) := by decide +kernel
theorem dX2_countStraysFrom_5 : decode cX2_countStraysFrom 5 = .ok (.iaload, 1) := by decide +kernel
theorem dX2_countStraysFrom_6 : decode cX2_countStraysFrom 6 = .ok (.istore 5, 2) := by decide +kernel
theorem dX2_countStraysFrom_8 : decode cX2_countStraysFrom 8 = .ok (.iconst 0, 1) := by decide +kernel
theorem dX2_countStraysFrom_9 : decode cX2_countStraysFrom 9 = .ok (.istore 6, 2) := by decide +kernel
theorem dX2_countStraysFrom_11 : decode cX2_countStraysFrom 11 = .ok (.iload 6, 2) := by decide +kernel
theorem dX2_countStraysFrom_13 : decode cX2_countStraysFrom 13 = .ok (.iload 4, 2) := by decide +kernel
theorem dX2_countStraysFrom_15 : decode cX2_countStraysFrom 15 = .ok (.if_icmp .ge 109, 3) := by decide +kernel
theorem dX2_countStraysFrom_18 : decode cX2_countStraysFrom 18 = .ok (.aload_n 0, 1) := by decide +kernel
theorem dX2_countStraysFrom_19 : decode cX2_countStraysFrom 19 = .ok (.getfield 9, 3) := by decide +kernel
theorem dX2_countStraysFrom_22 : decode cX2_countStraysFrom 22 = .ok (.iload 6, 2) := by decide +kernel
theorem dX2_countStraysFrom_24 : decode cX2_countStraysFrom 24 = .ok (.iaload, 1) := by decide +kernel
theorem dX2_countStraysFrom_25 : decode cX2_countStraysFrom 25 = .ok (.iconst (-1), 1) := by decide +kernel
theorem dX2_countStraysFrom_26 : decode cX2_countStraysFrom 26 = .ok (.if_icmp .eq 9, 3) := by decide +kernel
theorem dX2_countStraysFrom_29 : decode cX2_countStraysFrom 29 = .ok (.iload 6, 2) := by decide +kernel
theorem dX2_countStraysFrom_31 : decode cX2_countStraysFrom 31 = .ok (.iload_n 1, 1) := by decide +kernel
theorem dX2_countStraysFrom_32 : decode cX2_countStraysFrom 32 = .ok (.if_icmp .ne 7, 3) := by decide +kernel
theorem dX2_countStraysFrom_35 : decode cX2_countStraysFrom 35 = .ok (.iconst 0, 1) := by decide +kernel
theorem dX2_countStraysFrom_36 : decode cX2_countStraysFrom 36 = .ok (.goto 20, 3) := by decide +kernel
theorem dX2_countStraysFrom_39 : decode cX2_countStraysFrom 39 = .ok (.aload_n 0, 1) := by decide +kernel
theorem dX2_countStraysFrom_40 : decode cX2_countStraysFrom 40 = .ok (.getfield 15, 3) := by decide +kernel
theorem dX2_countStraysFrom_43 : decode cX2_countStraysFrom 43 = .ok (.iload 5, 2) := by decide +kernel
theorem dX2_countStraysFrom_45 : decode cX2_countStraysFrom 45 = .ok (.aload_n 0, 1) := by decide +kernel
theorem dX2_countStraysFrom_46 : decode cX2_countStraysFrom 46 = .ok (.getfield 9, 3) := by decide +kernel
theorem dX2_countStraysFrom_49 : decode cX2_countStraysFrom 49 = .ok (.iload 6, 2) := by decide +kernel
theorem dX2_countStraysFrom_51 : decode cX2_countStraysFrom 51 = .ok (.iaload, 1) := by decide +kernel
theorem dX2_countStraysFrom_52 : decode cX2_countStraysFrom 52 = .ok (.invokestatic 35, 3) := by decide +kernel
theorem dX2_countStraysFrom_55 : decode cX2_countStraysFrom 55 = .ok (.iaload, 1) := by decide +kernel
theorem dX2_countStraysFrom_56 : decode cX2_countStraysFrom 56 = .ok (.istore 7, 2) := by decide +kernel
theorem dX2_countStraysFrom_58 : decode cX2_countStraysFrom 58 = .ok (.iload 7, 2) := by decide +kernel
theorem dX2_countStraysFrom_60 : decode cX2_countStraysFrom 60 = .ok (.ifCond .eq 58, 3) := by decide +kernel
theorem dX2_countStraysFrom_63 : decode cX2_countStraysFrom 63 = .ok (.iload_n 1, 1) := by decide +kernel
theorem dX2_countStraysFrom_64 : decode cX2_countStraysFrom 64 = .ok (.iload 6, 2) := by decide +kernel
theorem dX2_countStraysFrom_66 : decode cX2_countStraysFrom 66 = .ok (.invokestatic 35, 3) := by decide +kernel
theorem dX2_countStraysFrom_69 : decode cX2_countStraysFrom 69 = .ok (.istore 8, 2) := by decide +kernel
theorem dX2_countStraysFrom_71 : decode cX2_countStraysFrom 71 = .ok (.aload_n 0, 1) := by decide +kernel
theorem dX2_countStraysFrom_72 : decode cX2_countStraysFrom 72 = .ok (.dup, 1) := by decide +kernel
theorem dX2_countStraysFrom_73 : decode cX2_countStraysFrom 73 = .ok (.getfield 22, 3) := by decide +kernel
theorem dX2_countStraysFrom_76 : decode cX2_countStraysFrom 76 = .ok (.iload 7, 2) := by decide +kernel
theorem dX2_countStraysFrom_78 : decode cX2_countStraysFrom 78 = .ok (.aload_n 2, 1) := by decide +kernel
theorem dX2_countStraysFrom_79 : decode cX2_countStraysFrom 79 = .ok (.iload 8, 2) := by decide +kernel
theorem dX2_countStraysFrom_81 : decode cX2_countStraysFrom 81 = .ok (.iaload, 1) := by decide +kernel
theorem dX2_countStraysFrom_82 : decode cX2_countStraysFrom 82 = .ok (.iconst (-1), 1) := by decide +kernel
theorem dX2_countStraysFrom_83 : decode cX2_countStraysFrom 83 = .ok (.ixor, 1) := by decide +kernel
theorem dX2_countStraysFrom_84 : decode cX2_countStraysFrom 84 = .ok (.iand, 1) := by decide +kernel
theorem dX2_countStraysFrom_85 : decode cX2_countStraysFrom 85 = .ok (.invokestatic 71, 3) := by decide +kernel
theorem dX2_countStraysFrom_88 : decode cX2_countStraysFrom 88 = .ok (.iadd, 1) := by decide +kernel
theorem dX2_countStraysFrom_89 : decode cX2_countStraysFrom 89 = .ok (.putfield 22, 3) := by decide +kernel
theorem dX2_countStraysFrom_92 : decode cX2_countStraysFrom 92 = .ok (.aload_n 0, 1) := by decide +kernel
theorem dX2_countStraysFrom_93 : decode cX2_countStraysFrom 93 = .ok (.aload_n 0, 1) := by decide +kernel
theorem dX2_countStraysFrom_94 : decode cX2_countStraysFrom 94 = .ok (.getfield 25, 3) := by decide +kernel
theorem dX2_countStraysFrom_97 : decode cX2_countStraysFrom 97 = .ok (.ifCond .ne 13, 3) := by decide +kernel
theorem dX2_countStraysFrom_100 : decode cX2_countStraysFrom 100 = .ok (.iload 7, 2) := by decide +kernel
theorem dX2_countStraysFrom_102 : decode cX2_countStraysFrom 102 = .ok (.aload_n 3, 1) := by decide +kernel
theorem dX2_countStraysFrom_103 : decode cX2_countStraysFrom 103 = .ok (.iload 8, 2) := by decide +kernel
theorem dX2_countStraysFrom_105 : decode cX2_countStraysFrom 105 = .ok (.iaload, 1) := by decide +kernel
theorem dX2_countStraysFrom_106 : decode cX2_countStraysFrom 106 = .ok (.iand, 1) := by decide +kernel
theorem dX2_countStraysFrom_107 : decode cX2_countStraysFrom 107 = .ok (.ifCond .eq 7, 3) := by decide +kernel
theorem dX2_countStraysFrom_110 : decode cX2_countStraysFrom 110 = .ok (.iconst 1, 1) := by decide +kernel
theorem dX2_countStraysFrom_111 : decode cX2_countStraysFrom 111 = .ok (.goto 4, 3) := by decide +kernel
theorem dX2_countStraysFrom_114 : decode cX2_countStraysFrom 114 = .ok (.iconst 0, 1) := by decide +kernel
theorem dX2_countStraysFrom_115 : decode cX2_countStraysFrom 115 = .ok (.putfield 25, 3) := by decide +kernel
theorem dX2_countStraysFrom_118 : decode cX2_countStraysFrom 118 = .ok (.iinc 6 1, 3) := by decide +kernel
theorem dX2_countStraysFrom_121 : decode cX2_countStraysFrom 121 = .ok (.goto (-110), 3) := by decide +kernel
theorem dX2_countStraysFrom_124 : decode cX2_countStraysFrom 124 = .ok (.return_, 1) := by decide +kernel
theorem dX3_init_0 : decode cX3_init 0 = .ok (.aload_n 0, 1) := by decide +kernel
theorem dX3_init_1 : decode cX3_init 1 = .ok (.invokespecial 3, 3) := by decide +kernel
theorem dX3_init_4 : decode cX3_init 4 = .ok (.aload_n 0, 1) := by decide +kernel
theorem dX3_init_5 : decode cX3_init 5 = .ok (.bipush 64, 2) := by decide +kernel
theorem dX3_init_7 : decode cX3_init 7 = .ok (.newarray .int, 2) := by decide +kernel
theorem dX3_init_9 : decode cX3_init 9 = .ok (.putfield 9, 3) := by decide +kernel
theorem dX3_init_12 : decode cX3_init 12 = .ok (.aload_n 0, 1) := by decide +kernel
theorem dX3_init_13 : decode cX3_init 13 = .ok (.sipush 256, 3) := by decide +kernel
theorem dX3_init_16 : decode cX3_init 16 = .ok (.newarray .int, 2) := by decide +kernel
theorem dX3_init_18 : decode cX3_init 18 = .ok (.putfield 15, 3) := by decide +kernel
theorem dX3_init_21 : decode cX3_init 21 = .ok (.return_, 1) := by decide +kernel
theorem dX3_take_0 : decode cX3_take 0 = .ok (.aload_n 3, 1) := by decide +kernel
theorem dX3_take_1 : decode cX3_take 1 = .ok (.aload_n 0, 1) := by decide +kernel
theorem dX3_take_2 : decode cX3_take 2 = .ok (.getfield 15, 3) := by decide +kernel
theorem dX3_take_5 : decode cX3_take 5 = .ok (.iload 4, 2) := by decide +kernel
theorem dX3_take_7 : decode cX3_take 7 = .ok (.aload_n 2, 1) := by decide +kernel
theorem dX3_take_8 : decode cX3_take 8 = .ok (.getfield 18, 3) := by decide +kernel
theorem dX3_take_11 : decode cX3_take 11 = .ok (.invokevirtual 24, 3) := by decide +kernel
theorem dX3_take_14 : decode cX3_take 14 = .ok (.iconst 0, 1) := by decide +kernel
theorem dX3_take_15 : decode cX3_take 15 = .ok (.istore 5, 2) := by decide +kernel
theorem dX3_take_17 : decode cX3_take 17 = .ok (.iload 5, 2) := by decide +kernel
theorem dX3_take_19 : decode cX3_take 19 = .ok (.bipush 64, 2) := by decide +kernel
theorem dX3_take_21 : decode cX3_take 21 = .ok (.if_icmp .ge 27, 3) := by decide +kernel
theorem dX3_take_24 : decode cX3_take 24 = .ok (.aload_n 0, 1) := by decide +kernel
theorem dX3_take_25 : decode cX3_take 25 = .ok (.getfield 9, 3) := by decide +kernel
theorem dX3_take_28 : decode cX3_take 28 = .ok (.iload 5, 2) := by decide +kernel
theorem dX3_take_30 : decode cX3_take 30 = .ok (.aload_n 0, 1) := by decide +kernel
theorem dX3_take_31 : decode cX3_take 31 = .ok (.iload 5, 2) := by decide +kernel
theorem dX3_take_33 : decode cX3_take 33 = .ok (.aload_n 1, 1) := by decide +kernel
theorem dX3_take_34 : decode cX3_take 34 = .ok (.aload_n 2, 1) := by decide +kernel
theorem dX3_take_35 : decode cX3_take 35 = .ok (.getfield 30, 3) := by decide +kernel
theorem dX3_take_38 : decode cX3_take 38 = .ok (.invokevirtual 33, 3) := by decide +kernel
theorem dX3_take_41 : decode cX3_take 41 = .ok (.iastore, 1) := by decide +kernel
theorem dX3_take_42 : decode cX3_take 42 = .ok (.iinc 5 1, 3) := by decide +kernel
theorem dX3_take_45 : decode cX3_take 45 = .ok (.goto (-28), 3) := by decide +kernel
theorem dX3_take_48 : decode cX3_take 48 = .ok (.return_, 1) := by decide +kernel
theorem dX3_doorsOf_0 : decode cX3_doorsOf 0 = .ok (.iconst 0, 1) := by decide +kernel
theorem dX3_doorsOf_1 : decode cX3_doorsOf 1 = .ok (.istore 4, 2) := by decide +kernel
theorem dX3_doorsOf_3 : decode cX3_doorsOf 3 = .ok (.iconst 0, 1) := by decide +kernel
theorem dX3_doorsOf_4 : decode cX3_doorsOf 4 = .ok (.istore 5, 2) := by decide +kernel
theorem dX3_doorsOf_6 : decode cX3_doorsOf 6 = .ok (.iload 5, 2) := by decide +kernel
theorem dX3_doorsOf_8 : decode cX3_doorsOf 8 = .ok (.iconst 4, 1) := by decide +kernel
theorem dX3_doorsOf_9 : decode cX3_doorsOf 9 = .ok (.if_icmp .ge 40, 3) := by decide +kernel
theorem dX3_doorsOf_12 : decode cX3_doorsOf 12 = .ok (.aload_n 2, 1) := by decide +kernel
theorem dX3_doorsOf_13 : decode cX3_doorsOf 13 = .ok (.iload_n 1, 1) := by decide +kernel
theorem dX3_doorsOf_14 : decode cX3_doorsOf 14 = .ok (.iload 5, 2) := by decide +kernel
theorem dX3_doorsOf_16 : decode cX3_doorsOf 16 = .ok (.aload_n 0, 1) := by decide +kernel
theorem dX3_doorsOf_17 : decode cX3_doorsOf 17 = .ok (.getfield 15, 3) := by decide +kernel
theorem dX3_doorsOf_20 : decode cX3_doorsOf 20 = .ok (.iload_n 1, 1) := by decide +kernel
theorem dX3_doorsOf_21 : decode cX3_doorsOf 21 = .ok (.iconst 4, 1) := by decide +kernel
theorem dX3_doorsOf_22 : decode cX3_doorsOf 22 = .ok (.imul, 1) := by decide +kernel
theorem dX3_doorsOf_23 : decode cX3_doorsOf 23 = .ok (.iload 5, 2) := by decide +kernel
theorem dX3_doorsOf_25 : decode cX3_doorsOf 25 = .ok (.iadd, 1) := by decide +kernel
theorem dX3_doorsOf_26 : decode cX3_doorsOf 26 = .ok (.iaload, 1) := by decide +kernel
theorem dX3_doorsOf_27 : decode cX3_doorsOf 27 = .ok (.iload_n 3, 1) := by decide +kernel
theorem dX3_doorsOf_28 : decode cX3_doorsOf 28 = .ok (.invokevirtual 37, 3) := by decide +kernel
theorem dX3_doorsOf_31 : decode cX3_doorsOf 31 = .ok (.ifCond .eq 12, 3) := by decide +kernel
theorem dX3_doorsOf_34 : decode cX3_doorsOf 34 = .ok (.iload 4, 2) := by decide +kernel
theorem dX3_doorsOf_36 : decode cX3_doorsOf 36 = .ok (.iconst 1, 1) := by decide +kernel
theorem dX3_doorsOf_37 : decode cX3_doorsOf 37 = .ok (.iload 5, 2) := by decide +kernel
theorem dX3_doorsOf_39 : decode cX3_doorsOf 39 = .ok (.ishl, 1) := by decide +kernel
theorem dX3_doorsOf_40 : decode cX3_doorsOf 40 = .ok (.ior, 1) := by decide +kernel
theorem dX3_doorsOf_41 : decode cX3_doorsOf 41 = .ok (.istore 4, 2) := by decide +kernel
theorem dX3_doorsOf_43 : decode cX3_doorsOf 43 = .ok (.iinc 5 1, 3) := by decide +kernel
theorem dX3_doorsOf_46 : decode cX3_doorsOf 46 = .ok (.goto (-40), 3) := by decide +kernel
theorem dX3_doorsOf_49 : decode cX3_doorsOf 49 = .ok (.iload 4, 2) := by decide +kernel
theorem dX3_doorsOf_51 : decode cX3_doorsOf 51 = .ok (.ireturn, 1) := by decide +kernel
theorem dX3_copyFrom_0 : decode cX3_copyFrom 0 = .ok (.aload_n 1, 1) := by decide +kernel
theorem dX3_copyFrom_1 : decode cX3_copyFrom 1 = .ok (.getfield 9, 3) := by decide +kernel
theorem dX3_copyFrom_4 : decode cX3_copyFrom 4 = .ok (.iconst 0, 1) := by decide +kernel
theorem dX3_copyFrom_5 : decode cX3_copyFrom 5 = .ok (.aload_n 0, 1) := by decide +kernel
theorem dX3_copyFrom_6 : decode cX3_copyFrom 6 = .ok (.getfield 9, 3) := by decide +kernel
theorem dX3_copyFrom_9 : decode cX3_copyFrom 9 = .ok (.iconst 0, 1) := by decide +kernel
theorem dX3_copyFrom_10 : decode cX3_copyFrom 10 = .ok (.bipush 64, 2) := by decide +kernel
theorem dX3_copyFrom_12 : decode cX3_copyFrom 12 = .ok (.invokestatic 43, 3) := by decide +kernel
theorem dX3_copyFrom_15 : decode cX3_copyFrom 15 = .ok (.aload_n 1, 1) := by decide +kernel
theorem dX3_copyFrom_16 : decode cX3_copyFrom 16 = .ok (.getfield 15, 3) := by decide +kernel
theorem dX3_copyFrom_19 : decode cX3_copyFrom 19 = .ok (.iconst 0, 1) := by decide +kernel
theorem dX3_copyFrom_20 : decode cX3_copyFrom 20 = .ok (.aload_n 0, 1) := by decide +kernel
theorem dX3_copyFrom_21 : decode cX3_copyFrom 21 = .ok (.getfield 15, 3) := by decide +kernel
theorem dX3_copyFrom_24 : decode cX3_copyFrom 24 = .ok (.iconst 0, 1) := by decide +kernel
theorem dX3_copyFrom_25 : decode cX3_copyFrom 25 = .ok (.sipush 256, 3) := by decide +kernel
theorem dX3_copyFrom_28 : decode cX3_copyFrom 28 = .ok (.invokestatic 43, 3) := by decide +kernel
theorem dX3_copyFrom_31 : decode cX3_copyFrom 31 = .ok (.return_, 1) := by decide +kernel
theorem dX3_total_0 : decode cX3_total 0 = .ok (.iconst 0, 1) := by decide +kernel
theorem dX3_total_1 : decode cX3_total 1 = .ok (.istore_n 1, 1) := by decide +kernel
theorem dX3_total_2 : decode cX3_total 2 = .ok (.iconst 0, 1) := by decide +kernel
theorem dX3_total_3 : decode cX3_total 3 = .ok (.istore_n 2, 1) := by decide +kernel
theorem dX3_total_4 : decode cX3_total 4 = .ok (.iload_n 2, 1) := by decide +kernel
theorem dX3_total_5 : decode cX3_total 5 = .ok (.bipush 64, 2) := by decide +kernel
theorem dX3_total_7 : decode cX3_total 7 = .ok (.if_icmp .ge 21, 3) := by decide +kernel
theorem dX3_total_10 : decode cX3_total 10 = .ok (.iload_n 1, 1) := by decide +kernel
theorem dX3_total_11 : decode cX3_total 11 = .ok (.aload_n 0, 1) := by decide +kernel
theorem dX3_total_12 : decode cX3_total 12 = .ok (.getfield 9, 3) := by decide +kernel
theorem dX3_total_15 : decode cX3_total 15 = .ok (.iload_n 2, 1) := by decide +kernel
theorem dX3_total_16 : decode cX3_total 16 = .ok (.iaload, 1) := by decide +kernel
theorem dX3_total_17 : decode cX3_total 17 = .ok (.invokestatic 49, 3) := by decide +kernel
theorem dX3_total_20 : decode cX3_total 20 = .ok (.iadd, 1) := by decide +kernel
theorem dX3_total_21 : decode cX3_total 21 = .ok (.istore_n 1, 1) := by decide +kernel
theorem dX3_total_22 : decode cX3_total 22 = .ok (.iinc 2 1, 3) := by decide +kernel
theorem dX3_total_25 : decode cX3_total 25 = .ok (.goto (-21), 3) := by decide +kernel
theorem dX3_total_28 : decode cX3_total 28 = .ok (.iload_n 1, 1) := by decide +kernel
theorem dX3_total_29 : decode cX3_total 29 = .ok (.ireturn, 1) := by decide +kernel
theorem dX4_init_0 : decode cX4_init 0 = .ok (.aload_n 0, 1) := by decide +kernel
theorem dX4_init_1 : decode cX4_init 1 = .ok (.invokespecial 3, 3) := by decide +kernel
theorem dX4_init_4 : decode cX4_init 4 = .ok (.aload_n 0, 1) := by decide +kernel
theorem dX4_init_5 : decode cX4_init 5 = .ok (.bipush 8, 2) := by decide +kernel
theorem dX4_init_7 : decode cX4_init 7 = .ok (.newarray .int, 2) := by decide +kernel
theorem dX4_init_9 : decode cX4_init 9 = .ok (.putfield 9, 3) := by decide +kernel
theorem dX4_init_12 : decode cX4_init 12 = .ok (.aload_n 0, 1) := by decide +kernel
theorem dX4_init_13 : decode cX4_init 13 = .ok (.bipush 64, 2) := by decide +kernel
theorem dX4_init_15 : decode cX4_init 15 = .ok (.newarray .int, 2) := by decide +kernel
theorem dX4_init_17 : decode cX4_init 17 = .ok (.putfield 15, 3) := by decide +kernel
theorem dX4_init_20 : decode cX4_init 20 = .ok (.aload_n 0, 1) := by decide +kernel
theorem dX4_init_21 : decode cX4_init 21 = .ok (.bipush 64, 2) := by decide +kernel
theorem dX4_init_23 : decode cX4_init 23 = .ok (.newarray .int, 2) := by decide +kernel
theorem dX4_init_25 : decode cX4_init 25 = .ok (.putfield 18, 3) := by decide +kernel
theorem dX4_init_28 : decode cX4_init 28 = .ok (.aload_n 0, 1) := by decide +kernel
theorem dX4_init_29 : decode cX4_init 29 = .ok (.iconst 0, 1) := by decide +kernel
theorem dX4_init_30 : decode cX4_init 30 = .ok (.putfield 21, 3) := by decide +kernel
theorem dX4_init_33 : decode cX4_init 33 = .ok (.return_, 1) := by decide +kernel
theorem dX4_addHost_0 : decode cX4_addHost 0 = .ok (.aload_n 0, 1) := by decide +kernel
theorem dX4_addHost_1 : decode cX4_addHost 1 = .ok (.getfield 21, 3) := by decide +kernel
theorem dX4_addHost_4 : decode cX4_addHost 4 = .ok (.bipush 8, 2) := by decide +kernel
theorem dX4_addHost_6 : decode cX4_addHost 6 = .ok (.if_icmp .lt 5, 3) := by decide +kernel
theorem dX4_addHost_9 : decode cX4_addHost 9 = .ok (.iconst (-1), 1) := by decide +kernel
theorem dX4_addHost_10 : decode cX4_addHost 10 = .ok (.ireturn, 1) := by decide +kernel
theorem dX4_addHost_11 : decode cX4_addHost 11 = .ok (.aload_n 0, 1) := by decide +kernel
theorem dX4_addHost_12 : decode cX4_addHost 12 = .ok (.getfield 9, 3) := by decide +kernel
theorem dX4_addHost_15 : decode cX4_addHost 15 = .ok (.aload_n 0, 1) := by decide +kernel
theorem dX4_addHost_16 : decode cX4_addHost 16 = .ok (.getfield 21, 3) := by decide +kernel
theorem dX4_addHost_19 : decode cX4_addHost 19 = .ok (.iload_n 1, 1) := by decide +kernel
theorem dX4_addHost_20 : decode cX4_addHost 20 = .ok (.iastore, 1) := by decide +kernel
theorem dX4_addHost_21 : decode cX4_addHost 21 = .ok (.aload_n 0, 1) := by decide +kernel
theorem dX4_addHost_22 : decode cX4_addHost 22 = .ok (.dup, 1) := by decide +kernel
theorem dX4_addHost_23 : decode cX4_addHost 23 = .ok (.getfield 21, 3) := by decide +kernel
theorem dX4_addHost_26 : decode cX4_addHost 26 = .ok (.iconst 1, 1) := by decide +kernel
theorem dX4_addHost_27 : decode cX4_addHost 27 = .ok (.iadd, 1) := by decide +kernel
theorem dX4_addHost_28 : decode cX4_addHost 28 = .ok (.putfield 21, 3) := by decide +kernel
theorem dX4_addHost_31 : decode cX4_addHost 31 = .ok (.aload_n 0, 1) := by decide +kernel
theorem dX4_addHost_32 : decode cX4_addHost 32 = .ok (.getfield 21, 3) := by decide +kernel
theorem dX4_addHost_35 : decode cX4_addHost 35 = .ok (.iconst 1, 1) := by decide +kernel
theorem dX4_addHost_36 : decode cX4_addHost 36 = .ok (.isub, 1) := by decide +kernel
theorem dX4_addHost_37 : decode cX4_addHost 37 = .ok (.ireturn, 1) := by decide +kernel
theorem dX4_isHost_0 : decode cX4_isHost 0 = .ok (.iload_n 1, 1) := by decide +kernel
theorem dX4_isHost_1 : decode cX4_isHost 1 = .ok (.iconst 0, 1) := by decide +kernel
theorem dX4_isHost_2 : decode cX4_isHost 2 = .ok (.aload_n 0, 1) := by decide +kernel
theorem dX4_isHost_3 : decode cX4_isHost 3 = .ok (.getfield 21, 3) := by decide +kernel
theorem dX4_isHost_6 : decode cX4_isHost 6 = .ok (.iconst 1, 1) := by decide +kernel
theorem dX4_isHost_7 : decode cX4_isHost 7 = .ok (.isub, 1) := by decide +kernel
theorem dX4_isHost_8 : decode cX4_isHost 8 = .ok (.invokestatic 25, 3) := by decide +kernel
theorem dX4_isHost_11 : decode cX4_isHost 11 = .ok (.ireturn, 1) := by decide +kernel
theorem dX4_isWay_0 : decode cX4_isWay 0 = .ok (.aload_n 0, 1) := by decide +kernel
theorem dX4_isWay_1 : decode cX4_isWay 1 = .ok (.iload_n 1, 1) := by decide +kernel
theorem dX4_isWay_2 : decode cX4_isWay 2 = .ok (.invokevirtual 29, 3) := by decide +kernel
theorem dX4_isWay_5 : decode cX4_isWay 5 = .ok (.ifCond .eq 29, 3) := by decide +kernel
theorem dX4_isWay_8 : decode cX4_isWay 8 = .ok (.aload_n 0, 1) := by decide +kernel
theorem dX4_isWay_9 : decode cX4_isWay 9 = .ok (.iload_n 2, 1) := by decide +kernel
theorem dX4_isWay_10 : decode cX4_isWay 10 = .ok (.invokevirtual 29, 3) := by decide +kernel
theorem dX4_isWay_13 : decode cX4_isWay 13 = .ok (.ifCond .eq 21, 3) := by decide +kernel
theorem dX4_isWay_16 : decode cX4_isWay 16 = .ok (.iload_n 1, 1) := by decide +kernel
theorem dX4_isWay_17 : decode cX4_isWay 17 = .ok (.iload_n 2, 1) := by decide +kernel
theorem dX4_isWay_18 : decode cX4_isWay 18 = .ok (.if_icmp .eq 16, 3) := by decide +kernel
theorem dX4_isWay_21 : decode cX4_isWay 21 = .ok (.iload_n 3, 1) := by decide +kernel
theorem dX4_isWay_22 : decode cX4_isWay 22 = .ok (.iconst 0, 1) := by decide +kernel
theorem dX4_isWay_23 : decode cX4_isWay 23 = .ok (.iconst 3, 1) := by decide +kernel
theorem dX4_isWay_24 : decode cX4_isWay 24 = .ok (.invokestatic 25, 3) := by decide +kernel
theorem dX4_isWay_27 : decode cX4_isWay 27 = .ok (.ifCond .eq 7, 3) := by decide +kernel
theorem dX4_isWay_30 : decode cX4_isWay 30 = .ok (.iconst 1, 1) := by decide +kernel
theorem dX4_isWay_31 : decode cX4_isWay 31 = .ok (.goto 4, 3) := by decide +kernel
theorem dX4_isWay_34 : decode cX4_isWay 34 = .ok (.iconst 0, 1) := by decide +kernel
theorem dX4_isWay_35 : decode cX4_isWay 35 = .ok (.ireturn, 1) := by decide +kernel
theorem dX4_isNeed_0 : decode cX4_isNeed 0 = .ok (.aload_n 0, 1) := by decide +kernel
theorem dX4_isNeed_1 : decode cX4_isNeed 1 = .ok (.getfield 15, 3) := by decide +kernel
theorem dX4_isNeed_4 : decode cX4_isNeed 4 = .ok (.iload_n 1, 1) := by decide +kernel
theorem dX4_isNeed_5 : decode cX4_isNeed 5 = .ok (.iaload, 1) := by decide +kernel
theorem dX4_isNeed_6 : decode cX4_isNeed 6 = .ok (.iload_n 2, 1) := by decide +kernel
theorem dX4_isNeed_7 : decode cX4_isNeed 7 = .ok (.invokestatic 33, 3) := by decide +kernel
theorem dX4_isNeed_10 : decode cX4_isNeed 10 = .ok (.ifCond .ne 22, 3) := by decide +kernel
theorem dX4_isNeed_13 : decode cX4_isNeed 13 = .ok (.aload_n 0, 1) := by decide +kernel
theorem dX4_isNeed_14 : decode cX4_isNeed 14 = .ok (.getfield 18, 3) := by decide +kernel
theorem dX4_isNeed_17 : decode cX4_isNeed 17 = .ok (.iload_n 1, 1) := by decide +kernel
theorem dX4_isNeed_18 : decode cX4_isNeed 18 = .ok (.iaload, 1) := by decide +kernel
theorem dX4_isNeed_19 : decode cX4_isNeed 19 = .ok (.iload_n 2, 1) := by decide +kernel
theorem dX4_isNeed_20 : decode cX4_isNeed 20 = .ok (.invokestatic 33, 3) := by decide +kernel
theorem dX4_isNeed_23 : decode cX4_isNeed 23 = .ok (.ifCond .ne 13, 3) := by decide +kernel
theorem dX4_isNeed_26 : decode cX4_isNeed 26 = .ok (.iload_n 3, 1) := by decide +kernel
theorem dX4_isNeed_27 : decode cX4_isNeed 27 = .ok (.iload 4, 2) := by decide +kernel
theorem dX4_isNeed_29 : decode cX4_isNeed 29 = .ok (.if_icmp .lt 7, 3) := by decide +kernel
theorem dX4_isNeed_32 : decode cX4_isNeed 32 = .ok (.iconst 1, 1) := by decide +kernel
theorem dX4_isNeed_33 : decode cX4_isNeed 33 = .ok (.goto 4, 3) := by decide +kernel
theorem dX4_isNeed_36 : decode cX4_isNeed 36 = .ok (.iconst 0, 1) := by decide +kernel
theorem dX4_isNeed_37 : decode cX4_isNeed 37 = .ok (.ireturn, 1) := by decide +kernel
theorem dX5_init_0 : decode cX5_init 0 = .ok (.aload_n 0, 1) := by decide +kernel
theorem dX5_init_1 : decode cX5_init 1 = .ok (.invokespecial 3, 3) := by decide +kernel
theorem dX5_init_4 : decode cX5_init 4 = .ok (.aload_n 0, 1) := by decide +kernel
theorem dX5_init_5 : decode cX5_init 5 = .ok (.sipush 300, 3) := by decide +kernel
theorem dX5_init_8 : decode cX5_init 8 = .ok (.newarray .int, 2) := by decide +kernel
theorem dX5_init_10 : decode cX5_init 10 = .ok (.putfield 9, 3) := by decide +kernel
theorem dX5_init_13 : decode cX5_init 13 = .ok (.aload_n 0, 1) := by decide +kernel
theorem dX5_init_14 : decode cX5_init 14 = .ok (.sipush 300, 3) := by decide +kernel
theorem dX5_init_17 : decode cX5_init 17 = .ok (.newarray .int, 2) := by decide +kernel
theorem dX5_init_19 : decode cX5_init 19 = .ok (.putfield 15, 3) := by decide +kernel
theorem dX5_init_22 : decode cX5_init 22 = .ok (.aload_n 0, 1) := by decide +kernel
theorem dX5_init_23 : decode cX5_init 23 = .ok (.iconst 0, 1) := by decide +kernel
theorem dX5_init_24 : decode cX5_init 24 = .ok (.putfield 18, 3) := by decide +kernel
theorem dX5_init_27 : decode cX5_init 27 = .ok (.return_, 1) := by decide +kernel
theorem dX5_gather_0 : decode cX5_gather 0 = .ok (.aload_n 0, 1) := by decide +kernel
theorem dX5_gather_1 : decode cX5_gather 1 = .ok (.iconst 0, 1) := by decide +kernel
theorem dX5_gather_2 : decode cX5_gather 2 = .ok (.putfield 18, 3) := by decide +kernel
theorem dX5_gather_5 : decode cX5_gather 5 = .ok (.iconst 0, 1) := by decide +kernel
theorem dX5_gather_6 : decode cX5_gather 6 = .ok (.istore 4, 2) := by decide +kernel
theorem dX5_gather_8 : decode cX5_gather 8 = .ok (.iload 4, 2) := by decide +kernel
theorem dX5_gather_10 : decode cX5_gather 10 = .ok (.aload_n 1, 1) := by decide +kernel
theorem dX5_gather_11 : decode cX5_gather 11 = .ok (.getfield 22, 3) := by decide +kernel
theorem dX5_gather_14 : decode cX5_gather 14 = .ok (.if_icmp .ge 87, 3) := by decide +kernel
theorem dX5_gather_17 : decode cX5_gather 17 = .ok (.aload_n 1, 1) := by decide +kernel
theorem dX5_gather_18 : decode cX5_gather 18 = .ok (.getfield 25, 3) := by decide +kernel
theorem dX5_gather_21 : decode cX5_gather 21 = .ok (.iload 4, 2) := by decide +kernel
theorem dX5_gather_23 : decode cX5_gather 23 = .ok (.iaload, 1) := by decide +kernel
theorem dX5_gather_24 : decode cX5_gather 24 = .ok (.istore 5, 2) := by decide +kernel
theorem dX5_gather_26 : decode cX5_gather 26 = .ok (.aload_n 1, 1) := by decide +kernel
theorem dX5_gather_27 : decode cX5_gather 27 = .ok (.getfield 28, 3) := by decide +kernel
theorem dX5_gather_30 : decode cX5_gather 30 = .ok (.iload 4, 2) := by decide +kernel
theorem dX5_gather_32 : decode cX5_gather 32 = .ok (.iaload, 1) := by decide +kernel
theorem dX5_gather_33 : decode cX5_gather 33 = .ok (.iload_n 3, 1) := by decide +kernel
theorem dX5_gather_34 : decode cX5_gather 34 = .ok (.if_icmp .ne 61, 3) := by decide +kernel
theorem dX5_gather_37 : decode cX5_gather 37 = .ok (.aload_n 2, 1) := by decide +kernel
theorem dX5_gather_38 : decode cX5_gather 38 = .ok (.iload 5, 2) := by decide +kernel
theorem dX5_gather_40 : decode cX5_gather 40 = .ok (.invokestatic 31, 3) := by decide +kernel
theorem dX5_gather_43 : decode cX5_gather 43 = .ok (.iload 5, 2) := by decide +kernel
theorem dX5_gather_45 : decode cX5_gather 45 = .ok (.invokestatic 35, 3) := by decide +kernel
theorem dX5_gather_48 : decode cX5_gather 48 = .ok (.iload 5, 2) := by decide +kernel
theorem dX5_gather_50 : decode cX5_gather 50 = .ok (.invokestatic 38, 3) := by decide +kernel
theorem dX5_gather_53 : decode cX5_gather 53 = .ok (.invokevirtual 41, 3) := by decide +kernel
theorem dX5_gather_56 : decode cX5_gather 56 = .ok (.ifCond .ne 39, 3) := by decide +kernel
theorem dX5_gather_59 : decode cX5_gather 59 = .ok (.aload_n 0, 1) := by decide +kernel
theorem dX5_gather_60 : decode cX5_gather 60 = .ok (.getfield 9, 3) := by decide +kernel
theorem dX5_gather_63 : decode cX5_gather 63 = .ok (.aload_n 0, 1) := by decide +kernel
theorem dX5_gather_64 : decode cX5_gather 64 = .ok (.getfield 18, 3) := by decide +kernel
theorem dX5_gather_67 : decode cX5_gather 67 = .ok (.iload 4, 2) := by decide +kernel
theorem dX5_gather_69 : decode cX5_gather 69 = .ok (.iastore, 1) := by decide +kernel
theorem dX5_gather_70 : decode cX5_gather 70 = .ok (.aload_n 0, 1) := by decide +kernel
theorem dX5_gather_71 : decode cX5_gather 71 = .ok (.getfield 15, 3) := by decide +kernel
theorem dX5_gather_74 : decode cX5_gather 74 = .ok (.aload_n 0, 1) := by decide +kernel
theorem dX5_gather_75 : decode cX5_gather 75 = .ok (.getfield 18, 3) := by decide +kernel
theorem dX5_gather_78 : decode cX5_gather 78 = .ok (.iload 5, 2) := by decide +kernel
theorem dX5_gather_80 : decode cX5_gather 80 = .ok (.aload_n 2, 1) := by decide +kernel
theorem dX5_gather_81 : decode cX5_gather 81 = .ok (.invokestatic 47, 3) := by decide +kernel
theorem dX5_gather_84 : decode cX5_gather 84 = .ok (.iastore, 1) := by decide +kernel
theorem dX5_gather_85 : decode cX5_gather 85 = .ok (.aload_n 0, 1) := by decide +kernel
theorem dX5_gather_86 : decode cX5_gather 86 = .ok (.dup, 1) := by decide +kernel
theorem dX5_gather_87 : decode cX5_gather 87 = .ok (.getfield 18, 3) := by decide +kernel
theorem dX5_gather_90 : decode cX5_gather 90 = .ok (.iconst 1, 1) := by decide +kernel
theorem dX5_gather_91 : decode cX5_gather 91 = .ok (.iadd, 1) := by decide +kernel
theorem dX5_gather_92 : decode cX5_gather 92 = .ok (.putfield 18, 3) := by decide +kernel
theorem dX5_gather_95 : decode cX5_gather 95 = .ok (.iinc 4 1, 3) := by decide +kernel
theorem dX5_gather_98 : decode cX5_gather 98 = .ok (.goto (-90), 3) := by decide +kernel
theorem dX5_gather_101 : decode cX5_gather 101 = .ok (.return_, 1) := by decide +kernel
theorem dX5_nearnessOf_0 : decode cX5_nearnessOf 0 = .ok (.iload_n 0, 1) := by decide +kernel
theorem dX5_nearnessOf_1 : decode cX5_nearnessOf 1 = .ok (.invokestatic 31, 3) := by decide +kernel
theorem dX5_nearnessOf_4 : decode cX5_nearnessOf 4 = .ok (.istore_n 2, 1) := by decide +kernel
theorem dX5_nearnessOf_5 : decode cX5_nearnessOf 5 = .ok (.iload_n 0, 1) := by decide +kernel
theorem dX5_nearnessOf_6 : decode cX5_nearnessOf 6 = .ok (.invokestatic 35, 3) := by decide +kernel
theorem dX5_nearnessOf_9 : decode cX5_nearnessOf 9 = .ok (.istore_n 3, 1) := by decide +kernel
theorem dX5_nearnessOf_10 : decode cX5_nearnessOf 10 = .ok (.aload_n 1, 1) := by decide +kernel
theorem dX5_nearnessOf_11 : decode cX5_nearnessOf 11 = .ok (.iload_n 2, 1) := by decide +kernel
theorem dX5_nearnessOf_12 : decode cX5_nearnessOf 12 = .ok (.iload_n 3, 1) := by decide +kernel
theorem dX5_nearnessOf_13 : decode cX5_nearnessOf 13 = .ok (.invokevirtual 51, 3) := by decide +kernel
theorem dX5_nearnessOf_16 : decode cX5_nearnessOf 16 = .ok (.ifCond .ne 5, 3) := by decide +kernel
theorem dX5_nearnessOf_19 : decode cX5_nearnessOf 19 = .ok (.iconst 0, 1) := by decide +kernel
theorem dX5_nearnessOf_20 : decode cX5_nearnessOf 20 = .ok (.ireturn, 1) := by decide +kernel
theorem dX5_nearnessOf_21 : decode cX5_nearnessOf 21 = .ok (.aload_n 1, 1) := by decide +kernel
theorem dX5_nearnessOf_22 : decode cX5_nearnessOf 22 = .ok (.iload_n 2, 1) := by decide +kernel
theorem dX5_nearnessOf_23 : decode cX5_nearnessOf 23 = .ok (.iload_n 3, 1) := by decide +kernel
theorem dX5_nearnessOf_24 : decode cX5_nearnessOf 24 = .ok (.invokevirtual 55, 3) := by decide +kernel
theorem dX5_nearnessOf_27 : decode cX5_nearnessOf 27 = .ok (.ifCond .eq 7, 3) := by decide +kernel
theorem dX5_nearnessOf_30 : decode cX5_nearnessOf 30 = .ok (.iconst 1, 1) := by decide +kernel
theorem dX5_nearnessOf_31 : decode cX5_nearnessOf 31 = .ok (.goto 4, 3) := by decide +kernel
theorem dX5_nearnessOf_34 : decode cX5_nearnessOf 34 = .ok (.iconst 0, 1) := by decide +kernel
theorem dX5_nearnessOf_35 : decode cX5_nearnessOf 35 = .ok (.istore 4, 2) := by decide +kernel
theorem dX5_nearnessOf_37 : decode cX5_nearnessOf 37 = .ok (.aload_n 1, 1) := by decide +kernel
theorem dX5_nearnessOf_38 : decode cX5_nearnessOf 38 = .ok (.iload_n 3, 1) := by decide +kernel
theorem dX5_nearnessOf_39 : decode cX5_nearnessOf 39 = .ok (.iload_n 2, 1) := by decide +kernel
theorem dX5_nearnessOf_40 : decode cX5_nearnessOf 40 = .ok (.invokevirtual 55, 3) := by decide +kernel
theorem dX5_nearnessOf_43 : decode cX5_nearnessOf 43 = .ok (.iload_n 0, 1) := by decide +kernel
theorem dX5_nearnessOf_44 : decode cX5_nearnessOf 44 = .ok (.invokestatic 38, 3) := by decide +kernel
theorem dX5_nearnessOf_47 : decode cX5_nearnessOf 47 = .ok (.invokestatic 59, 3) := by decide +kernel
theorem dX5_nearnessOf_50 : decode cX5_nearnessOf 50 = .ok (.ifCond .eq 7, 3) := by decide +kernel
theorem dX5_nearnessOf_53 : decode cX5_nearnessOf 53 = .ok (.iconst 2, 1) := by decide +kernel
theorem dX5_nearnessOf_54 : decode cX5_nearnessOf 54 = .ok (.goto 4, 3) := by decide +kernel
theorem dX5_nearnessOf_57 : decode cX5_nearnessOf 57 = .ok (.iconst 0, 1) := by decide +kernel
theorem dX5_nearnessOf_58 : decode cX5_nearnessOf 58 = .ok (.istore 5, 2) := by decide +kernel
theorem dX5_nearnessOf_60 : decode cX5_nearnessOf 60 = .ok (.iload 4, 2) := by decide +kernel
theorem dX5_nearnessOf_62 : decode cX5_nearnessOf 62 = .ok (.iload 5, 2) := by decide +kernel
theorem dX5_nearnessOf_64 : decode cX5_nearnessOf 64 = .ok (.iadd, 1) := by decide +kernel
theorem dX5_nearnessOf_65 : decode cX5_nearnessOf 65 = .ok (.ireturn, 1) := by decide +kernel
theorem dX6_init_0 : decode cX6_init 0 = .ok (.aload_n 0, 1) := by decide +kernel
theorem dX6_init_1 : decode cX6_init 1 = .ok (.invokespecial 3, 3) := by decide +kernel
theorem dX6_init_4 : decode cX6_init 4 = .ok (.aload_n 0, 1) := by decide +kernel
theorem dX6_init_5 : decode cX6_init 5 = .ok (.new 9, 3) := by decide +kernel
theorem dX6_init_8 : decode cX6_init 8 = .ok (.dup, 1) := by decide +kernel
theorem dX6_init_9 : decode cX6_init 9 = .ok (.invokespecial 11, 3) := by decide +kernel
theorem dX6_init_12 : decode cX6_init 12 = .ok (.putfield 12, 3) := by decide +kernel
theorem dX6_init_15 : decode cX6_init 15 = .ok (.aload_n 0, 1) := by decide +kernel
theorem dX6_init_16 : decode cX6_init 16 = .ok (.new 18, 3) := by decide +kernel
theorem dX6_init_19 : decode cX6_init 19 = .ok (.dup, 1) := by decide +kernel
theorem dX6_init_20 : decode cX6_init 20 = .ok (.invokespecial 20, 3) := by decide +kernel
theorem dX6_init_23 : decode cX6_init 23 = .ok (.putfield 21, 3) := by decide +kernel
theorem dX6_init_26 : decode cX6_init 26 = .ok (.aload_n 0, 1) := by decide +kernel
theorem dX6_init_27 : decode cX6_init 27 = .ok (.sipush 224, 3) := by decide +kernel
theorem dX6_init_30 : decode cX6_init 30 = .ok (.newarray .int, 2) := by decide +kernel
theorem dX6_init_32 : decode cX6_init 32 = .ok (.putfield 25, 3) := by decide +kernel
theorem dX6_init_35 : decode cX6_init 35 = .ok (.aload_n 0, 1) := by decide +kernel
theorem dX6_init_36 : decode cX6_init 36 = .ok (.iconst 0, 1) := by decide +kernel
theorem dX6_init_37 : decode cX6_init 37 = .ok (.putfield 29, 3) := by decide +kernel
theorem dX6_init_40 : decode cX6_init 40 = .ok (.aload_n 0, 1) := by decide +kernel
theorem dX6_init_41 : decode cX6_init 41 = .ok (.iconst 0, 1) := by decide +kernel
theorem dX6_init_42 : decode cX6_init 42 = .ok (.putfield 33, 3) := by decide +kernel
theorem dX6_init_45 : decode cX6_init 45 = .ok (.aload_n 0, 1) := by decide +kernel
theorem dX6_init_46 : decode cX6_init 46 = .ok (.iconst 0, 1) := by decide +kernel
theorem dX6_init_47 : decode cX6_init 47 = .ok (.putfield 36, 3) := by decide +kernel
theorem dX6_init_50 : decode cX6_init 50 = .ok (.return_, 1) := by decide +kernel
theorem dX6_settle_0 : decode cX6_settle 0 = .ok (.aload_n 0, 1) := by decide +kernel
theorem dX6_settle_1 : decode cX6_settle 1 = .ok (.getfield 12, 3) := by decide +kernel
theorem dX6_settle_4 : decode cX6_settle 4 = .ok (.aload_n 1, 1) := by decide +kernel
theorem dX6_settle_5 : decode cX6_settle 5 = .ok (.invokevirtual 40, 3) := by decide +kernel
theorem dX6_settle_8 : decode cX6_settle 8 = .ok (.aload_n 0, 1) := by decide +kernel
theorem dX6_settle_9 : decode cX6_settle 9 = .ok (.getfield 21, 3) := by decide +kernel
theorem dX6_settle_12 : decode cX6_settle 12 = .ok (.aload_n 2, 1) := by decide +kernel
theorem dX6_settle_13 : decode cX6_settle 13 = .ok (.invokevirtual 44, 3) := by decide +kernel
theorem dX6_settle_16 : decode cX6_settle 16 = .ok (.aload_n 0, 1) := by decide +kernel
theorem dX6_settle_17 : decode cX6_settle 17 = .ok (.getfield 12, 3) := by decide +kernel
theorem dX6_settle_20 : decode cX6_settle 20 = .ok (.aload_n 0, 1) := by decide +kernel
theorem dX6_settle_21 : decode cX6_settle 21 = .ok (.getfield 21, 3) := by decide +kernel
theorem dX6_settle_24 : decode cX6_settle 24 = .ok (.getfield 48, 3) := by decide +kernel
theorem dX6_settle_27 : decode cX6_settle 27 = .ok (.aload_n 3, 1) := by decide +kernel
theorem dX6_settle_28 : decode cX6_settle 28 = .ok (.getfield 51, 3) := by decide +kernel
theorem dX6_settle_31 : decode cX6_settle 31 = .ok (.aload_n 3, 1) := by decide +kernel
theorem dX6_settle_32 : decode cX6_settle 32 = .ok (.getfield 56, 3) := by decide +kernel
theorem dX6_settle_35 : decode cX6_settle 35 = .ok (.invokevirtual 59, 3) := by decide +kernel
theorem dX6_settle_38 : decode cX6_settle 38 = .ok (.aload_n 0, 1) := by decide +kernel
theorem dX6_settle_39 : decode cX6_settle 39 = .ok (.aload 4, 2) := by decide +kernel
theorem dX6_settle_41 : decode cX6_settle 41 = .ok (.aload_n 0, 1) := by decide +kernel
theorem dX6_settle_42 : decode cX6_settle 42 = .ok (.getfield 12, 3) := by decide +kernel
theorem dX6_settle_45 : decode cX6_settle 45 = .ok (.getfield 63, 3) := by decide +kernel
theorem dX6_settle_48 : decode cX6_settle 48 = .ok (.aload_n 0, 1) := by decide +kernel
theorem dX6_settle_49 : decode cX6_settle 49 = .ok (.getfield 12, 3) := by decide +kernel
theorem dX6_settle_52 : decode cX6_settle 52 = .ok (.getfield 64, 3) := by decide +kernel
theorem dX6_settle_55 : decode cX6_settle 55 = .ok (.invokevirtual 67, 3) := by decide +kernel
theorem dX6_settle_58 : decode cX6_settle 58 = .ok (.putfield 33, 3) := by decide +kernel
theorem dX6_settle_61 : decode cX6_settle 61 = .ok (.aload_n 0, 1) := by decide +kernel
theorem dX6_settle_62 : decode cX6_settle 62 = .ok (.iconst 1, 1) := by decide +kernel
theorem dX6_settle_63 : decode cX6_settle 63 = .ok (.putfield 36, 3) := by decide +kernel
theorem dX6_settle_66 : decode cX6_settle 66 = .ok (.aload_n 0, 1) := by decide +kernel
theorem dX6_settle_67 : decode cX6_settle 67 = .ok (.invokevirtual 73, 3) := by decide +kernel
theorem dX6_settle_70 : decode cX6_settle 70 = .ok (.return_, 1) := by decide +kernel
theorem dX6_listRules_0 : decode cX6_listRules 0 = .ok (.aload_n 0, 1) := by decide +kernel
theorem dX6_listRules_1 : decode cX6_listRules 1 = .ok (.iconst 0, 1) := by decide +kernel
theorem dX6_listRules_2 : decode cX6_listRules 2 = .ok (.putfield 29, 3) := by decide +kernel
theorem dX6_listRules_5 : decode cX6_listRules 5 = .ok (.iconst 0, 1) := by decide +kernel
theorem dX6_listRules_6 : decode cX6_listRules 6 = .ok (.istore_n 1, 1) := by decide +kernel
theorem dX6_listRules_7 : decode cX6_listRules 7 = .ok (.iload_n 1, 1) := by decide +kernel
theorem dX6_listRules_8 : decode cX6_listRules 8 = .ok (.sipush 256, 3) := by decide +kernel
theorem dX6_listRules_11 : decode cX6_listRules 11 = .ok (.if_icmp .ge 81, 3) := by decide +kernel
theorem dX6_listRules_14 : decode cX6_listRules 14 = .ok (.iload_n 1, 1) := by decide +kernel
theorem dX6_listRules_15 : decode cX6_listRules 15 = .ok (.invokestatic 76, 3) := by decide +kernel
theorem dX6_listRules_18 : decode cX6_listRules 18 = .ok (.iload_n 1, 1) := by decide +kernel
theorem dX6_listRules_19 : decode cX6_listRules 19 = .ok (.invokestatic 80, 3) := by decide +kernel
theorem dX6_listRules_22 : decode cX6_listRules 22 = .ok (.if_icmp .eq 7, 3) := by decide +kernel
theorem dX6_listRules_25 : decode cX6_listRules 25 = .ok (.iconst 1, 1) := by decide +kernel
theorem dX6_listRules_26 : decode cX6_listRules 26 = .ok (.goto 4, 3) := by decide +kernel
theorem dX6_listRules_29 : decode cX6_listRules 29 = .ok (.iconst 0, 1) := by decide +kernel
theorem dX6_listRules_30 : decode cX6_listRules 30 = .ok (.istore_n 2, 1) := by decide +kernel
theorem dX6_listRules_31 : decode cX6_listRules 31 = .ok (.iload_n 2, 1) := by decide +kernel
theorem dX6_listRules_32 : decode cX6_listRules 32 = .ok (.ifCond .eq 54, 3) := by decide +kernel
theorem dX6_listRules_35 : decode cX6_listRules 35 = .ok (.aload_n 0, 1) := by decide +kernel
theorem dX6_listRules_36 : decode cX6_listRules 36 = .ok (.getfield 12, 3) := by decide +kernel
theorem dX6_listRules_39 : decode cX6_listRules 39 = .ok (.getfield 83, 3) := by decide +kernel
theorem dX6_listRules_42 : decode cX6_listRules 42 = .ok (.iload_n 1, 1) := by decide +kernel
theorem dX6_listRules_43 : decode cX6_listRules 43 = .ok (.iconst 4, 1) := by decide +kernel
theorem dX6_listRules_44 : decode cX6_listRules 44 = .ok (.idiv, 1) := by decide +kernel
theorem dX6_listRules_45 : decode cX6_listRules 45 = .ok (.iaload, 1) := by decide +kernel
theorem dX6_listRules_46 : decode cX6_listRules 46 = .ok (.iload_n 1, 1) := by decide +kernel
theorem dX6_listRules_47 : decode cX6_listRules 47 = .ok (.invokestatic 84, 3) := by decide +kernel
theorem dX6_listRules_50 : decode cX6_listRules 50 = .ok (.invokestatic 87, 3) := by decide +kernel
theorem dX6_listRules_53 : decode cX6_listRules 53 = .ok (.ifCond .eq 33, 3) := by decide +kernel
theorem dX6_listRules_56 : decode cX6_listRules 56 = .ok (.aload_n 0, 1) := by decide +kernel
theorem dX6_listRules_57 : decode cX6_listRules 57 = .ok (.getfield 29, 3) := by decide +kernel
theorem dX6_listRules_60 : decode cX6_listRules 60 = .ok (.sipush 224, 3) := by decide +kernel
theorem dX6_listRules_63 : decode cX6_listRules 63 = .ok (.if_icmp .ge 23, 3) := by decide +kernel
theorem dX6_listRules_66 : decode cX6_listRules 66 = .ok (.aload_n 0, 1) := by decide +kernel
theorem dX6_listRules_67 : decode cX6_listRules 67 = .ok (.getfield 25, 3) := by decide +kernel
theorem dX6_listRules_70 : decode cX6_listRules 70 = .ok (.aload_n 0, 1) := by decide +kernel
theorem dX6_listRules_71 : decode cX6_listRules 71 = .ok (.getfield 29, 3) := by decide +kernel
theorem dX6_listRules_74 : decode cX6_listRules 74 = .ok (.iload_n 1, 1) := by decide +kernel
theorem dX6_listRules_75 : decode cX6_listRules 75 = .ok (.iastore, 1) := by decide +kernel
theorem dX6_listRules_76 : decode cX6_listRules 76 = .ok (.aload_n 0, 1) := by decide +kernel
theorem dX6_listRules_77 : decode cX6_listRules 77 = .ok (.dup, 1) := by decide +kernel
theorem dX6_listRules_78 : decode cX6_listRules 78 = .ok (.getfield 29, 3) := by decide +kernel
theorem dX6_listRules_81 : decode cX6_listRules 81 = .ok (.iconst 1, 1) := by decide +kernel
theorem dX6_listRules_82 : decode cX6_listRules 82 = .ok (.iadd, 1) := by decide +kernel
theorem dX6_listRules_83 : decode cX6_listRules 83 = .ok (.putfield 29, 3) := by decide +kernel
theorem dX6_listRules_86 : decode cX6_listRules 86 = .ok (.iinc 1 1, 3) := by decide +kernel
theorem dX6_listRules_89 : decode cX6_listRules 89 = .ok (.goto (-82), 3) := by decide +kernel
theorem dX6_listRules_92 : decode cX6_listRules 92 = .ok (.return_, 1) := by decide +kernel
theorem dX6_isBy_0 : decode cX6_isBy 0 = .ok (.aload_n 0, 1) := by decide +kernel
theorem dX6_isBy_1 : decode cX6_isBy 1 = .ok (.getfield 12, 3) := by decide +kernel
theorem dX6_isBy_4 : decode cX6_isBy 4 = .ok (.getfield 91, 3) := by decide +kernel
theorem dX6_isBy_7 : decode cX6_isBy 7 = .ok (.iload_n 2, 1) := by decide +kernel
theorem dX6_isBy_8 : decode cX6_isBy 8 = .ok (.iaload, 1) := by decide +kernel
theorem dX6_isBy_9 : decode cX6_isBy 9 = .ok (.iload_n 1, 1) := by decide +kernel
theorem dX6_isBy_10 : decode cX6_isBy 10 = .ok (.invokestatic 76, 3) := by decide +kernel
theorem dX6_isBy_13 : decode cX6_isBy 13 = .ok (.if_icmp .ne 23, 3) := by decide +kernel
theorem dX6_isBy_16 : decode cX6_isBy 16 = .ok (.aload_n 0, 1) := by decide +kernel
theorem dX6_isBy_17 : decode cX6_isBy 17 = .ok (.getfield 12, 3) := by decide +kernel
theorem dX6_isBy_20 : decode cX6_isBy 20 = .ok (.getfield 91, 3) := by decide +kernel
theorem dX6_isBy_23 : decode cX6_isBy 23 = .ok (.iload_n 3, 1) := by decide +kernel
theorem dX6_isBy_24 : decode cX6_isBy 24 = .ok (.iaload, 1) := by decide +kernel
theorem dX6_isBy_25 : decode cX6_isBy 25 = .ok (.iload_n 1, 1) := by decide +kernel
theorem dX6_isBy_26 : decode cX6_isBy 26 = .ok (.invokestatic 80, 3) := by decide +kernel
theorem dX6_isBy_29 : decode cX6_isBy 29 = .ok (.if_icmp .ne 7, 3) := by decide +kernel
theorem dX6_isBy_32 : decode cX6_isBy 32 = .ok (.iconst 1, 1) := by decide +kernel
theorem dX6_isBy_33 : decode cX6_isBy 33 = .ok (.goto 4, 3) := by decide +kernel
theorem dX6_isBy_36 : decode cX6_isBy 36 = .ok (.iconst 0, 1) := by decide +kernel
theorem dX6_isBy_37 : decode cX6_isBy 37 = .ok (.ireturn, 1) := by decide +kernel
end
section
theorem dX6_isNeedBy_0 : decode cX6_isNeedBy 0 = .ok (.aload_n 0, 1) := by decide +kernel
theorem dX6_isNeedBy_1 : decode cX6_isNeedBy 1 = .ok (.iload_n 1, 1) := by decide +kernel
theorem dX6_isNeedBy_2 : decode cX6_isNeedBy 2 = .ok (.iload_n 2, 1) := by decide +kernel
theorem dX6_isNeedBy_3 : decode cX6_isNeedBy 3 = .ok (.iload_n 3, 1) := by decide +kernel
theorem dX6_isNeedBy_4 : decode cX6_isNeedBy 4 = .ok (.invokevirtual 94, 3) := by decide +kernel
theorem dX6_isNeedBy_7 : decode cX6_isNeedBy 7 = .ok (.ifCond .eq 30, 3) := by decide +kernel
theorem dX6_isNeedBy_10 : decode cX6_isNeedBy 10 = .ok (.aload_n 0, 1) := by decide +kernel
theorem dX6_isNeedBy_11 : decode cX6_isNeedBy 11 = .ok (.getfield 21, 3) := by decide +kernel
theorem dX6_isNeedBy_14 : decode cX6_isNeedBy 14 = .ok (.getfield 48, 3) := by decide +kernel
theorem dX6_isNeedBy_17 : decode cX6_isNeedBy 17 = .ok (.iload_n 2, 1) := by decide +kernel
theorem dX6_isNeedBy_18 : decode cX6_isNeedBy 18 = .ok (.iload_n 3, 1) := by decide +kernel
theorem dX6_isNeedBy_19 : decode cX6_isNeedBy 19 = .ok (.invokestatic 98, 3) := by decide +kernel
theorem dX6_isNeedBy_22 : decode cX6_isNeedBy 22 = .ok (.iaload, 1) := by decide +kernel
theorem dX6_isNeedBy_23 : decode cX6_isNeedBy 23 = .ok (.iload_n 1, 1) := by decide +kernel
theorem dX6_isNeedBy_24 : decode cX6_isNeedBy 24 = .ok (.invokestatic 84, 3) := by decide +kernel
theorem dX6_isNeedBy_27 : decode cX6_isNeedBy 27 = .ok (.invokestatic 87, 3) := by decide +kernel
theorem dX6_isNeedBy_30 : decode cX6_isNeedBy 30 = .ok (.ifCond .eq 7, 3) := by decide +kernel
theorem dX6_isNeedBy_33 : decode cX6_isNeedBy 33 = .ok (.iconst 1, 1) := by decide +kernel
theorem dX6_isNeedBy_34 : decode cX6_isNeedBy 34 = .ok (.goto 4, 3) := by decide +kernel
theorem dX6_isNeedBy_37 : decode cX6_isNeedBy 37 = .ok (.iconst 0, 1) := by decide +kernel
theorem dX6_isNeedBy_38 : decode cX6_isNeedBy 38 = .ok (.ireturn, 1) := by decide +kernel
theorem dX6_waysBy_0 : decode cX6_waysBy 0 = .ok (.iconst 0, 1) := by decide +kernel
theorem dX6_waysBy_1 : decode cX6_waysBy 1 = .ok (.istore_n 2, 1) := by decide +kernel
theorem dX6_waysBy_2 : decode cX6_waysBy 2 = .ok (.iconst 0, 1) := by decide +kernel
theorem dX6_waysBy_3 : decode cX6_waysBy 3 = .ok (.istore_n 3, 1) := by decide +kernel
theorem dX6_waysBy_4 : decode cX6_waysBy 4 = .ok (.iload_n 3, 1) := by decide +kernel
theorem dX6_waysBy_5 : decode cX6_waysBy 5 = .ok (.bipush 8, 2) := by decide +kernel
theorem dX6_waysBy_7 : decode cX6_waysBy 7 = .ok (.if_icmp .ge 39, 3) := by decide +kernel
theorem dX6_waysBy_10 : decode cX6_waysBy 10 = .ok (.iconst 0, 1) := by decide +kernel
theorem dX6_waysBy_11 : decode cX6_waysBy 11 = .ok (.istore 4, 2) := by decide +kernel
theorem dX6_waysBy_13 : decode cX6_waysBy 13 = .ok (.iload 4, 2) := by decide +kernel
theorem dX6_waysBy_15 : decode cX6_waysBy 15 = .ok (.bipush 8, 2) := by decide +kernel
theorem dX6_waysBy_17 : decode cX6_waysBy 17 = .ok (.if_icmp .ge 23, 3) := by decide +kernel
theorem dX6_waysBy_20 : decode cX6_waysBy 20 = .ok (.aload_n 0, 1) := by decide +kernel
theorem dX6_waysBy_21 : decode cX6_waysBy 21 = .ok (.iload_n 1, 1) := by decide +kernel
theorem dX6_waysBy_22 : decode cX6_waysBy 22 = .ok (.iload_n 3, 1) := by decide +kernel
theorem dX6_waysBy_23 : decode cX6_waysBy 23 = .ok (.iload 4, 2) := by decide +kernel
theorem dX6_waysBy_25 : decode cX6_waysBy 25 = .ok (.invokevirtual 101, 3) := by decide +kernel
theorem dX6_waysBy_28 : decode cX6_waysBy 28 = .ok (.ifCond .eq 6, 3) := by decide +kernel
theorem dX6_waysBy_31 : decode cX6_waysBy 31 = .ok (.iinc 2 1, 3) := by decide +kernel
theorem dX6_waysBy_34 : decode cX6_waysBy 34 = .ok (.iinc 4 1, 3) := by decide +kernel
theorem dX6_waysBy_37 : decode cX6_waysBy 37 = .ok (.goto (-24), 3) := by decide +kernel
theorem dX6_waysBy_40 : decode cX6_waysBy 40 = .ok (.iinc 3 1, 3) := by decide +kernel
theorem dX6_waysBy_43 : decode cX6_waysBy 43 = .ok (.goto (-39), 3) := by decide +kernel
theorem dX6_waysBy_46 : decode cX6_waysBy 46 = .ok (.iload_n 2, 1) := by decide +kernel
theorem dX6_waysBy_47 : decode cX6_waysBy 47 = .ok (.ireturn, 1) := by decide +kernel
theorem dX6_weightBy_0 : decode cX6_weightBy 0 = .ok (.iconst 0, 1) := by decide +kernel
theorem dX6_weightBy_1 : decode cX6_weightBy 1 = .ok (.istore_n 3, 1) := by decide +kernel
theorem dX6_weightBy_2 : decode cX6_weightBy 2 = .ok (.iconst 0, 1) := by decide +kernel
theorem dX6_weightBy_3 : decode cX6_weightBy 3 = .ok (.istore 4, 2) := by decide +kernel
theorem dX6_weightBy_5 : decode cX6_weightBy 5 = .ok (.iload 4, 2) := by decide +kernel
theorem dX6_weightBy_7 : decode cX6_weightBy 7 = .ok (.bipush 8, 2) := by decide +kernel
theorem dX6_weightBy_9 : decode cX6_weightBy 9 = .ok (.if_icmp .ge 63, 3) := by decide +kernel
theorem dX6_weightBy_12 : decode cX6_weightBy 12 = .ok (.iconst 0, 1) := by decide +kernel
theorem dX6_weightBy_13 : decode cX6_weightBy 13 = .ok (.istore 5, 2) := by decide +kernel
theorem dX6_weightBy_15 : decode cX6_weightBy 15 = .ok (.iload 5, 2) := by decide +kernel
theorem dX6_weightBy_17 : decode cX6_weightBy 17 = .ok (.bipush 8, 2) := by decide +kernel
theorem dX6_weightBy_19 : decode cX6_weightBy 19 = .ok (.if_icmp .ge 47, 3) := by decide +kernel
theorem dX6_weightBy_22 : decode cX6_weightBy 22 = .ok (.aload_n 0, 1) := by decide +kernel
theorem dX6_weightBy_23 : decode cX6_weightBy 23 = .ok (.iload_n 1, 1) := by decide +kernel
theorem dX6_weightBy_24 : decode cX6_weightBy 24 = .ok (.iload 4, 2) := by decide +kernel
theorem dX6_weightBy_26 : decode cX6_weightBy 26 = .ok (.iload 5, 2) := by decide +kernel
theorem dX6_weightBy_28 : decode cX6_weightBy 28 = .ok (.invokevirtual 101, 3) := by decide +kernel
theorem dX6_weightBy_31 : decode cX6_weightBy 31 = .ok (.ifCond .eq 29, 3) := by decide +kernel
theorem dX6_weightBy_34 : decode cX6_weightBy 34 = .ok (.iload_n 3, 1) := by decide +kernel
theorem dX6_weightBy_35 : decode cX6_weightBy 35 = .ok (.iload_n 2, 1) := by decide +kernel
theorem dX6_weightBy_36 : decode cX6_weightBy 36 = .ok (.aload_n 0, 1) := by decide +kernel
theorem dX6_weightBy_37 : decode cX6_weightBy 37 = .ok (.getfield 21, 3) := by decide +kernel
theorem dX6_weightBy_40 : decode cX6_weightBy 40 = .ok (.getfield 104, 3) := by decide +kernel
theorem dX6_weightBy_43 : decode cX6_weightBy 43 = .ok (.iload 4, 2) := by decide +kernel
theorem dX6_weightBy_45 : decode cX6_weightBy 45 = .ok (.iload 5, 2) := by decide +kernel
theorem dX6_weightBy_47 : decode cX6_weightBy 47 = .ok (.iload_n 1, 1) := by decide +kernel
theorem dX6_weightBy_48 : decode cX6_weightBy 48 = .ok (.invokestatic 84, 3) := by decide +kernel
theorem dX6_weightBy_51 : decode cX6_weightBy 51 = .ok (.invokestatic 107, 3) := by decide +kernel
theorem dX6_weightBy_54 : decode cX6_weightBy 54 = .ok (.iaload, 1) := by decide +kernel
theorem dX6_weightBy_55 : decode cX6_weightBy 55 = .ok (.invokestatic 111, 3) := by decide +kernel
theorem dX6_weightBy_58 : decode cX6_weightBy 58 = .ok (.iadd, 1) := by decide +kernel
theorem dX6_weightBy_59 : decode cX6_weightBy 59 = .ok (.istore_n 3, 1) := by decide +kernel
theorem dX6_weightBy_60 : decode cX6_weightBy 60 = .ok (.iinc 5 1, 3) := by decide +kernel
theorem dX6_weightBy_63 : decode cX6_weightBy 63 = .ok (.goto (-48), 3) := by decide +kernel
theorem dX6_weightBy_66 : decode cX6_weightBy 66 = .ok (.iinc 4 1, 3) := by decide +kernel
theorem dX6_weightBy_69 : decode cX6_weightBy 69 = .ok (.goto (-64), 3) := by decide +kernel
theorem dX6_weightBy_72 : decode cX6_weightBy 72 = .ok (.iload_n 3, 1) := by decide +kernel
theorem dX6_weightBy_73 : decode cX6_weightBy 73 = .ok (.ireturn, 1) := by decide +kernel
theorem dX6_isMustBy_0 : decode cX6_isMustBy 0 = .ok (.iconst 0, 1) := by decide +kernel
theorem dX6_isMustBy_1 : decode cX6_isMustBy 1 = .ok (.istore_n 3, 1) := by decide +kernel
theorem dX6_isMustBy_2 : decode cX6_isMustBy 2 = .ok (.iload_n 3, 1) := by decide +kernel
theorem dX6_isMustBy_3 : decode cX6_isMustBy 3 = .ok (.bipush 8, 2) := by decide +kernel
theorem dX6_isMustBy_5 : decode cX6_isMustBy 5 = .ok (.if_icmp .ge 56, 3) := by decide +kernel
theorem dX6_isMustBy_8 : decode cX6_isMustBy 8 = .ok (.iconst 0, 1) := by decide +kernel
theorem dX6_isMustBy_9 : decode cX6_isMustBy 9 = .ok (.istore 4, 2) := by decide +kernel
theorem dX6_isMustBy_11 : decode cX6_isMustBy 11 = .ok (.iload 4, 2) := by decide +kernel
theorem dX6_isMustBy_13 : decode cX6_isMustBy 13 = .ok (.bipush 8, 2) := by decide +kernel
theorem dX6_isMustBy_15 : decode cX6_isMustBy 15 = .ok (.if_icmp .ge 40, 3) := by decide +kernel
theorem dX6_isMustBy_18 : decode cX6_isMustBy 18 = .ok (.aload_n 0, 1) := by decide +kernel
theorem dX6_isMustBy_19 : decode cX6_isMustBy 19 = .ok (.iload_n 1, 1) := by decide +kernel
theorem dX6_isMustBy_20 : decode cX6_isMustBy 20 = .ok (.iload_n 3, 1) := by decide +kernel
theorem dX6_isMustBy_21 : decode cX6_isMustBy 21 = .ok (.iload 4, 2) := by decide +kernel
theorem dX6_isMustBy_23 : decode cX6_isMustBy 23 = .ok (.invokevirtual 94, 3) := by decide +kernel
theorem dX6_isMustBy_26 : decode cX6_isMustBy 26 = .ok (.ifCond .eq 23, 3) := by decide +kernel
theorem dX6_isMustBy_29 : decode cX6_isMustBy 29 = .ok (.aload_n 2, 1) := by decide +kernel
theorem dX6_isMustBy_30 : decode cX6_isMustBy 30 = .ok (.iload_n 3, 1) := by decide +kernel
theorem dX6_isMustBy_31 : decode cX6_isMustBy 31 = .ok (.iload 4, 2) := by decide +kernel
theorem dX6_isMustBy_33 : decode cX6_isMustBy 33 = .ok (.invokestatic 98, 3) := by decide +kernel
theorem dX6_isMustBy_36 : decode cX6_isMustBy 36 = .ok (.iaload, 1) := by decide +kernel
theorem dX6_isMustBy_37 : decode cX6_isMustBy 37 = .ok (.iload_n 1, 1) := by decide +kernel
theorem dX6_isMustBy_38 : decode cX6_isMustBy 38 = .ok (.invokestatic 84, 3) := by decide +kernel
theorem dX6_isMustBy_41 : decode cX6_isMustBy 41 = .ok (.invokestatic 87, 3) := by decide +kernel
theorem dX6_isMustBy_44 : decode cX6_isMustBy 44 = .ok (.ifCond .eq 5, 3) := by decide +kernel
theorem dX6_isMustBy_47 : decode cX6_isMustBy 47 = .ok (.iconst 1, 1) := by decide +kernel
theorem dX6_isMustBy_48 : decode cX6_isMustBy 48 = .ok (.ireturn, 1) := by decide +kernel
theorem dX6_isMustBy_49 : decode cX6_isMustBy 49 = .ok (.iinc 4 1, 3) := by decide +kernel
theorem dX6_isMustBy_52 : decode cX6_isMustBy 52 = .ok (.goto (-41), 3) := by decide +kernel
theorem dX6_isMustBy_55 : decode cX6_isMustBy 55 = .ok (.iinc 3 1, 3) := by decide +kernel
theorem dX6_isMustBy_58 : decode cX6_isMustBy 58 = .ok (.goto (-56), 3) := by decide +kernel
theorem dX6_isMustBy_61 : decode cX6_isMustBy 61 = .ok (.iconst 0, 1) := by decide +kernel
theorem dX6_isMustBy_62 : decode cX6_isMustBy 62 = .ok (.ireturn, 1) := by decide +kernel
theorem dX7_init_0 : decode cX7_init 0 = .ok (.aload_n 0, 1) := by decide +kernel
theorem dX7_init_1 : decode cX7_init 1 = .ok (.invokespecial 3, 3) := by decide +kernel
theorem dX7_init_4 : decode cX7_init 4 = .ok (.aload_n 0, 1) := by decide +kernel
theorem dX7_init_5 : decode cX7_init 5 = .ok (.new 9, 3) := by decide +kernel
theorem dX7_init_8 : decode cX7_init 8 = .ok (.dup, 1) := by decide +kernel
theorem dX7_init_9 : decode cX7_init 9 = .ok (.invokespecial 11, 3) := by decide +kernel
theorem dX7_init_12 : decode cX7_init 12 = .ok (.putfield 12, 3) := by decide +kernel
theorem dX7_init_15 : decode cX7_init 15 = .ok (.aload_n 0, 1) := by decide +kernel
theorem dX7_init_16 : decode cX7_init 16 = .ok (.bipush 8, 2) := by decide +kernel
theorem dX7_init_18 : decode cX7_init 18 = .ok (.newarray .int, 2) := by decide +kernel
theorem dX7_init_20 : decode cX7_init 20 = .ok (.putfield 18, 3) := by decide +kernel
theorem dX7_init_23 : decode cX7_init 23 = .ok (.aload_n 0, 1) := by decide +kernel
theorem dX7_init_24 : decode cX7_init 24 = .ok (.bipush 8, 2) := by decide +kernel
theorem dX7_init_26 : decode cX7_init 26 = .ok (.newarray .int, 2) := by decide +kernel
theorem dX7_init_28 : decode cX7_init 28 = .ok (.putfield 22, 3) := by decide +kernel
theorem dX7_init_31 : decode cX7_init 31 = .ok (.aload_n 0, 1) := by decide +kernel
theorem dX7_init_32 : decode cX7_init 32 = .ok (.iconst 0, 1) := by decide +kernel
theorem dX7_init_33 : decode cX7_init 33 = .ok (.putfield 25, 3) := by decide +kernel
theorem dX7_init_36 : decode cX7_init 36 = .ok (.aload_n 0, 1) := by decide +kernel
theorem dX7_init_37 : decode cX7_init 37 = .ok (.iconst 0, 1) := by decide +kernel
theorem dX7_init_38 : decode cX7_init 38 = .ok (.putfield 29, 3) := by decide +kernel
theorem dX7_init_41 : decode cX7_init 41 = .ok (.return_, 1) := by decide +kernel
theorem dX7_seekRooms_0 : decode cX7_seekRooms 0 = .ok (.aload_n 0, 1) := by decide +kernel
theorem dX7_seekRooms_1 : decode cX7_seekRooms 1 = .ok (.aload_n 2, 1) := by decide +kernel
theorem dX7_seekRooms_2 : decode cX7_seekRooms 2 = .ok (.aload_n 3, 1) := by decide +kernel
theorem dX7_seekRooms_3 : decode cX7_seekRooms 3 = .ok (.invokevirtual 32, 3) := by decide +kernel
theorem dX7_seekRooms_6 : decode cX7_seekRooms 6 = .ok (.iconst 0, 1) := by decide +kernel
theorem dX7_seekRooms_7 : decode cX7_seekRooms 7 = .ok (.invokevirtual 38, 3) := by decide +kernel
theorem dX7_seekRooms_10 : decode cX7_seekRooms 10 = .ok (.iconst 1, 1) := by decide +kernel
theorem dX7_seekRooms_11 : decode cX7_seekRooms 11 = .ok (.iadd, 1) := by decide +kernel
theorem dX7_seekRooms_12 : decode cX7_seekRooms 12 = .ok (.putfield 29, 3) := by decide +kernel
theorem dX7_seekRooms_15 : decode cX7_seekRooms 15 = .ok (.aload_n 0, 1) := by decide +kernel
theorem dX7_seekRooms_16 : decode cX7_seekRooms 16 = .ok (.getfield 12, 3) := by decide +kernel
theorem dX7_seekRooms_19 : decode cX7_seekRooms 19 = .ok (.getfield 44, 3) := by decide +kernel
theorem dX7_seekRooms_22 : decode cX7_seekRooms 22 = .ok (.iconst (-1), 1) := by decide +kernel
theorem dX7_seekRooms_23 : decode cX7_seekRooms 23 = .ok (.invokestatic 47, 3) := by decide +kernel
theorem dX7_seekRooms_26 : decode cX7_seekRooms 26 = .ok (.aload_n 0, 1) := by decide +kernel
theorem dX7_seekRooms_27 : decode cX7_seekRooms 27 = .ok (.getfield 22, 3) := by decide +kernel
theorem dX7_seekRooms_30 : decode cX7_seekRooms 30 = .ok (.iconst (-1), 1) := by decide +kernel
theorem dX7_seekRooms_31 : decode cX7_seekRooms 31 = .ok (.invokestatic 47, 3) := by decide +kernel
theorem dX7_seekRooms_34 : decode cX7_seekRooms 34 = .ok (.aload_n 0, 1) := by decide +kernel
theorem dX7_seekRooms_35 : decode cX7_seekRooms 35 = .ok (.getfield 18, 3) := by decide +kernel
theorem dX7_seekRooms_38 : decode cX7_seekRooms 38 = .ok (.iconst 0, 1) := by decide +kernel
theorem dX7_seekRooms_39 : decode cX7_seekRooms 39 = .ok (.iconst 0, 1) := by decide +kernel
theorem dX7_seekRooms_40 : decode cX7_seekRooms 40 = .ok (.iastore, 1) := by decide +kernel
theorem dX7_seekRooms_41 : decode cX7_seekRooms 41 = .ok (.iconst 0, 1) := by decide +kernel
theorem dX7_seekRooms_42 : decode cX7_seekRooms 42 = .ok (.istore 4, 2) := by decide +kernel
theorem dX7_seekRooms_44 : decode cX7_seekRooms 44 = .ok (.iconst 0, 1) := by decide +kernel
theorem dX7_seekRooms_45 : decode cX7_seekRooms 45 = .ok (.istore 5, 2) := by decide +kernel
theorem dX7_seekRooms_47 : decode cX7_seekRooms 47 = .ok (.iload 5, 2) := by decide +kernel
theorem dX7_seekRooms_49 : decode cX7_seekRooms 49 = .ok (.ldc 53, 2) := by decide +kernel
theorem dX7_seekRooms_51 : decode cX7_seekRooms 51 = .ok (.if_icmp .ge 93, 3) := by decide +kernel
theorem dX7_seekRooms_54 : decode cX7_seekRooms 54 = .ok (.iload 4, 2) := by decide +kernel
theorem dX7_seekRooms_56 : decode cX7_seekRooms 56 = .ok (.ifCond .lt 88, 3) := by decide +kernel
theorem dX7_seekRooms_59 : decode cX7_seekRooms 59 = .ok (.aload_n 0, 1) := by decide +kernel
theorem dX7_seekRooms_60 : decode cX7_seekRooms 60 = .ok (.getfield 12, 3) := by decide +kernel
theorem dX7_seekRooms_63 : decode cX7_seekRooms 63 = .ok (.getfield 44, 3) := by decide +kernel
theorem dX7_seekRooms_66 : decode cX7_seekRooms 66 = .ok (.iload 4, 2) := by decide +kernel
theorem dX7_seekRooms_68 : decode cX7_seekRooms 68 = .ok (.dup2, 1) := by decide +kernel
theorem dX7_seekRooms_69 : decode cX7_seekRooms 69 = .ok (.iaload, 1) := by decide +kernel
theorem dX7_seekRooms_70 : decode cX7_seekRooms 70 = .ok (.iconst 1, 1) := by decide +kernel
theorem dX7_seekRooms_71 : decode cX7_seekRooms 71 = .ok (.iadd, 1) := by decide +kernel
theorem dX7_seekRooms_72 : decode cX7_seekRooms 72 = .ok (.iastore, 1) := by decide +kernel
theorem dX7_seekRooms_73 : decode cX7_seekRooms 73 = .ok (.aload_n 0, 1) := by decide +kernel
theorem dX7_seekRooms_74 : decode cX7_seekRooms 74 = .ok (.getfield 12, 3) := by decide +kernel
theorem dX7_seekRooms_77 : decode cX7_seekRooms 77 = .ok (.getfield 44, 3) := by decide +kernel
theorem dX7_seekRooms_80 : decode cX7_seekRooms 80 = .ok (.iload 4, 2) := by decide +kernel
theorem dX7_seekRooms_82 : decode cX7_seekRooms 82 = .ok (.iaload, 1) := by decide +kernel
theorem dX7_seekRooms_83 : decode cX7_seekRooms 83 = .ok (.aload_n 0, 1) := by decide +kernel
theorem dX7_seekRooms_84 : decode cX7_seekRooms 84 = .ok (.getfield 18, 3) := by decide +kernel
theorem dX7_seekRooms_87 : decode cX7_seekRooms 87 = .ok (.iload 4, 2) := by decide +kernel
theorem dX7_seekRooms_89 : decode cX7_seekRooms 89 = .ok (.iaload, 1) := by decide +kernel
theorem dX7_seekRooms_90 : decode cX7_seekRooms 90 = .ok (.if_icmp .le 20, 3) := by decide +kernel
theorem dX7_seekRooms_93 : decode cX7_seekRooms 93 = .ok (.aload_n 0, 1) := by decide +kernel
theorem dX7_seekRooms_94 : decode cX7_seekRooms 94 = .ok (.getfield 12, 3) := by decide +kernel
theorem dX7_seekRooms_97 : decode cX7_seekRooms 97 = .ok (.getfield 44, 3) := by decide +kernel
theorem dX7_seekRooms_100 : decode cX7_seekRooms 100 = .ok (.iload 4, 2) := by decide +kernel
theorem dX7_seekRooms_102 : decode cX7_seekRooms 102 = .ok (.iconst (-1), 1) := by decide +kernel
theorem dX7_seekRooms_103 : decode cX7_seekRooms 103 = .ok (.iastore, 1) := by decide +kernel
theorem dX7_seekRooms_104 : decode cX7_seekRooms 104 = .ok (.iinc 4 (-1), 3) := by decide +kernel
theorem dX7_seekRooms_107 : decode cX7_seekRooms 107 = .ok (.goto 31, 3) := by decide +kernel
theorem dX7_seekRooms_110 : decode cX7_seekRooms 110 = .ok (.aload_n 0, 1) := by decide +kernel
theorem dX7_seekRooms_111 : decode cX7_seekRooms 111 = .ok (.iload 4, 2) := by decide +kernel
theorem dX7_seekRooms_113 : decode cX7_seekRooms 113 = .ok (.iload 4, 2) := by decide +kernel
theorem dX7_seekRooms_115 : decode cX7_seekRooms 115 = .ok (.iconst 1, 1) := by decide +kernel
theorem dX7_seekRooms_116 : decode cX7_seekRooms 116 = .ok (.iadd, 1) := by decide +kernel
theorem dX7_seekRooms_117 : decode cX7_seekRooms 117 = .ok (.aload_n 1, 1) := by decide +kernel
theorem dX7_seekRooms_118 : decode cX7_seekRooms 118 = .ok (.aload_n 2, 1) := by decide +kernel
theorem dX7_seekRooms_119 : decode cX7_seekRooms 119 = .ok (.aload_n 3, 1) := by decide +kernel
theorem dX7_seekRooms_120 : decode cX7_seekRooms 120 = .ok (.invokevirtual 54, 3) := by decide +kernel
theorem dX7_seekRooms_123 : decode cX7_seekRooms 123 = .ok (.ifCond .eq 15, 3) := by decide +kernel
theorem dX7_seekRooms_126 : decode cX7_seekRooms 126 = .ok (.aload_n 0, 1) := by decide +kernel
theorem dX7_seekRooms_127 : decode cX7_seekRooms 127 = .ok (.iload 4, 2) := by decide +kernel
theorem dX7_seekRooms_129 : decode cX7_seekRooms 129 = .ok (.aload_n 1, 1) := by decide +kernel
theorem dX7_seekRooms_130 : decode cX7_seekRooms 130 = .ok (.getfield 58, 3) := by decide +kernel
theorem dX7_seekRooms_133 : decode cX7_seekRooms 133 = .ok (.invokevirtual 63, 3) := by decide +kernel
theorem dX7_seekRooms_136 : decode cX7_seekRooms 136 = .ok (.istore 4, 2) := by decide +kernel
theorem dX7_seekRooms_138 : decode cX7_seekRooms 138 = .ok (.iinc 5 1, 3) := by decide +kernel
theorem dX7_seekRooms_141 : decode cX7_seekRooms 141 = .ok (.goto (-94), 3) := by decide +kernel
theorem dX7_seekRooms_144 : decode cX7_seekRooms 144 = .ok (.return_, 1) := by decide +kernel
theorem dX7_goOn_0 : decode cX7_goOn 0 = .ok (.iload_n 1, 1) := by decide +kernel
theorem dX7_goOn_1 : decode cX7_goOn 1 = .ok (.iconst 1, 1) := by decide +kernel
theorem dX7_goOn_2 : decode cX7_goOn 2 = .ok (.iadd, 1) := by decide +kernel
theorem dX7_goOn_3 : decode cX7_goOn 3 = .ok (.iload_n 2, 1) := by decide +kernel
theorem dX7_goOn_4 : decode cX7_goOn 4 = .ok (.if_icmp .lt 9, 3) := by decide +kernel
theorem dX7_goOn_7 : decode cX7_goOn 7 = .ok (.aload_n 0, 1) := by decide +kernel
theorem dX7_goOn_8 : decode cX7_goOn 8 = .ok (.invokevirtual 66, 3) := by decide +kernel
theorem dX7_goOn_11 : decode cX7_goOn 11 = .ok (.iload_n 1, 1) := by decide +kernel
theorem dX7_goOn_12 : decode cX7_goOn 12 = .ok (.ireturn, 1) := by decide +kernel
theorem dX7_goOn_13 : decode cX7_goOn 13 = .ok (.aload_n 0, 1) := by decide +kernel
theorem dX7_goOn_14 : decode cX7_goOn 14 = .ok (.getfield 18, 3) := by decide +kernel
theorem dX7_goOn_17 : decode cX7_goOn 17 = .ok (.iload_n 1, 1) := by decide +kernel
theorem dX7_goOn_18 : decode cX7_goOn 18 = .ok (.iconst 1, 1) := by decide +kernel
theorem dX7_goOn_19 : decode cX7_goOn 19 = .ok (.iadd, 1) := by decide +kernel
theorem dX7_goOn_20 : decode cX7_goOn 20 = .ok (.aload_n 0, 1) := by decide +kernel
theorem dX7_goOn_21 : decode cX7_goOn 21 = .ok (.getfield 18, 3) := by decide +kernel
theorem dX7_goOn_24 : decode cX7_goOn 24 = .ok (.iload_n 1, 1) := by decide +kernel
theorem dX7_goOn_25 : decode cX7_goOn 25 = .ok (.iaload, 1) := by decide +kernel
theorem dX7_goOn_26 : decode cX7_goOn 26 = .ok (.aload_n 0, 1) := by decide +kernel
theorem dX7_goOn_27 : decode cX7_goOn 27 = .ok (.getfield 12, 3) := by decide +kernel
theorem dX7_goOn_30 : decode cX7_goOn 30 = .ok (.getfield 44, 3) := by decide +kernel
theorem dX7_goOn_33 : decode cX7_goOn 33 = .ok (.iload_n 1, 1) := by decide +kernel
theorem dX7_goOn_34 : decode cX7_goOn 34 = .ok (.iaload, 1) := by decide +kernel
theorem dX7_goOn_35 : decode cX7_goOn 35 = .ok (.iconst 1, 1) := by decide +kernel
theorem dX7_goOn_36 : decode cX7_goOn 36 = .ok (.iadd, 1) := by decide +kernel
theorem dX7_goOn_37 : decode cX7_goOn 37 = .ok (.invokestatic 69, 3) := by decide +kernel
theorem dX7_goOn_40 : decode cX7_goOn 40 = .ok (.iastore, 1) := by decide +kernel
theorem dX7_goOn_41 : decode cX7_goOn 41 = .ok (.iload_n 1, 1) := by decide +kernel
theorem dX7_goOn_42 : decode cX7_goOn 42 = .ok (.iconst 1, 1) := by decide +kernel
theorem dX7_goOn_43 : decode cX7_goOn 43 = .ok (.iadd, 1) := by decide +kernel
theorem dX7_goOn_44 : decode cX7_goOn 44 = .ok (.ireturn, 1) := by decide +kernel
theorem dX7_seekRoomFor_0 : decode cX7_seekRoomFor 0 = .ok (.aload_n 0, 1) := by decide +kernel
theorem dX7_seekRoomFor_1 : decode cX7_seekRoomFor 1 = .ok (.ldc 76, 2) := by decide +kernel
theorem dX7_seekRoomFor_3 : decode cX7_seekRoomFor 3 = .ok (.putfield 29, 3) := by decide +kernel
theorem dX7_seekRoomFor_6 : decode cX7_seekRoomFor 6 = .ok (.aload_n 0, 1) := by decide +kernel
theorem dX7_seekRoomFor_7 : decode cX7_seekRoomFor 7 = .ok (.getfield 12, 3) := by decide +kernel
theorem dX7_seekRoomFor_10 : decode cX7_seekRoomFor 10 = .ok (.aload_n 2, 1) := by decide +kernel
theorem dX7_seekRoomFor_11 : decode cX7_seekRoomFor 11 = .ok (.getfield 77, 3) := by decide +kernel
theorem dX7_seekRoomFor_14 : decode cX7_seekRoomFor 14 = .ok (.getfield 44, 3) := by decide +kernel
theorem dX7_seekRoomFor_17 : decode cX7_seekRoomFor 17 = .ok (.invokevirtual 82, 3) := by decide +kernel
theorem dX7_seekRoomFor_20 : decode cX7_seekRoomFor 20 = .ok (.aload_n 0, 1) := by decide +kernel
theorem dX7_seekRoomFor_21 : decode cX7_seekRoomFor 21 = .ok (.getfield 12, 3) := by decide +kernel
theorem dX7_seekRoomFor_24 : decode cX7_seekRoomFor 24 = .ok (.invokevirtual 86, 3) := by decide +kernel
theorem dX7_seekRoomFor_27 : decode cX7_seekRoomFor 27 = .ok (.istore 6, 2) := by decide +kernel
theorem dX7_seekRoomFor_29 : decode cX7_seekRoomFor 29 = .ok (.iconst (-1), 1) := by decide +kernel
theorem dX7_seekRoomFor_30 : decode cX7_seekRoomFor 30 = .ok (.istore 7, 2) := by decide +kernel
theorem dX7_seekRoomFor_32 : decode cX7_seekRoomFor 32 = .ok (.iconst 0, 1) := by decide +kernel
theorem dX7_seekRoomFor_33 : decode cX7_seekRoomFor 33 = .ok (.istore 8, 2) := by decide +kernel
theorem dX7_seekRoomFor_35 : decode cX7_seekRoomFor 35 = .ok (.iload 8, 2) := by decide +kernel
theorem dX7_seekRoomFor_37 : decode cX7_seekRoomFor 37 = .ok (.iload 6, 2) := by decide +kernel
theorem dX7_seekRoomFor_39 : decode cX7_seekRoomFor 39 = .ok (.if_icmp .gt 52, 3) := by decide +kernel
theorem dX7_seekRoomFor_42 : decode cX7_seekRoomFor 42 = .ok (.iload 8, 2) := by decide +kernel
theorem dX7_seekRoomFor_44 : decode cX7_seekRoomFor 44 = .ok (.bipush 8, 2) := by decide +kernel
theorem dX7_seekRoomFor_46 : decode cX7_seekRoomFor 46 = .ok (.if_icmp .ge 45, 3) := by decide +kernel
theorem dX7_seekRoomFor_49 : decode cX7_seekRoomFor 49 = .ok (.aload_n 0, 1) := by decide +kernel
theorem dX7_seekRoomFor_50 : decode cX7_seekRoomFor 50 = .ok (.getfield 12, 3) := by decide +kernel
theorem dX7_seekRoomFor_53 : decode cX7_seekRoomFor 53 = .ok (.getfield 44, 3) := by decide +kernel
theorem dX7_seekRoomFor_56 : decode cX7_seekRoomFor 56 = .ok (.iload_n 1, 1) := by decide +kernel
theorem dX7_seekRoomFor_57 : decode cX7_seekRoomFor 57 = .ok (.iload 8, 2) := by decide +kernel
theorem dX7_seekRoomFor_59 : decode cX7_seekRoomFor 59 = .ok (.iastore, 1) := by decide +kernel
theorem dX7_seekRoomFor_60 : decode cX7_seekRoomFor 60 = .ok (.aload_n 0, 1) := by decide +kernel
theorem dX7_seekRoomFor_61 : decode cX7_seekRoomFor 61 = .ok (.iload_n 1, 1) := by decide +kernel
theorem dX7_seekRoomFor_62 : decode cX7_seekRoomFor 62 = .ok (.aload_n 3, 1) := by decide +kernel
theorem dX7_seekRoomFor_63 : decode cX7_seekRoomFor 63 = .ok (.getfield 58, 3) := by decide +kernel
theorem dX7_seekRoomFor_66 : decode cX7_seekRoomFor 66 = .ok (.aload_n 3, 1) := by decide +kernel
theorem dX7_seekRoomFor_67 : decode cX7_seekRoomFor 67 = .ok (.aload 4, 2) := by decide +kernel
theorem dX7_seekRoomFor_69 : decode cX7_seekRoomFor 69 = .ok (.aload 5, 2) := by decide +kernel
theorem dX7_seekRoomFor_71 : decode cX7_seekRoomFor 71 = .ok (.invokevirtual 54, 3) := by decide +kernel
theorem dX7_seekRoomFor_74 : decode cX7_seekRoomFor 74 = .ok (.ifCond .eq 11, 3) := by decide +kernel
theorem dX7_seekRoomFor_77 : decode cX7_seekRoomFor 77 = .ok (.aload_n 0, 1) := by decide +kernel
theorem dX7_seekRoomFor_78 : decode cX7_seekRoomFor 78 = .ok (.invokevirtual 66, 3) := by decide +kernel
theorem dX7_seekRoomFor_81 : decode cX7_seekRoomFor 81 = .ok (.iload 8, 2) := by decide +kernel
theorem dX7_seekRoomFor_83 : decode cX7_seekRoomFor 83 = .ok (.istore 7, 2) := by decide +kernel
theorem dX7_seekRoomFor_85 : decode cX7_seekRoomFor 85 = .ok (.iinc 8 1, 3) := by decide +kernel
theorem dX7_seekRoomFor_88 : decode cX7_seekRoomFor 88 = .ok (.goto (-53), 3) := by decide +kernel
theorem dX7_seekRoomFor_91 : decode cX7_seekRoomFor 91 = .ok (.iload 7, 2) := by decide +kernel
theorem dX7_seekRoomFor_93 : decode cX7_seekRoomFor 93 = .ok (.ireturn, 1) := by decide +kernel
theorem dX7_isCheaper_0 : decode cX7_isCheaper 0 = .ok (.aload 4, 2) := by decide +kernel
theorem dX7_isCheaper_2 : decode cX7_isCheaper 2 = .ok (.getfield 89, 3) := by decide +kernel
theorem dX7_isCheaper_5 : decode cX7_isCheaper 5 = .ok (.ifCond .eq 20, 3) := by decide +kernel
theorem dX7_isCheaper_8 : decode cX7_isCheaper 8 = .ok (.aload_n 0, 1) := by decide +kernel
theorem dX7_isCheaper_9 : decode cX7_isCheaper 9 = .ok (.getfield 12, 3) := by decide +kernel
theorem dX7_isCheaper_12 : decode cX7_isCheaper 12 = .ok (.iload_n 1, 1) := by decide +kernel
theorem dX7_isCheaper_13 : decode cX7_isCheaper 13 = .ok (.aload_n 3, 1) := by decide +kernel
theorem dX7_isCheaper_14 : decode cX7_isCheaper 14 = .ok (.getfield 93, 3) := by decide +kernel
theorem dX7_isCheaper_17 : decode cX7_isCheaper 17 = .ok (.invokevirtual 96, 3) := by decide +kernel
theorem dX7_isCheaper_20 : decode cX7_isCheaper 20 = .ok (.ifCond .eq 5, 3) := by decide +kernel
theorem dX7_isCheaper_23 : decode cX7_isCheaper 23 = .ok (.iconst 0, 1) := by decide +kernel
theorem dX7_isCheaper_24 : decode cX7_isCheaper 24 = .ok (.ireturn, 1) := by decide +kernel
theorem dX7_isCheaper_25 : decode cX7_isCheaper 25 = .ok (.aload_n 0, 1) := by decide +kernel
theorem dX7_isCheaper_26 : decode cX7_isCheaper 26 = .ok (.getfield 12, 3) := by decide +kernel
theorem dX7_isCheaper_29 : decode cX7_isCheaper 29 = .ok (.aload 5, 2) := by decide +kernel
theorem dX7_isCheaper_31 : decode cX7_isCheaper 31 = .ok (.getfield 100, 3) := by decide +kernel
theorem dX7_isCheaper_34 : decode cX7_isCheaper 34 = .ok (.aload_n 3, 1) := by decide +kernel
theorem dX7_isCheaper_35 : decode cX7_isCheaper 35 = .ok (.getfield 103, 3) := by decide +kernel
theorem dX7_isCheaper_38 : decode cX7_isCheaper 38 = .ok (.iload_n 2, 1) := by decide +kernel
theorem dX7_isCheaper_39 : decode cX7_isCheaper 39 = .ok (.invokevirtual 106, 3) := by decide +kernel
theorem dX7_isCheaper_42 : decode cX7_isCheaper 42 = .ok (.aload_n 0, 1) := by decide +kernel
theorem dX7_isCheaper_43 : decode cX7_isCheaper 43 = .ok (.aload 4, 2) := by decide +kernel
theorem dX7_isCheaper_45 : decode cX7_isCheaper 45 = .ok (.aload_n 0, 1) := by decide +kernel
theorem dX7_isCheaper_46 : decode cX7_isCheaper 46 = .ok (.getfield 12, 3) := by decide +kernel
theorem dX7_isCheaper_49 : decode cX7_isCheaper 49 = .ok (.getfield 110, 3) := by decide +kernel
theorem dX7_isCheaper_52 : decode cX7_isCheaper 52 = .ok (.aload_n 0, 1) := by decide +kernel
theorem dX7_isCheaper_53 : decode cX7_isCheaper 53 = .ok (.getfield 12, 3) := by decide +kernel
theorem dX7_isCheaper_56 : decode cX7_isCheaper 56 = .ok (.getfield 113, 3) := by decide +kernel
theorem dX7_isCheaper_59 : decode cX7_isCheaper 59 = .ok (.invokevirtual 38, 3) := by decide +kernel
theorem dX7_isCheaper_62 : decode cX7_isCheaper 62 = .ok (.putfield 25, 3) := by decide +kernel
theorem dX7_isCheaper_65 : decode cX7_isCheaper 65 = .ok (.aload_n 0, 1) := by decide +kernel
theorem dX7_isCheaper_66 : decode cX7_isCheaper 66 = .ok (.getfield 12, 3) := by decide +kernel
theorem dX7_isCheaper_69 : decode cX7_isCheaper 69 = .ok (.getfield 116, 3) := by decide +kernel
theorem dX7_isCheaper_72 : decode cX7_isCheaper 72 = .ok (.ifCond .ne 18, 3) := by decide +kernel
theorem dX7_isCheaper_75 : decode cX7_isCheaper 75 = .ok (.aload_n 0, 1) := by decide +kernel
theorem dX7_isCheaper_76 : decode cX7_isCheaper 76 = .ok (.getfield 25, 3) := by decide +kernel
theorem dX7_isCheaper_79 : decode cX7_isCheaper 79 = .ok (.aload_n 0, 1) := by decide +kernel
theorem dX7_isCheaper_80 : decode cX7_isCheaper 80 = .ok (.getfield 29, 3) := by decide +kernel
theorem dX7_isCheaper_83 : decode cX7_isCheaper 83 = .ok (.if_icmp .ge 7, 3) := by decide +kernel
theorem dX7_isCheaper_86 : decode cX7_isCheaper 86 = .ok (.iconst 1, 1) := by decide +kernel
theorem dX7_isCheaper_87 : decode cX7_isCheaper 87 = .ok (.goto 4, 3) := by decide +kernel
theorem dX7_isCheaper_90 : decode cX7_isCheaper 90 = .ok (.iconst 0, 1) := by decide +kernel
theorem dX7_isCheaper_91 : decode cX7_isCheaper 91 = .ok (.ireturn, 1) := by decide +kernel
theorem dX7_keepTrial_0 : decode cX7_keepTrial 0 = .ok (.aload_n 0, 1) := by decide +kernel
theorem dX7_keepTrial_1 : decode cX7_keepTrial 1 = .ok (.getfield 12, 3) := by decide +kernel
theorem dX7_keepTrial_4 : decode cX7_keepTrial 4 = .ok (.getfield 44, 3) := by decide +kernel
theorem dX7_keepTrial_7 : decode cX7_keepTrial 7 = .ok (.iconst 0, 1) := by decide +kernel
theorem dX7_keepTrial_8 : decode cX7_keepTrial 8 = .ok (.aload_n 0, 1) := by decide +kernel
theorem dX7_keepTrial_9 : decode cX7_keepTrial 9 = .ok (.getfield 22, 3) := by decide +kernel
theorem dX7_keepTrial_12 : decode cX7_keepTrial 12 = .ok (.iconst 0, 1) := by decide +kernel
theorem dX7_keepTrial_13 : decode cX7_keepTrial 13 = .ok (.bipush 8, 2) := by decide +kernel
theorem dX7_keepTrial_15 : decode cX7_keepTrial 15 = .ok (.invokestatic 119, 3) := by decide +kernel
theorem dX7_keepTrial_18 : decode cX7_keepTrial 18 = .ok (.aload_n 0, 1) := by decide +kernel
theorem dX7_keepTrial_19 : decode cX7_keepTrial 19 = .ok (.aload_n 0, 1) := by decide +kernel
theorem dX7_keepTrial_20 : decode cX7_keepTrial 20 = .ok (.getfield 25, 3) := by decide +kernel
theorem dX7_keepTrial_23 : decode cX7_keepTrial 23 = .ok (.putfield 29, 3) := by decide +kernel
theorem dX7_keepTrial_26 : decode cX7_keepTrial 26 = .ok (.return_, 1) := by decide +kernel
theorem dX8_init_0 : decode cX8_init 0 = .ok (.aload_n 0, 1) := by decide +kernel
theorem dX8_init_1 : decode cX8_init 1 = .ok (.invokespecial 3, 3) := by decide +kernel
theorem dX8_init_4 : decode cX8_init 4 = .ok (.aload_n 0, 1) := by decide +kernel
theorem dX8_init_5 : decode cX8_init 5 = .ok (.new 9, 3) := by decide +kernel
theorem dX8_init_8 : decode cX8_init 8 = .ok (.dup, 1) := by decide +kernel
theorem dX8_init_9 : decode cX8_init 9 = .ok (.invokespecial 11, 3) := by decide +kernel
theorem dX8_init_12 : decode cX8_init 12 = .ok (.putfield 12, 3) := by decide +kernel
theorem dX8_init_15 : decode cX8_init 15 = .ok (.aload_n 0, 1) := by decide +kernel
theorem dX8_init_16 : decode cX8_init 16 = .ok (.bipush 8, 2) := by decide +kernel
theorem dX8_init_18 : decode cX8_init 18 = .ok (.newarray .int, 2) := by decide +kernel
theorem dX8_init_20 : decode cX8_init 20 = .ok (.putfield 18, 3) := by decide +kernel
theorem dX8_init_23 : decode cX8_init 23 = .ok (.aload_n 0, 1) := by decide +kernel
theorem dX8_init_24 : decode cX8_init 24 = .ok (.bipush 12, 2) := by decide +kernel
theorem dX8_init_26 : decode cX8_init 26 = .ok (.newarray .int, 2) := by decide +kernel
theorem dX8_init_28 : decode cX8_init 28 = .ok (.putfield 22, 3) := by decide +kernel
theorem dX8_init_31 : decode cX8_init 31 = .ok (.aload_n 0, 1) := by decide +kernel
theorem dX8_init_32 : decode cX8_init 32 = .ok (.bipush 12, 2) := by decide +kernel
theorem dX8_init_34 : decode cX8_init 34 = .ok (.newarray .int, 2) := by decide +kernel
theorem dX8_init_36 : decode cX8_init 36 = .ok (.putfield 25, 3) := by decide +kernel
theorem dX8_init_39 : decode cX8_init 39 = .ok (.aload_n 0, 1) := by decide +kernel
theorem dX8_init_40 : decode cX8_init 40 = .ok (.bipush 12, 2) := by decide +kernel
theorem dX8_init_42 : decode cX8_init 42 = .ok (.newarray .int, 2) := by decide +kernel
theorem dX8_init_44 : decode cX8_init 44 = .ok (.putfield 28, 3) := by decide +kernel
theorem dX8_init_47 : decode cX8_init 47 = .ok (.aload_n 0, 1) := by decide +kernel
theorem dX8_init_48 : decode cX8_init 48 = .ok (.iconst 0, 1) := by decide +kernel
theorem dX8_init_49 : decode cX8_init 49 = .ok (.putfield 31, 3) := by decide +kernel
theorem dX8_init_52 : decode cX8_init 52 = .ok (.aload_n 0, 1) := by decide +kernel
theorem dX8_init_53 : decode cX8_init 53 = .ok (.bipush 12, 2) := by decide +kernel
theorem dX8_init_55 : decode cX8_init 55 = .ok (.newarray .int, 2) := by decide +kernel
theorem dX8_init_57 : decode cX8_init 57 = .ok (.putfield 35, 3) := by decide +kernel
theorem dX8_init_60 : decode cX8_init 60 = .ok (.aload_n 0, 1) := by decide +kernel
theorem dX8_init_61 : decode cX8_init 61 = .ok (.iconst 0, 1) := by decide +kernel
theorem dX8_init_62 : decode cX8_init 62 = .ok (.putfield 38, 3) := by decide +kernel
theorem dX8_init_65 : decode cX8_init 65 = .ok (.return_, 1) := by decide +kernel
theorem dX8_seekSet_0 : decode cX8_seekSet 0 = .ok (.aload_n 0, 1) := by decide +kernel
theorem dX8_seekSet_1 : decode cX8_seekSet 1 = .ok (.aload_n 1, 1) := by decide +kernel
theorem dX8_seekSet_2 : decode cX8_seekSet 2 = .ok (.aload_n 2, 1) := by decide +kernel
theorem dX8_seekSet_3 : decode cX8_seekSet 3 = .ok (.invokevirtual 41, 3) := by decide +kernel
theorem dX8_seekSet_6 : decode cX8_seekSet 6 = .ok (.ifCond .ne 6, 3) := by decide +kernel
theorem dX8_seekSet_9 : decode cX8_seekSet 9 = .ok (.bipush (-2), 2) := by decide +kernel
theorem dX8_seekSet_11 : decode cX8_seekSet 11 = .ok (.ireturn, 1) := by decide +kernel
theorem dX8_seekSet_12 : decode cX8_seekSet 12 = .ok (.iconst 1, 1) := by decide +kernel
theorem dX8_seekSet_13 : decode cX8_seekSet 13 = .ok (.aload_n 0, 1) := by decide +kernel
theorem dX8_seekSet_14 : decode cX8_seekSet 14 = .ok (.getfield 31, 3) := by decide +kernel
theorem dX8_seekSet_17 : decode cX8_seekSet 17 = .ok (.ishl, 1) := by decide +kernel
theorem dX8_seekSet_18 : decode cX8_seekSet 18 = .ok (.istore 4, 2) := by decide +kernel
theorem dX8_seekSet_20 : decode cX8_seekSet 20 = .ok (.aload_n 0, 1) := by decide +kernel
theorem dX8_seekSet_21 : decode cX8_seekSet 21 = .ok (.iload 4, 2) := by decide +kernel
theorem dX8_seekSet_23 : decode cX8_seekSet 23 = .ok (.iconst 1, 1) := by decide +kernel
theorem dX8_seekSet_24 : decode cX8_seekSet 24 = .ok (.isub, 1) := by decide +kernel
theorem dX8_seekSet_25 : decode cX8_seekSet 25 = .ok (.invokevirtual 45, 3) := by decide +kernel
theorem dX8_seekSet_28 : decode cX8_seekSet 28 = .ok (.iload_n 3, 1) := by decide +kernel
theorem dX8_seekSet_29 : decode cX8_seekSet 29 = .ok (.if_icmp .le 5, 3) := by decide +kernel
theorem dX8_seekSet_32 : decode cX8_seekSet 32 = .ok (.iconst (-1), 1) := by decide +kernel
theorem dX8_seekSet_33 : decode cX8_seekSet 33 = .ok (.ireturn, 1) := by decide +kernel
theorem dX8_seekSet_34 : decode cX8_seekSet 34 = .ok (.iload 4, 2) := by decide +kernel
theorem dX8_seekSet_36 : decode cX8_seekSet 36 = .ok (.iconst 1, 1) := by decide +kernel
theorem dX8_seekSet_37 : decode cX8_seekSet 37 = .ok (.isub, 1) := by decide +kernel
theorem dX8_seekSet_38 : decode cX8_seekSet 38 = .ok (.istore 5, 2) := by decide +kernel
theorem dX8_seekSet_40 : decode cX8_seekSet 40 = .ok (.aload_n 0, 1) := by decide +kernel
theorem dX8_seekSet_41 : decode cX8_seekSet 41 = .ok (.iload 5, 2) := by decide +kernel
theorem dX8_seekSet_43 : decode cX8_seekSet 43 = .ok (.invokevirtual 49, 3) := by decide +kernel
theorem dX8_seekSet_46 : decode cX8_seekSet 46 = .ok (.istore 6, 2) := by decide +kernel
theorem dX8_seekSet_48 : decode cX8_seekSet 48 = .ok (.iconst 0, 1) := by decide +kernel
theorem dX8_seekSet_49 : decode cX8_seekSet 49 = .ok (.istore 7, 2) := by decide +kernel
theorem dX8_seekSet_51 : decode cX8_seekSet 51 = .ok (.iload 7, 2) := by decide +kernel
theorem dX8_seekSet_53 : decode cX8_seekSet 53 = .ok (.iload 4, 2) := by decide +kernel
theorem dX8_seekSet_55 : decode cX8_seekSet 55 = .ok (.if_icmp .ge 42, 3) := by decide +kernel
theorem dX8_seekSet_58 : decode cX8_seekSet 58 = .ok (.aload_n 0, 1) := by decide +kernel
theorem dX8_seekSet_59 : decode cX8_seekSet 59 = .ok (.iload 7, 2) := by decide +kernel
theorem dX8_seekSet_61 : decode cX8_seekSet 61 = .ok (.invokevirtual 49, 3) := by decide +kernel
theorem dX8_seekSet_64 : decode cX8_seekSet 64 = .ok (.istore 8, 2) := by decide +kernel
theorem dX8_seekSet_66 : decode cX8_seekSet 66 = .ok (.iload 8, 2) := by decide +kernel
theorem dX8_seekSet_68 : decode cX8_seekSet 68 = .ok (.iload 6, 2) := by decide +kernel
theorem dX8_seekSet_70 : decode cX8_seekSet 70 = .ok (.if_icmp .ge 21, 3) := by decide +kernel
theorem dX8_seekSet_73 : decode cX8_seekSet 73 = .ok (.aload_n 0, 1) := by decide +kernel
theorem dX8_seekSet_74 : decode cX8_seekSet 74 = .ok (.iload 7, 2) := by decide +kernel
theorem dX8_seekSet_76 : decode cX8_seekSet 76 = .ok (.invokevirtual 45, 3) := by decide +kernel
theorem dX8_seekSet_79 : decode cX8_seekSet 79 = .ok (.iload_n 3, 1) := by decide +kernel
theorem dX8_seekSet_80 : decode cX8_seekSet 80 = .ok (.if_icmp .gt 11, 3) := by decide +kernel
theorem dX8_seekSet_83 : decode cX8_seekSet 83 = .ok (.iload 7, 2) := by decide +kernel
theorem dX8_seekSet_85 : decode cX8_seekSet 85 = .ok (.istore 5, 2) := by decide +kernel
theorem dX8_seekSet_87 : decode cX8_seekSet 87 = .ok (.iload 8, 2) := by decide +kernel
theorem dX8_seekSet_89 : decode cX8_seekSet 89 = .ok (.istore 6, 2) := by decide +kernel
theorem dX8_seekSet_91 : decode cX8_seekSet 91 = .ok (.iinc 7 1, 3) := by decide +kernel
theorem dX8_seekSet_94 : decode cX8_seekSet 94 = .ok (.goto (-43), 3) := by decide +kernel
theorem dX8_seekSet_97 : decode cX8_seekSet 97 = .ok (.aload_n 0, 1) := by decide +kernel
theorem dX8_seekSet_98 : decode cX8_seekSet 98 = .ok (.iload 5, 2) := by decide +kernel
theorem dX8_seekSet_100 : decode cX8_seekSet 100 = .ok (.invokevirtual 52, 3) := by decide +kernel
theorem dX8_seekSet_103 : decode cX8_seekSet 103 = .ok (.iload 6, 2) := by decide +kernel
theorem dX8_seekSet_105 : decode cX8_seekSet 105 = .ok (.ireturn, 1) := by decide +kernel
theorem dX8_gatherCans_0 : decode cX8_gatherCans 0 = .ok (.aload_n 0, 1) := by decide +kernel
theorem dX8_gatherCans_1 : decode cX8_gatherCans 1 = .ok (.iconst 0, 1) := by decide +kernel
theorem dX8_gatherCans_2 : decode cX8_gatherCans 2 = .ok (.putfield 31, 3) := by decide +kernel
theorem dX8_gatherCans_5 : decode cX8_gatherCans 5 = .ok (.aload_n 0, 1) := by decide +kernel
theorem dX8_gatherCans_6 : decode cX8_gatherCans 6 = .ok (.getfield 12, 3) := by decide +kernel
theorem dX8_gatherCans_9 : decode cX8_gatherCans 9 = .ok (.aload_n 1, 1) := by decide +kernel
theorem dX8_gatherCans_10 : decode cX8_gatherCans 10 = .ok (.getfield 56, 3) := by decide +kernel
theorem dX8_gatherCans_13 : decode cX8_gatherCans 13 = .ok (.invokevirtual 62, 3) := by decide +kernel
theorem dX8_gatherCans_16 : decode cX8_gatherCans 16 = .ok (.iconst 0, 1) := by decide +kernel
theorem dX8_gatherCans_17 : decode cX8_gatherCans 17 = .ok (.istore_n 3, 1) := by decide +kernel
theorem dX8_gatherCans_18 : decode cX8_gatherCans 18 = .ok (.iload_n 3, 1) := by decide +kernel
theorem dX8_gatherCans_19 : decode cX8_gatherCans 19 = .ok (.aload_n 1, 1) := by decide +kernel
theorem dX8_gatherCans_20 : decode cX8_gatherCans 20 = .ok (.getfield 66, 3) := by decide +kernel
theorem dX8_gatherCans_23 : decode cX8_gatherCans 23 = .ok (.if_icmp .ge 97, 3) := by decide +kernel
theorem dX8_gatherCans_26 : decode cX8_gatherCans 26 = .ok (.aload_n 1, 1) := by decide +kernel
theorem dX8_gatherCans_27 : decode cX8_gatherCans 27 = .ok (.getfield 69, 3) := by decide +kernel
theorem dX8_gatherCans_30 : decode cX8_gatherCans 30 = .ok (.iload_n 3, 1) := by decide +kernel
theorem dX8_gatherCans_31 : decode cX8_gatherCans 31 = .ok (.iaload, 1) := by decide +kernel
theorem dX8_gatherCans_32 : decode cX8_gatherCans 32 = .ok (.istore 4, 2) := by decide +kernel
theorem dX8_gatherCans_34 : decode cX8_gatherCans 34 = .ok (.aload_n 1, 1) := by decide +kernel
theorem dX8_gatherCans_35 : decode cX8_gatherCans 35 = .ok (.iload 4, 2) := by decide +kernel
theorem dX8_gatherCans_37 : decode cX8_gatherCans 37 = .ok (.aload_n 2, 1) := by decide +kernel
theorem dX8_gatherCans_38 : decode cX8_gatherCans 38 = .ok (.invokevirtual 70, 3) := by decide +kernel
theorem dX8_gatherCans_41 : decode cX8_gatherCans 41 = .ok (.ifCond .eq 15, 3) := by decide +kernel
theorem dX8_gatherCans_44 : decode cX8_gatherCans 44 = .ok (.aload_n 0, 1) := by decide +kernel
theorem dX8_gatherCans_45 : decode cX8_gatherCans 45 = .ok (.getfield 12, 3) := by decide +kernel
theorem dX8_gatherCans_48 : decode cX8_gatherCans 48 = .ok (.iload 4, 2) := by decide +kernel
theorem dX8_gatherCans_50 : decode cX8_gatherCans 50 = .ok (.invokevirtual 74, 3) := by decide +kernel
theorem dX8_gatherCans_53 : decode cX8_gatherCans 53 = .ok (.goto 61, 3) := by decide +kernel
theorem dX8_gatherCans_56 : decode cX8_gatherCans 56 = .ok (.aload_n 0, 1) := by decide +kernel
theorem dX8_gatherCans_57 : decode cX8_gatherCans 57 = .ok (.getfield 31, 3) := by decide +kernel
theorem dX8_gatherCans_60 : decode cX8_gatherCans 60 = .ok (.bipush 12, 2) := by decide +kernel
theorem dX8_gatherCans_62 : decode cX8_gatherCans 62 = .ok (.if_icmp .lt 5, 3) := by decide +kernel
theorem dX8_gatherCans_65 : decode cX8_gatherCans 65 = .ok (.iconst 0, 1) := by decide +kernel
theorem dX8_gatherCans_66 : decode cX8_gatherCans 66 = .ok (.ireturn, 1) := by decide +kernel
theorem dX8_gatherCans_67 : decode cX8_gatherCans 67 = .ok (.aload_n 0, 1) := by decide +kernel
theorem dX8_gatherCans_68 : decode cX8_gatherCans 68 = .ok (.getfield 22, 3) := by decide +kernel
theorem dX8_gatherCans_71 : decode cX8_gatherCans 71 = .ok (.aload_n 0, 1) := by decide +kernel
theorem dX8_gatherCans_72 : decode cX8_gatherCans 72 = .ok (.getfield 31, 3) := by decide +kernel
theorem dX8_gatherCans_75 : decode cX8_gatherCans 75 = .ok (.iload_n 3, 1) := by decide +kernel
theorem dX8_gatherCans_76 : decode cX8_gatherCans 76 = .ok (.iastore, 1) := by decide +kernel
theorem dX8_gatherCans_77 : decode cX8_gatherCans 77 = .ok (.aload_n 0, 1) := by decide +kernel
theorem dX8_gatherCans_78 : decode cX8_gatherCans 78 = .ok (.getfield 25, 3) := by decide +kernel
theorem dX8_gatherCans_81 : decode cX8_gatherCans 81 = .ok (.aload_n 0, 1) := by decide +kernel
theorem dX8_gatherCans_82 : decode cX8_gatherCans 82 = .ok (.getfield 31, 3) := by decide +kernel
theorem dX8_gatherCans_85 : decode cX8_gatherCans 85 = .ok (.iload 4, 2) := by decide +kernel
theorem dX8_gatherCans_87 : decode cX8_gatherCans 87 = .ok (.iastore, 1) := by decide +kernel
theorem dX8_gatherCans_88 : decode cX8_gatherCans 88 = .ok (.aload_n 0, 1) := by decide +kernel
theorem dX8_gatherCans_89 : decode cX8_gatherCans 89 = .ok (.getfield 28, 3) := by decide +kernel
theorem dX8_gatherCans_92 : decode cX8_gatherCans 92 = .ok (.aload_n 0, 1) := by decide +kernel
theorem dX8_gatherCans_93 : decode cX8_gatherCans 93 = .ok (.getfield 31, 3) := by decide +kernel
theorem dX8_gatherCans_96 : decode cX8_gatherCans 96 = .ok (.aload_n 1, 1) := by decide +kernel
theorem dX8_gatherCans_97 : decode cX8_gatherCans 97 = .ok (.iload 4, 2) := by decide +kernel
theorem dX8_gatherCans_99 : decode cX8_gatherCans 99 = .ok (.iconst 1, 1) := by decide +kernel
theorem dX8_gatherCans_100 : decode cX8_gatherCans 100 = .ok (.invokevirtual 77, 3) := by decide +kernel
theorem dX8_gatherCans_103 : decode cX8_gatherCans 103 = .ok (.iastore, 1) := by decide +kernel
theorem dX8_gatherCans_104 : decode cX8_gatherCans 104 = .ok (.aload_n 0, 1) := by decide +kernel
theorem dX8_gatherCans_105 : decode cX8_gatherCans 105 = .ok (.dup, 1) := by decide +kernel
theorem dX8_gatherCans_106 : decode cX8_gatherCans 106 = .ok (.getfield 31, 3) := by decide +kernel
theorem dX8_gatherCans_109 : decode cX8_gatherCans 109 = .ok (.iconst 1, 1) := by decide +kernel
theorem dX8_gatherCans_110 : decode cX8_gatherCans 110 = .ok (.iadd, 1) := by decide +kernel
theorem dX8_gatherCans_111 : decode cX8_gatherCans 111 = .ok (.putfield 31, 3) := by decide +kernel
theorem dX8_gatherCans_114 : decode cX8_gatherCans 114 = .ok (.iinc 3 1, 3) := by decide +kernel
theorem dX8_gatherCans_117 : decode cX8_gatherCans 117 = .ok (.goto (-99), 3) := by decide +kernel
theorem dX8_gatherCans_120 : decode cX8_gatherCans 120 = .ok (.aload_n 0, 1) := by decide +kernel
theorem dX8_gatherCans_121 : decode cX8_gatherCans 121 = .ok (.getfield 12, 3) := by decide +kernel
theorem dX8_gatherCans_124 : decode cX8_gatherCans 124 = .ok (.getfield 81, 3) := by decide +kernel
theorem dX8_gatherCans_127 : decode cX8_gatherCans 127 = .ok (.iconst 0, 1) := by decide +kernel
theorem dX8_gatherCans_128 : decode cX8_gatherCans 128 = .ok (.aload_n 0, 1) := by decide +kernel
theorem dX8_gatherCans_129 : decode cX8_gatherCans 129 = .ok (.getfield 18, 3) := by decide +kernel
theorem dX8_gatherCans_132 : decode cX8_gatherCans 132 = .ok (.iconst 0, 1) := by decide +kernel
theorem dX8_gatherCans_133 : decode cX8_gatherCans 133 = .ok (.bipush 8, 2) := by decide +kernel
theorem dX8_gatherCans_135 : decode cX8_gatherCans 135 = .ok (.invokestatic 84, 3) := by decide +kernel
theorem dX8_gatherCans_138 : decode cX8_gatherCans 138 = .ok (.iconst 1, 1) := by decide +kernel
theorem dX8_gatherCans_139 : decode cX8_gatherCans 139 = .ok (.ireturn, 1) := by decide +kernel
theorem dX8_tollOf_0 : decode cX8_tollOf 0 = .ok (.iconst 0, 1) := by decide +kernel
theorem dX8_tollOf_1 : decode cX8_tollOf 1 = .ok (.istore_n 2, 1) := by decide +kernel
theorem dX8_tollOf_2 : decode cX8_tollOf 2 = .ok (.iconst 0, 1) := by decide +kernel
theorem dX8_tollOf_3 : decode cX8_tollOf 3 = .ok (.istore_n 3, 1) := by decide +kernel
theorem dX8_tollOf_4 : decode cX8_tollOf 4 = .ok (.iload_n 3, 1) := by decide +kernel
theorem dX8_tollOf_5 : decode cX8_tollOf 5 = .ok (.aload_n 0, 1) := by decide +kernel
theorem dX8_tollOf_6 : decode cX8_tollOf 6 = .ok (.getfield 31, 3) := by decide +kernel
theorem dX8_tollOf_9 : decode cX8_tollOf 9 = .ok (.if_icmp .ge 27, 3) := by decide +kernel
theorem dX8_tollOf_12 : decode cX8_tollOf 12 = .ok (.iload_n 1, 1) := by decide +kernel
theorem dX8_tollOf_13 : decode cX8_tollOf 13 = .ok (.iload_n 3, 1) := by decide +kernel
theorem dX8_tollOf_14 : decode cX8_tollOf 14 = .ok (.ishr, 1) := by decide +kernel
theorem dX8_tollOf_15 : decode cX8_tollOf 15 = .ok (.iconst 1, 1) := by decide +kernel
theorem dX8_tollOf_16 : decode cX8_tollOf 16 = .ok (.iand, 1) := by decide +kernel
theorem dX8_tollOf_17 : decode cX8_tollOf 17 = .ok (.iconst 1, 1) := by decide +kernel
theorem dX8_tollOf_18 : decode cX8_tollOf 18 = .ok (.if_icmp .ne 12, 3) := by decide +kernel
theorem dX8_tollOf_21 : decode cX8_tollOf 21 = .ok (.iload_n 2, 1) := by decide +kernel
theorem dX8_tollOf_22 : decode cX8_tollOf 22 = .ok (.aload_n 0, 1) := by decide +kernel
theorem dX8_tollOf_23 : decode cX8_tollOf 23 = .ok (.getfield 28, 3) := by decide +kernel
theorem dX8_tollOf_26 : decode cX8_tollOf 26 = .ok (.iload_n 3, 1) := by decide +kernel
theorem dX8_tollOf_27 : decode cX8_tollOf 27 = .ok (.iaload, 1) := by decide +kernel
theorem dX8_tollOf_28 : decode cX8_tollOf 28 = .ok (.iadd, 1) := by decide +kernel
theorem dX8_tollOf_29 : decode cX8_tollOf 29 = .ok (.istore_n 2, 1) := by decide +kernel
theorem dX8_tollOf_30 : decode cX8_tollOf 30 = .ok (.iinc 3 1, 3) := by decide +kernel
theorem dX8_tollOf_33 : decode cX8_tollOf 33 = .ok (.goto (-29), 3) := by decide +kernel
theorem dX8_tollOf_36 : decode cX8_tollOf 36 = .ok (.iload_n 2, 1) := by decide +kernel
theorem dX8_tollOf_37 : decode cX8_tollOf 37 = .ok (.ireturn, 1) := by decide +kernel
theorem dX8_widestWithout_0 : decode cX8_widestWithout 0 = .ok (.aload_n 0, 1) := by decide +kernel
theorem dX8_widestWithout_1 : decode cX8_widestWithout 1 = .ok (.getfield 18, 3) := by decide +kernel
theorem dX8_widestWithout_4 : decode cX8_widestWithout 4 = .ok (.iconst 0, 1) := by decide +kernel
theorem dX8_widestWithout_5 : decode cX8_widestWithout 5 = .ok (.aload_n 0, 1) := by decide +kernel
theorem dX8_widestWithout_6 : decode cX8_widestWithout 6 = .ok (.getfield 12, 3) := by decide +kernel
theorem dX8_widestWithout_9 : decode cX8_widestWithout 9 = .ok (.getfield 81, 3) := by decide +kernel
theorem dX8_widestWithout_12 : decode cX8_widestWithout 12 = .ok (.iconst 0, 1) := by decide +kernel
theorem dX8_widestWithout_13 : decode cX8_widestWithout 13 = .ok (.bipush 8, 2) := by decide +kernel
theorem dX8_widestWithout_15 : decode cX8_widestWithout 15 = .ok (.invokestatic 84, 3) := by decide +kernel
theorem dX8_widestWithout_18 : decode cX8_widestWithout 18 = .ok (.iconst 0, 1) := by decide +kernel
theorem dX8_widestWithout_19 : decode cX8_widestWithout 19 = .ok (.istore_n 2, 1) := by decide +kernel
theorem dX8_widestWithout_20 : decode cX8_widestWithout 20 = .ok (.iload_n 2, 1) := by decide +kernel
theorem dX8_widestWithout_21 : decode cX8_widestWithout 21 = .ok (.aload_n 0, 1) := by decide +kernel
theorem dX8_widestWithout_22 : decode cX8_widestWithout 22 = .ok (.getfield 31, 3) := by decide +kernel
theorem dX8_widestWithout_25 : decode cX8_widestWithout 25 = .ok (.if_icmp .ge 30, 3) := by decide +kernel
theorem dX8_widestWithout_28 : decode cX8_widestWithout 28 = .ok (.iload_n 1, 1) := by decide +kernel
theorem dX8_widestWithout_29 : decode cX8_widestWithout 29 = .ok (.iload_n 2, 1) := by decide +kernel
theorem dX8_widestWithout_30 : decode cX8_widestWithout 30 = .ok (.ishr, 1) := by decide +kernel
theorem dX8_widestWithout_31 : decode cX8_widestWithout 31 = .ok (.iconst 1, 1) := by decide +kernel
theorem dX8_widestWithout_32 : decode cX8_widestWithout 32 = .ok (.iand, 1) := by decide +kernel
theorem dX8_widestWithout_33 : decode cX8_widestWithout 33 = .ok (.ifCond .ne 16, 3) := by decide +kernel
theorem dX8_widestWithout_36 : decode cX8_widestWithout 36 = .ok (.aload_n 0, 1) := by decide +kernel
theorem dX8_widestWithout_37 : decode cX8_widestWithout 37 = .ok (.getfield 12, 3) := by decide +kernel
theorem dX8_widestWithout_40 : decode cX8_widestWithout 40 = .ok (.aload_n 0, 1) := by decide +kernel
theorem dX8_widestWithout_41 : decode cX8_widestWithout 41 = .ok (.getfield 25, 3) := by decide +kernel
theorem dX8_widestWithout_44 : decode cX8_widestWithout 44 = .ok (.iload_n 2, 1) := by decide +kernel
theorem dX8_widestWithout_45 : decode cX8_widestWithout 45 = .ok (.iaload, 1) := by decide +kernel
theorem dX8_widestWithout_46 : decode cX8_widestWithout 46 = .ok (.invokevirtual 74, 3) := by decide +kernel
theorem dX8_widestWithout_49 : decode cX8_widestWithout 49 = .ok (.iinc 2 1, 3) := by decide +kernel
theorem dX8_widestWithout_52 : decode cX8_widestWithout 52 = .ok (.goto (-32), 3) := by decide +kernel
theorem dX8_widestWithout_55 : decode cX8_widestWithout 55 = .ok (.aload_n 0, 1) := by decide +kernel
theorem dX8_widestWithout_56 : decode cX8_widestWithout 56 = .ok (.getfield 12, 3) := by decide +kernel
theorem dX8_widestWithout_59 : decode cX8_widestWithout 59 = .ok (.invokevirtual 90, 3) := by decide +kernel
theorem dX8_widestWithout_62 : decode cX8_widestWithout 62 = .ok (.aload_n 0, 1) := by decide +kernel
theorem dX8_widestWithout_63 : decode cX8_widestWithout 63 = .ok (.getfield 12, 3) := by decide +kernel
theorem dX8_widestWithout_66 : decode cX8_widestWithout 66 = .ok (.invokevirtual 93, 3) := by decide +kernel
theorem dX8_widestWithout_69 : decode cX8_widestWithout 69 = .ok (.ireturn, 1) := by decide +kernel
theorem dX8_choose_0 : decode cX8_choose 0 = .ok (.aload_n 0, 1) := by decide +kernel
theorem dX8_choose_1 : decode cX8_choose 1 = .ok (.iconst 0, 1) := by decide +kernel
theorem dX8_choose_2 : decode cX8_choose 2 = .ok (.putfield 38, 3) := by decide +kernel
theorem dX8_choose_5 : decode cX8_choose 5 = .ok (.iconst 0, 1) := by decide +kernel
theorem dX8_choose_6 : decode cX8_choose 6 = .ok (.istore_n 2, 1) := by decide +kernel
theorem dX8_choose_7 : decode cX8_choose 7 = .ok (.iload_n 2, 1) := by decide +kernel
theorem dX8_choose_8 : decode cX8_choose 8 = .ok (.aload_n 0, 1) := by decide +kernel
theorem dX8_choose_9 : decode cX8_choose 9 = .ok (.getfield 31, 3) := by decide +kernel
theorem dX8_choose_12 : decode cX8_choose 12 = .ok (.if_icmp .ge 43, 3) := by decide +kernel
theorem dX8_choose_15 : decode cX8_choose 15 = .ok (.iload_n 1, 1) := by decide +kernel
theorem dX8_choose_16 : decode cX8_choose 16 = .ok (.iload_n 2, 1) := by decide +kernel
theorem dX8_choose_17 : decode cX8_choose 17 = .ok (.ishr, 1) := by decide +kernel
theorem dX8_choose_18 : decode cX8_choose 18 = .ok (.iconst 1, 1) := by decide +kernel
theorem dX8_choose_19 : decode cX8_choose 19 = .ok (.iand, 1) := by decide +kernel
theorem dX8_choose_20 : decode cX8_choose 20 = .ok (.iconst 1, 1) := by decide +kernel
theorem dX8_choose_21 : decode cX8_choose 21 = .ok (.if_icmp .ne 28, 3) := by decide +kernel
theorem dX8_choose_24 : decode cX8_choose 24 = .ok (.aload_n 0, 1) := by decide +kernel
theorem dX8_choose_25 : decode cX8_choose 25 = .ok (.getfield 35, 3) := by decide +kernel
theorem dX8_choose_28 : decode cX8_choose 28 = .ok (.aload_n 0, 1) := by decide +kernel
theorem dX8_choose_29 : decode cX8_choose 29 = .ok (.getfield 38, 3) := by decide +kernel
theorem dX8_choose_32 : decode cX8_choose 32 = .ok (.aload_n 0, 1) := by decide +kernel
theorem dX8_choose_33 : decode cX8_choose 33 = .ok (.getfield 22, 3) := by decide +kernel
theorem dX8_choose_36 : decode cX8_choose 36 = .ok (.iload_n 2, 1) := by decide +kernel
theorem dX8_choose_37 : decode cX8_choose 37 = .ok (.iaload, 1) := by decide +kernel
theorem dX8_choose_38 : decode cX8_choose 38 = .ok (.iastore, 1) := by decide +kernel
theorem dX8_choose_39 : decode cX8_choose 39 = .ok (.aload_n 0, 1) := by decide +kernel
theorem dX8_choose_40 : decode cX8_choose 40 = .ok (.dup, 1) := by decide +kernel
theorem dX8_choose_41 : decode cX8_choose 41 = .ok (.getfield 38, 3) := by decide +kernel
theorem dX8_choose_44 : decode cX8_choose 44 = .ok (.iconst 1, 1) := by decide +kernel
theorem dX8_choose_45 : decode cX8_choose 45 = .ok (.iadd, 1) := by decide +kernel
theorem dX8_choose_46 : decode cX8_choose 46 = .ok (.putfield 38, 3) := by decide +kernel
theorem dX8_choose_49 : decode cX8_choose 49 = .ok (.iinc 2 1, 3) := by decide +kernel
theorem dX8_choose_52 : decode cX8_choose 52 = .ok (.goto (-45), 3) := by decide +kernel
theorem dX8_choose_55 : decode cX8_choose 55 = .ok (.return_, 1) := by decide +kernel
theorem dX9_init_0 : decode cX9_init 0 = .ok (.aload_n 0, 1) := by decide +kernel
theorem dX9_init_1 : decode cX9_init 1 = .ok (.invokespecial 3, 3) := by decide +kernel
theorem dX9_init_4 : decode cX9_init 4 = .ok (.aload_n 0, 1) := by decide +kernel
theorem dX9_init_5 : decode cX9_init 5 = .ok (.bipush 8, 2) := by decide +kernel
theorem dX9_init_7 : decode cX9_init 7 = .ok (.newarray .int, 2) := by decide +kernel
theorem dX9_init_9 : decode cX9_init 9 = .ok (.putfield 9, 3) := by decide +kernel
theorem dX9_init_12 : decode cX9_init 12 = .ok (.aload_n 0, 1) := by decide +kernel
theorem dX9_init_13 : decode cX9_init 13 = .ok (.bipush 8, 2) := by decide +kernel
theorem dX9_init_15 : decode cX9_init 15 = .ok (.newarray .int, 2) := by decide +kernel
theorem dX9_init_17 : decode cX9_init 17 = .ok (.putfield 15, 3) := by decide +kernel
theorem dX9_init_20 : decode cX9_init 20 = .ok (.aload_n 0, 1) := by decide +kernel
theorem dX9_init_21 : decode cX9_init 21 = .ok (.iconst 0, 1) := by decide +kernel
theorem dX9_init_22 : decode cX9_init 22 = .ok (.putfield 18, 3) := by decide +kernel
theorem dX9_init_25 : decode cX9_init 25 = .ok (.return_, 1) := by decide +kernel
theorem dX9_follow_0 : decode cX9_follow 0 = .ok (.aload_n 0, 1) := by decide +kernel
theorem dX9_follow_1 : decode cX9_follow 1 = .ok (.aload_n 1, 1) := by decide +kernel
theorem dX9_follow_2 : decode cX9_follow 2 = .ok (.getfield 22, 3) := by decide +kernel
theorem dX9_follow_5 : decode cX9_follow 5 = .ok (.invokevirtual 28, 3) := by decide +kernel
theorem dX9_follow_8 : decode cX9_follow 8 = .ok (.iconst 0, 1) := by decide +kernel
theorem dX9_follow_9 : decode cX9_follow 9 = .ok (.istore_n 2, 1) := by decide +kernel
theorem dX9_follow_10 : decode cX9_follow 10 = .ok (.iload_n 2, 1) := by decide +kernel
theorem dX9_follow_11 : decode cX9_follow 11 = .ok (.aload_n 1, 1) := by decide +kernel
theorem dX9_follow_12 : decode cX9_follow 12 = .ok (.getfield 32, 3) := by decide +kernel
theorem dX9_follow_15 : decode cX9_follow 15 = .ok (.if_icmp .ge 19, 3) := by decide +kernel
theorem dX9_follow_18 : decode cX9_follow 18 = .ok (.aload_n 0, 1) := by decide +kernel
theorem dX9_follow_19 : decode cX9_follow 19 = .ok (.aload_n 1, 1) := by decide +kernel
theorem dX9_follow_20 : decode cX9_follow 20 = .ok (.getfield 35, 3) := by decide +kernel
theorem dX9_follow_23 : decode cX9_follow 23 = .ok (.iload_n 2, 1) := by decide +kernel
theorem dX9_follow_24 : decode cX9_follow 24 = .ok (.iaload, 1) := by decide +kernel
theorem dX9_follow_25 : decode cX9_follow 25 = .ok (.invokevirtual 38, 3) := by decide +kernel
theorem dX9_follow_28 : decode cX9_follow 28 = .ok (.iinc 2 1, 3) := by decide +kernel
theorem dX9_follow_31 : decode cX9_follow 31 = .ok (.goto (-21), 3) := by decide +kernel
theorem dX9_follow_34 : decode cX9_follow 34 = .ok (.aload_n 0, 1) := by decide +kernel
theorem dX9_follow_35 : decode cX9_follow 35 = .ok (.invokevirtual 42, 3) := by decide +kernel
theorem dX9_follow_38 : decode cX9_follow 38 = .ok (.return_, 1) := by decide +kernel
theorem dX9_begin_0 : decode cX9_begin 0 = .ok (.aload_n 0, 1) := by decide +kernel
theorem dX9_begin_1 : decode cX9_begin 1 = .ok (.aload_n 1, 1) := by decide +kernel
theorem dX9_begin_2 : decode cX9_begin 2 = .ok (.invokevirtual 45, 3) := by decide +kernel
theorem dX9_begin_5 : decode cX9_begin 5 = .ok (.putfield 18, 3) := by decide +kernel
theorem dX9_begin_8 : decode cX9_begin 8 = .ok (.iconst 0, 1) := by decide +kernel
theorem dX9_begin_9 : decode cX9_begin 9 = .ok (.istore_n 2, 1) := by decide +kernel
theorem dX9_begin_10 : decode cX9_begin 10 = .ok (.iload_n 2, 1) := by decide +kernel
theorem dX9_begin_11 : decode cX9_begin 11 = .ok (.bipush 8, 2) := by decide +kernel
theorem dX9_begin_13 : decode cX9_begin 13 = .ok (.if_icmp .ge 25, 3) := by decide +kernel
theorem dX9_begin_16 : decode cX9_begin 16 = .ok (.aload_n 0, 1) := by decide +kernel
theorem dX9_begin_17 : decode cX9_begin 17 = .ok (.getfield 9, 3) := by decide +kernel
theorem dX9_begin_20 : decode cX9_begin 20 = .ok (.iload_n 2, 1) := by decide +kernel
theorem dX9_begin_21 : decode cX9_begin 21 = .ok (.iconst 0, 1) := by decide +kernel
theorem dX9_begin_22 : decode cX9_begin 22 = .ok (.iastore, 1) := by decide +kernel
theorem dX9_begin_23 : decode cX9_begin 23 = .ok (.aload_n 0, 1) := by decide +kernel
theorem dX9_begin_24 : decode cX9_begin 24 = .ok (.getfield 15, 3) := by decide +kernel
theorem dX9_begin_27 : decode cX9_begin 27 = .ok (.iload_n 2, 1) := by decide +kernel
theorem dX9_begin_28 : decode cX9_begin 28 = .ok (.iconst 1, 1) := by decide +kernel
theorem dX9_begin_29 : decode cX9_begin 29 = .ok (.iload_n 2, 1) := by decide +kernel
theorem dX9_begin_30 : decode cX9_begin 30 = .ok (.ishl, 1) := by decide +kernel
theorem dX9_begin_31 : decode cX9_begin 31 = .ok (.iastore, 1) := by decide +kernel
theorem dX9_begin_32 : decode cX9_begin 32 = .ok (.iinc 2 1, 3) := by decide +kernel
theorem dX9_begin_35 : decode cX9_begin 35 = .ok (.goto (-25), 3) := by decide +kernel
theorem dX9_begin_38 : decode cX9_begin 38 = .ok (.iconst 0, 1) := by decide +kernel
theorem dX9_begin_39 : decode cX9_begin 39 = .ok (.istore_n 2, 1) := by decide +kernel
theorem dX9_begin_40 : decode cX9_begin 40 = .ok (.iload_n 2, 1) := by decide +kernel
theorem dX9_begin_41 : decode cX9_begin 41 = .ok (.bipush 8, 2) := by decide +kernel
theorem dX9_begin_43 : decode cX9_begin 43 = .ok (.if_icmp .ge 34, 3) := by decide +kernel
theorem dX9_begin_46 : decode cX9_begin 46 = .ok (.aload_n 1, 1) := by decide +kernel
theorem dX9_begin_47 : decode cX9_begin 47 = .ok (.getfield 51, 3) := by decide +kernel
theorem dX9_begin_50 : decode cX9_begin 50 = .ok (.iload_n 2, 1) := by decide +kernel
theorem dX9_begin_51 : decode cX9_begin 51 = .ok (.iaload, 1) := by decide +kernel
theorem dX9_begin_52 : decode cX9_begin 52 = .ok (.iconst (-1), 1) := by decide +kernel
theorem dX9_begin_53 : decode cX9_begin 53 = .ok (.if_icmp .eq 18, 3) := by decide +kernel
theorem dX9_begin_56 : decode cX9_begin 56 = .ok (.aload_n 0, 1) := by decide +kernel
theorem dX9_begin_57 : decode cX9_begin 57 = .ok (.getfield 9, 3) := by decide +kernel
theorem dX9_begin_60 : decode cX9_begin 60 = .ok (.aload_n 1, 1) := by decide +kernel
theorem dX9_begin_61 : decode cX9_begin 61 = .ok (.getfield 51, 3) := by decide +kernel
theorem dX9_begin_64 : decode cX9_begin 64 = .ok (.iload_n 2, 1) := by decide +kernel
theorem dX9_begin_65 : decode cX9_begin 65 = .ok (.iaload, 1) := by decide +kernel
theorem dX9_begin_66 : decode cX9_begin 66 = .ok (.dup2, 1) := by decide +kernel
theorem dX9_begin_67 : decode cX9_begin 67 = .ok (.iaload, 1) := by decide +kernel
theorem dX9_begin_68 : decode cX9_begin 68 = .ok (.iconst 1, 1) := by decide +kernel
theorem dX9_begin_69 : decode cX9_begin 69 = .ok (.iadd, 1) := by decide +kernel
theorem dX9_begin_70 : decode cX9_begin 70 = .ok (.iastore, 1) := by decide +kernel
theorem dX9_begin_71 : decode cX9_begin 71 = .ok (.iinc 2 1, 3) := by decide +kernel
theorem dX9_begin_74 : decode cX9_begin 74 = .ok (.goto (-34), 3) := by decide +kernel
theorem dX9_begin_77 : decode cX9_begin 77 = .ok (.return_, 1) := by decide +kernel
theorem dX9_addRule_0 : decode cX9_addRule 0 = .ok (.aload_n 0, 1) := by decide +kernel
theorem dX9_addRule_1 : decode cX9_addRule 1 = .ok (.getfield 15, 3) := by decide +kernel
theorem dX9_addRule_4 : decode cX9_addRule 4 = .ok (.iload_n 1, 1) := by decide +kernel
theorem dX9_addRule_5 : decode cX9_addRule 5 = .ok (.invokestatic 54, 3) := by decide +kernel
theorem dX9_addRule_8 : decode cX9_addRule 8 = .ok (.dup2, 1) := by decide +kernel
theorem dX9_addRule_9 : decode cX9_addRule 9 = .ok (.iaload, 1) := by decide +kernel
theorem dX9_addRule_10 : decode cX9_addRule 10 = .ok (.iconst 1, 1) := by decide +kernel
theorem dX9_addRule_11 : decode cX9_addRule 11 = .ok (.iload_n 1, 1) := by decide +kernel
theorem dX9_addRule_12 : decode cX9_addRule 12 = .ok (.invokestatic 58, 3) := by decide +kernel
theorem dX9_addRule_15 : decode cX9_addRule 15 = .ok (.ishl, 1) := by decide +kernel
theorem dX9_addRule_16 : decode cX9_addRule 16 = .ok (.ior, 1) := by decide +kernel
theorem dX9_addRule_17 : decode cX9_addRule 17 = .ok (.iastore, 1) := by decide +kernel
theorem dX9_addRule_18 : decode cX9_addRule 18 = .ok (.return_, 1) := by decide +kernel
theorem dX9_chain_0 : decode cX9_chain 0 = .ok (.iconst 0, 1) := by decide +kernel
theorem dX9_chain_1 : decode cX9_chain 1 = .ok (.istore_n 1, 1) := by decide +kernel
theorem dX9_chain_2 : decode cX9_chain 2 = .ok (.iload_n 1, 1) := by decide +kernel
theorem dX9_chain_3 : decode cX9_chain 3 = .ok (.aload_n 0, 1) := by decide +kernel
theorem dX9_chain_4 : decode cX9_chain 4 = .ok (.getfield 18, 3) := by decide +kernel
theorem dX9_chain_7 : decode cX9_chain 7 = .ok (.if_icmp .ge 54, 3) := by decide +kernel
theorem dX9_chain_10 : decode cX9_chain 10 = .ok (.iconst 0, 1) := by decide +kernel
theorem dX9_chain_11 : decode cX9_chain 11 = .ok (.istore_n 2, 1) := by decide +kernel
theorem dX9_chain_12 : decode cX9_chain 12 = .ok (.iload_n 2, 1) := by decide +kernel
theorem dX9_chain_13 : decode cX9_chain 13 = .ok (.aload_n 0, 1) := by decide +kernel
theorem dX9_chain_14 : decode cX9_chain 14 = .ok (.getfield 18, 3) := by decide +kernel
theorem dX9_chain_17 : decode cX9_chain 17 = .ok (.if_icmp .ge 38, 3) := by decide +kernel
theorem dX9_chain_20 : decode cX9_chain 20 = .ok (.aload_n 0, 1) := by decide +kernel
theorem dX9_chain_21 : decode cX9_chain 21 = .ok (.getfield 15, 3) := by decide +kernel
theorem dX9_chain_24 : decode cX9_chain 24 = .ok (.iload_n 2, 1) := by decide +kernel
theorem dX9_chain_25 : decode cX9_chain 25 = .ok (.iaload, 1) := by decide +kernel
theorem dX9_chain_26 : decode cX9_chain 26 = .ok (.iload_n 1, 1) := by decide +kernel
theorem dX9_chain_27 : decode cX9_chain 27 = .ok (.ishr, 1) := by decide +kernel
theorem dX9_chain_28 : decode cX9_chain 28 = .ok (.iconst 1, 1) := by decide +kernel
theorem dX9_chain_29 : decode cX9_chain 29 = .ok (.iand, 1) := by decide +kernel
theorem dX9_chain_30 : decode cX9_chain 30 = .ok (.iconst 1, 1) := by decide +kernel
theorem dX9_chain_31 : decode cX9_chain 31 = .ok (.if_icmp .ne 18, 3) := by decide +kernel
theorem dX9_chain_34 : decode cX9_chain 34 = .ok (.aload_n 0, 1) := by decide +kernel
theorem dX9_chain_35 : decode cX9_chain 35 = .ok (.getfield 15, 3) := by decide +kernel
theorem dX9_chain_38 : decode cX9_chain 38 = .ok (.iload_n 2, 1) := by decide +kernel
theorem dX9_chain_39 : decode cX9_chain 39 = .ok (.dup2, 1) := by decide +kernel
theorem dX9_chain_40 : decode cX9_chain 40 = .ok (.iaload, 1) := by decide +kernel
theorem dX9_chain_41 : decode cX9_chain 41 = .ok (.aload_n 0, 1) := by decide +kernel
theorem dX9_chain_42 : decode cX9_chain 42 = .ok (.getfield 15, 3) := by decide +kernel
theorem dX9_chain_45 : decode cX9_chain 45 = .ok (.iload_n 1, 1) := by decide +kernel
theorem dX9_chain_46 : decode cX9_chain 46 = .ok (.iaload, 1) := by decide +kernel
theorem dX9_chain_47 : decode cX9_chain 47 = .ok (.ior, 1) := by decide +kernel
theorem dX9_chain_48 : decode cX9_chain 48 = .ok (.iastore, 1) := by decide +kernel
theorem dX9_chain_49 : decode cX9_chain 49 = .ok (.iinc 2 1, 3) := by decide +kernel
theorem dX9_chain_52 : decode cX9_chain 52 = .ok (.goto (-40), 3) := by decide +kernel
theorem dX9_chain_55 : decode cX9_chain 55 = .ok (.iinc 1 1, 3) := by decide +kernel
theorem dX9_chain_58 : decode cX9_chain 58 = .ok (.goto (-56), 3) := by decide +kernel
theorem dX9_chain_61 : decode cX9_chain 61 = .ok (.return_, 1) := by decide +kernel
theorem dX9_othersFrom_0 : decode cX9_othersFrom 0 = .ok (.iconst 0, 1) := by decide +kernel
theorem dX9_othersFrom_1 : decode cX9_othersFrom 1 = .ok (.istore_n 2, 1) := by decide +kernel
theorem dX9_othersFrom_2 : decode cX9_othersFrom 2 = .ok (.iconst 0, 1) := by decide +kernel
theorem dX9_othersFrom_3 : decode cX9_othersFrom 3 = .ok (.istore_n 3, 1) := by decide +kernel
theorem dX9_othersFrom_4 : decode cX9_othersFrom 4 = .ok (.iload_n 3, 1) := by decide +kernel
theorem dX9_othersFrom_5 : decode cX9_othersFrom 5 = .ok (.aload_n 0, 1) := by decide +kernel
theorem dX9_othersFrom_6 : decode cX9_othersFrom 6 = .ok (.getfield 18, 3) := by decide +kernel
theorem dX9_othersFrom_9 : decode cX9_othersFrom 9 = .ok (.if_icmp .ge 32, 3) := by decide +kernel
theorem dX9_othersFrom_12 : decode cX9_othersFrom 12 = .ok (.aload_n 0, 1) := by decide +kernel
theorem dX9_othersFrom_13 : decode cX9_othersFrom 13 = .ok (.getfield 15, 3) := by decide +kernel
theorem dX9_othersFrom_16 : decode cX9_othersFrom 16 = .ok (.iload_n 1, 1) := by decide +kernel
theorem dX9_othersFrom_17 : decode cX9_othersFrom 17 = .ok (.iaload, 1) := by decide +kernel
theorem dX9_othersFrom_18 : decode cX9_othersFrom 18 = .ok (.iload_n 3, 1) := by decide +kernel
theorem dX9_othersFrom_19 : decode cX9_othersFrom 19 = .ok (.ishr, 1) := by decide +kernel
theorem dX9_othersFrom_20 : decode cX9_othersFrom 20 = .ok (.iconst 1, 1) := by decide +kernel
theorem dX9_othersFrom_21 : decode cX9_othersFrom 21 = .ok (.iand, 1) := by decide +kernel
theorem dX9_othersFrom_22 : decode cX9_othersFrom 22 = .ok (.iconst 1, 1) := by decide +kernel
theorem dX9_othersFrom_23 : decode cX9_othersFrom 23 = .ok (.if_icmp .ne 12, 3) := by decide +kernel
theorem dX9_othersFrom_26 : decode cX9_othersFrom 26 = .ok (.iload_n 2, 1) := by decide +kernel
theorem dX9_othersFrom_27 : decode cX9_othersFrom 27 = .ok (.aload_n 0, 1) := by decide +kernel
theorem dX9_othersFrom_28 : decode cX9_othersFrom 28 = .ok (.getfield 9, 3) := by decide +kernel
theorem dX9_othersFrom_31 : decode cX9_othersFrom 31 = .ok (.iload_n 3, 1) := by decide +kernel
theorem dX9_othersFrom_32 : decode cX9_othersFrom 32 = .ok (.iaload, 1) := by decide +kernel
theorem dX9_othersFrom_33 : decode cX9_othersFrom 33 = .ok (.iadd, 1) := by decide +kernel
theorem dX9_othersFrom_34 : decode cX9_othersFrom 34 = .ok (.istore_n 2, 1) := by decide +kernel
theorem dX9_othersFrom_35 : decode cX9_othersFrom 35 = .ok (.iinc 3 1, 3) := by decide +kernel
theorem dX9_othersFrom_38 : decode cX9_othersFrom 38 = .ok (.goto (-34), 3) := by decide +kernel
theorem dX9_othersFrom_41 : decode cX9_othersFrom 41 = .ok (.iload_n 2, 1) := by decide +kernel
theorem dX9_othersFrom_42 : decode cX9_othersFrom 42 = .ok (.iconst 1, 1) := by decide +kernel
theorem dX9_othersFrom_43 : decode cX9_othersFrom 43 = .ok (.isub, 1) := by decide +kernel
theorem dX9_othersFrom_44 : decode cX9_othersFrom 44 = .ok (.ireturn, 1) := by decide +kernel
theorem dX9_widest_0 : decode cX9_widest 0 = .ok (.iconst (-1), 1) := by decide +kernel
theorem dX9_widest_1 : decode cX9_widest 1 = .ok (.istore_n 1, 1) := by decide +kernel
theorem dX9_widest_2 : decode cX9_widest 2 = .ok (.iconst 0, 1) := by decide +kernel
theorem dX9_widest_3 : decode cX9_widest 3 = .ok (.istore_n 2, 1) := by decide +kernel
theorem dX9_widest_4 : decode cX9_widest 4 = .ok (.iload_n 2, 1) := by decide +kernel
theorem dX9_widest_5 : decode cX9_widest 5 = .ok (.aload_n 0, 1) := by decide +kernel
theorem dX9_widest_6 : decode cX9_widest 6 = .ok (.getfield 18, 3) := by decide +kernel
theorem dX9_widest_9 : decode cX9_widest 9 = .ok (.if_icmp .ge 19, 3) := by decide +kernel
theorem dX9_widest_12 : decode cX9_widest 12 = .ok (.iload_n 1, 1) := by decide +kernel
theorem dX9_widest_13 : decode cX9_widest 13 = .ok (.aload_n 0, 1) := by decide +kernel
theorem dX9_widest_14 : decode cX9_widest 14 = .ok (.iload_n 2, 1) := by decide +kernel
theorem dX9_widest_15 : decode cX9_widest 15 = .ok (.invokevirtual 61, 3) := by decide +kernel
theorem dX9_widest_18 : decode cX9_widest 18 = .ok (.invokestatic 64, 3) := by decide +kernel
theorem dX9_widest_21 : decode cX9_widest 21 = .ok (.istore_n 1, 1) := by decide +kernel
theorem dX9_widest_22 : decode cX9_widest 22 = .ok (.iinc 2 1, 3) := by decide +kernel
theorem dX9_widest_25 : decode cX9_widest 25 = .ok (.goto (-21), 3) := by decide +kernel
theorem dX9_widest_28 : decode cX9_widest 28 = .ok (.iload_n 1, 1) := by decide +kernel
theorem dX9_widest_29 : decode cX9_widest 29 = .ok (.ireturn, 1) := by decide +kernel
theorem dX9_firstWith_0 : decode cX9_firstWith 0 = .ok (.iconst 0, 1) := by decide +kernel
theorem dX9_firstWith_1 : decode cX9_firstWith 1 = .ok (.istore_n 3, 1) := by decide +kernel
theorem dX9_firstWith_2 : decode cX9_firstWith 2 = .ok (.iload_n 3, 1) := by decide +kernel
theorem dX9_firstWith_3 : decode cX9_firstWith 3 = .ok (.bipush 8, 2) := by decide +kernel
theorem dX9_firstWith_5 : decode cX9_firstWith 5 = .ok (.if_icmp .ge 35, 3) := by decide +kernel
theorem dX9_firstWith_8 : decode cX9_firstWith 8 = .ok (.aload_n 2, 1) := by decide +kernel
theorem dX9_firstWith_9 : decode cX9_firstWith 9 = .ok (.getfield 51, 3) := by decide +kernel
theorem dX9_firstWith_12 : decode cX9_firstWith 12 = .ok (.iload_n 3, 1) := by decide +kernel
theorem dX9_firstWith_13 : decode cX9_firstWith 13 = .ok (.iaload, 1) := by decide +kernel
theorem dX9_firstWith_14 : decode cX9_firstWith 14 = .ok (.iconst (-1), 1) := by decide +kernel
theorem dX9_firstWith_15 : decode cX9_firstWith 15 = .ok (.if_icmp .eq 19, 3) := by decide +kernel
theorem dX9_firstWith_18 : decode cX9_firstWith 18 = .ok (.aload_n 0, 1) := by decide +kernel
theorem dX9_firstWith_19 : decode cX9_firstWith 19 = .ok (.aload_n 2, 1) := by decide +kernel
theorem dX9_firstWith_20 : decode cX9_firstWith 20 = .ok (.getfield 51, 3) := by decide +kernel
theorem dX9_firstWith_23 : decode cX9_firstWith 23 = .ok (.iload_n 3, 1) := by decide +kernel
theorem dX9_firstWith_24 : decode cX9_firstWith 24 = .ok (.iaload, 1) := by decide +kernel
theorem dX9_firstWith_25 : decode cX9_firstWith 25 = .ok (.invokevirtual 61, 3) := by decide +kernel
theorem dX9_firstWith_28 : decode cX9_firstWith 28 = .ok (.iload_n 1, 1) := by decide +kernel
theorem dX9_firstWith_29 : decode cX9_firstWith 29 = .ok (.if_icmp .ne 5, 3) := by decide +kernel
theorem dX9_firstWith_32 : decode cX9_firstWith 32 = .ok (.iload_n 3, 1) := by decide +kernel
theorem dX9_firstWith_33 : decode cX9_firstWith 33 = .ok (.ireturn, 1) := by decide +kernel
theorem dX9_firstWith_34 : decode cX9_firstWith 34 = .ok (.iinc 3 1, 3) := by decide +kernel
theorem dX9_firstWith_37 : decode cX9_firstWith 37 = .ok (.goto (-35), 3) := by decide +kernel
theorem dX9_firstWith_40 : decode cX9_firstWith 40 = .ok (.iconst (-1), 1) := by decide +kernel
theorem dX9_firstWith_41 : decode cX9_firstWith 41 = .ok (.ireturn, 1) := by decide +kernel
theorem dX10_init_0 : decode cX10_init 0 = .ok (.aload_n 0, 1) := by decide +kernel
theorem dX10_init_1 : decode cX10_init 1 = .ok (.invokespecial 1, 3) := by decide +kernel
theorem dX10_init_4 : decode cX10_init 4 = .ok (.aload_n 0, 1) := by decide +kernel
theorem dX10_init_5 : decode cX10_init 5 = .ok (.new 7, 3) := by decide +kernel
theorem dX10_init_8 : decode cX10_init 8 = .ok (.dup, 1) := by decide +kernel
theorem dX10_init_9 : decode cX10_init 9 = .ok (.invokespecial 9, 3) := by decide +kernel
theorem dX10_init_12 : decode cX10_init 12 = .ok (.putfield 10, 3) := by decide +kernel
theorem dX10_init_15 : decode cX10_init 15 = .ok (.aload_n 0, 1) := by decide +kernel
theorem dX10_init_16 : decode cX10_init 16 = .ok (.new 16, 3) := by decide +kernel
theorem dX10_init_19 : decode cX10_init 19 = .ok (.dup, 1) := by decide +kernel
theorem dX10_init_20 : decode cX10_init 20 = .ok (.invokespecial 18, 3) := by decide +kernel
theorem dX10_init_23 : decode cX10_init 23 = .ok (.putfield 19, 3) := by decide +kernel
theorem dX10_init_26 : decode cX10_init 26 = .ok (.aload_n 0, 1) := by decide +kernel
theorem dX10_init_27 : decode cX10_init 27 = .ok (.new 23, 3) := by decide +kernel
theorem dX10_init_30 : decode cX10_init 30 = .ok (.dup, 1) := by decide +kernel
theorem dX10_init_31 : decode cX10_init 31 = .ok (.invokespecial 25, 3) := by decide +kernel
theorem dX10_init_34 : decode cX10_init 34 = .ok (.putfield 26, 3) := by decide +kernel
theorem dX10_init_37 : decode cX10_init 37 = .ok (.aload_n 0, 1) := by decide +kernel
theorem dX10_init_38 : decode cX10_init 38 = .ok (.new 30, 3) := by decide +kernel
theorem dX10_init_41 : decode cX10_init 41 = .ok (.dup, 1) := by decide +kernel
theorem dX10_init_42 : decode cX10_init 42 = .ok (.invokespecial 32, 3) := by decide +kernel
theorem dX10_init_45 : decode cX10_init 45 = .ok (.putfield 33, 3) := by decide +kernel
theorem dX10_init_48 : decode cX10_init 48 = .ok (.aload_n 0, 1) := by decide +kernel
theorem dX10_init_49 : decode cX10_init 49 = .ok (.new 37, 3) := by decide +kernel
theorem dX10_init_52 : decode cX10_init 52 = .ok (.dup, 1) := by decide +kernel
theorem dX10_init_53 : decode cX10_init 53 = .ok (.invokespecial 39, 3) := by decide +kernel
theorem dX10_init_56 : decode cX10_init 56 = .ok (.putfield 40, 3) := by decide +kernel
theorem dX10_init_59 : decode cX10_init 59 = .ok (.aload_n 0, 1) := by decide +kernel
theorem dX10_init_60 : decode cX10_init 60 = .ok (.new 44, 3) := by decide +kernel
theorem dX10_init_63 : decode cX10_init 63 = .ok (.dup, 1) := by decide +kernel
theorem dX10_init_64 : decode cX10_init 64 = .ok (.invokespecial 46, 3) := by decide +kernel
theorem dX10_init_67 : decode cX10_init 67 = .ok (.putfield 47, 3) := by decide +kernel
theorem dX10_init_70 : decode cX10_init 70 = .ok (.aload_n 0, 1) := by decide +kernel
theorem dX10_init_71 : decode cX10_init 71 = .ok (.new 51, 3) := by decide +kernel
theorem dX10_init_74 : decode cX10_init 74 = .ok (.dup, 1) := by decide +kernel
theorem dX10_init_75 : decode cX10_init 75 = .ok (.invokespecial 53, 3) := by decide +kernel
theorem dX10_init_78 : decode cX10_init 78 = .ok (.putfield 54, 3) := by decide +kernel
theorem dX10_init_81 : decode cX10_init 81 = .ok (.aload_n 0, 1) := by decide +kernel
theorem dX10_init_82 : decode cX10_init 82 = .ok (.new 58, 3) := by decide +kernel
theorem dX10_init_85 : decode cX10_init 85 = .ok (.dup, 1) := by decide +kernel
theorem dX10_init_86 : decode cX10_init 86 = .ok (.invokespecial 60, 3) := by decide +kernel
theorem dX10_init_89 : decode cX10_init 89 = .ok (.putfield 61, 3) := by decide +kernel
theorem dX10_init_92 : decode cX10_init 92 = .ok (.aload_n 0, 1) := by decide +kernel
theorem dX10_init_93 : decode cX10_init 93 = .ok (.new 65, 3) := by decide +kernel
theorem dX10_init_96 : decode cX10_init 96 = .ok (.dup, 1) := by decide +kernel
theorem dX10_init_97 : decode cX10_init 97 = .ok (.invokespecial 67, 3) := by decide +kernel
theorem dX10_init_100 : decode cX10_init 100 = .ok (.putfield 68, 3) := by decide +kernel
theorem dX10_init_103 : decode cX10_init 103 = .ok (.return_, 1) := by decide +kernel
theorem dX10_host_0 : decode cX10_host 0 = .ok (.iload_n 1, 1) := by decide +kernel
theorem dX10_host_1 : decode cX10_host 1 = .ok (.iconst 0, 1) := by decide +kernel
theorem dX10_host_2 : decode cX10_host 2 = .ok (.iconst 3, 1) := by decide +kernel
theorem dX10_host_3 : decode cX10_host 3 = .ok (.invokestatic 72, 3) := by decide +kernel
theorem dX10_host_6 : decode cX10_host 6 = .ok (.ifCond .ne 5, 3) := by decide +kernel
theorem dX10_host_9 : decode cX10_host 9 = .ok (.iconst (-1), 1) := by decide +kernel
theorem dX10_host_10 : decode cX10_host 10 = .ok (.ireturn, 1) := by decide +kernel
theorem dX10_host_11 : decode cX10_host 11 = .ok (.aload_n 0, 1) := by decide +kernel
theorem dX10_host_12 : decode cX10_host 12 = .ok (.getfield 10, 3) := by decide +kernel
theorem dX10_host_15 : decode cX10_host 15 = .ok (.iload_n 1, 1) := by decide +kernel
theorem dX10_host_16 : decode cX10_host 16 = .ok (.invokevirtual 76, 3) := by decide +kernel
theorem dX10_host_19 : decode cX10_host 19 = .ok (.ireturn, 1) := by decide +kernel
theorem dX10_talk_0 : decode cX10_talk 0 = .ok (.aload_n 0, 1) := by decide +kernel
theorem dX10_talk_1 : decode cX10_talk 1 = .ok (.getfield 10, 3) := by decide +kernel
theorem dX10_talk_4 : decode cX10_talk 4 = .ok (.iload_n 1, 1) := by decide +kernel
theorem dX10_talk_5 : decode cX10_talk 5 = .ok (.iload_n 2, 1) := by decide +kernel
theorem dX10_talk_6 : decode cX10_talk 6 = .ok (.iload_n 3, 1) := by decide +kernel
theorem dX10_talk_7 : decode cX10_talk 7 = .ok (.invokevirtual 80, 3) := by decide +kernel
theorem dX10_talk_10 : decode cX10_talk 10 = .ok (.ifCond .eq 23, 3) := by decide +kernel
theorem dX10_talk_13 : decode cX10_talk 13 = .ok (.iload 4, 2) := by decide +kernel
theorem dX10_talk_15 : decode cX10_talk 15 = .ok (.invokestatic 83, 3) := by decide +kernel
theorem dX10_talk_18 : decode cX10_talk 18 = .ok (.ifCond .eq 15, 3) := by decide +kernel
theorem dX10_talk_21 : decode cX10_talk 21 = .ok (.iload 5, 2) := by decide +kernel
theorem dX10_talk_23 : decode cX10_talk 23 = .ok (.iconst 1, 1) := by decide +kernel
theorem dX10_talk_24 : decode cX10_talk 24 = .ok (.sipush 999, 3) := by decide +kernel
theorem dX10_talk_27 : decode cX10_talk 27 = .ok (.invokestatic 72, 3) := by decide +kernel
theorem dX10_talk_30 : decode cX10_talk 30 = .ok (.ifCond .ne 5, 3) := by decide +kernel
theorem dX10_talk_33 : decode cX10_talk 33 = .ok (.iconst (-1), 1) := by decide +kernel
theorem dX10_talk_34 : decode cX10_talk 34 = .ok (.ireturn, 1) := by decide +kernel
theorem dX10_talk_35 : decode cX10_talk 35 = .ok (.aload_n 0, 1) := by decide +kernel
end
section
theorem dX10_talk_36 : decode cX10_talk 36 = .ok (.getfield 26, 3) := by decide +kernel
theorem dX10_talk_39 : decode cX10_talk 39 = .ok (.iload_n 1, 1) := by decide +kernel
theorem dX10_talk_40 : decode cX10_talk 40 = .ok (.iload_n 2, 1) := by decide +kernel
theorem dX10_talk_41 : decode cX10_talk 41 = .ok (.iload_n 3, 1) := by decide +kernel
theorem dX10_talk_42 : decode cX10_talk 42 = .ok (.invokestatic 87, 3) := by decide +kernel
theorem dX10_talk_45 : decode cX10_talk 45 = .ok (.iload 4, 2) := by decide +kernel
theorem dX10_talk_47 : decode cX10_talk 47 = .ok (.iload 5, 2) := by decide +kernel
theorem dX10_talk_49 : decode cX10_talk 49 = .ok (.invokevirtual 91, 3) := by decide +kernel
theorem dX10_talk_52 : decode cX10_talk 52 = .ok (.ireturn, 1) := by decide +kernel
theorem dX10_must_0 : decode cX10_must 0 = .ok (.aload_n 0, 1) := by decide +kernel
theorem dX10_must_1 : decode cX10_must 1 = .ok (.getfield 10, 3) := by decide +kernel
theorem dX10_must_4 : decode cX10_must 4 = .ok (.iload_n 1, 1) := by decide +kernel
theorem dX10_must_5 : decode cX10_must 5 = .ok (.iload_n 2, 1) := by decide +kernel
theorem dX10_must_6 : decode cX10_must 6 = .ok (.iload_n 3, 1) := by decide +kernel
theorem dX10_must_7 : decode cX10_must 7 = .ok (.invokevirtual 80, 3) := by decide +kernel
theorem dX10_must_10 : decode cX10_must 10 = .ok (.ifCond .ne 5, 3) := by decide +kernel
theorem dX10_must_13 : decode cX10_must 13 = .ok (.iconst 0, 1) := by decide +kernel
theorem dX10_must_14 : decode cX10_must 14 = .ok (.ireturn, 1) := by decide +kernel
theorem dX10_must_15 : decode cX10_must 15 = .ok (.aload_n 0, 1) := by decide +kernel
theorem dX10_must_16 : decode cX10_must 16 = .ok (.getfield 10, 3) := by decide +kernel
theorem dX10_must_19 : decode cX10_must 19 = .ok (.getfield 94, 3) := by decide +kernel
theorem dX10_must_22 : decode cX10_must 22 = .ok (.aload_n 0, 1) := by decide +kernel
theorem dX10_must_23 : decode cX10_must 23 = .ok (.getfield 10, 3) := by decide +kernel
theorem dX10_must_26 : decode cX10_must 26 = .ok (.getfield 98, 3) := by decide +kernel
theorem dX10_must_29 : decode cX10_must 29 = .ok (.iload_n 1, 1) := by decide +kernel
theorem dX10_must_30 : decode cX10_must 30 = .ok (.iload_n 2, 1) := by decide +kernel
theorem dX10_must_31 : decode cX10_must 31 = .ok (.invokestatic 101, 3) := by decide +kernel
theorem dX10_must_34 : decode cX10_must 34 = .ok (.iload_n 3, 1) := by decide +kernel
theorem dX10_must_35 : decode cX10_must 35 = .ok (.iload 4, 2) := by decide +kernel
theorem dX10_must_37 : decode cX10_must 37 = .ok (.invokestatic 105, 3) := by decide +kernel
theorem dX10_must_40 : decode cX10_must 40 = .ok (.ireturn, 1) := by decide +kernel
theorem dX10_bar_0 : decode cX10_bar 0 = .ok (.aload_n 0, 1) := by decide +kernel
theorem dX10_bar_1 : decode cX10_bar 1 = .ok (.getfield 10, 3) := by decide +kernel
theorem dX10_bar_4 : decode cX10_bar 4 = .ok (.iload_n 1, 1) := by decide +kernel
theorem dX10_bar_5 : decode cX10_bar 5 = .ok (.iload_n 2, 1) := by decide +kernel
theorem dX10_bar_6 : decode cX10_bar 6 = .ok (.iload_n 3, 1) := by decide +kernel
theorem dX10_bar_7 : decode cX10_bar 7 = .ok (.invokevirtual 80, 3) := by decide +kernel
theorem dX10_bar_10 : decode cX10_bar 10 = .ok (.ifCond .ne 5, 3) := by decide +kernel
theorem dX10_bar_13 : decode cX10_bar 13 = .ok (.iconst 0, 1) := by decide +kernel
theorem dX10_bar_14 : decode cX10_bar 14 = .ok (.ireturn, 1) := by decide +kernel
theorem dX10_bar_15 : decode cX10_bar 15 = .ok (.aload_n 0, 1) := by decide +kernel
theorem dX10_bar_16 : decode cX10_bar 16 = .ok (.getfield 10, 3) := by decide +kernel
theorem dX10_bar_19 : decode cX10_bar 19 = .ok (.getfield 98, 3) := by decide +kernel
theorem dX10_bar_22 : decode cX10_bar 22 = .ok (.aload_n 0, 1) := by decide +kernel
theorem dX10_bar_23 : decode cX10_bar 23 = .ok (.getfield 10, 3) := by decide +kernel
theorem dX10_bar_26 : decode cX10_bar 26 = .ok (.getfield 94, 3) := by decide +kernel
theorem dX10_bar_29 : decode cX10_bar 29 = .ok (.iload_n 1, 1) := by decide +kernel
theorem dX10_bar_30 : decode cX10_bar 30 = .ok (.iload_n 2, 1) := by decide +kernel
theorem dX10_bar_31 : decode cX10_bar 31 = .ok (.invokestatic 101, 3) := by decide +kernel
theorem dX10_bar_34 : decode cX10_bar 34 = .ok (.iload_n 3, 1) := by decide +kernel
theorem dX10_bar_35 : decode cX10_bar 35 = .ok (.iload 4, 2) := by decide +kernel
theorem dX10_bar_37 : decode cX10_bar 37 = .ok (.invokestatic 105, 3) := by decide +kernel
theorem dX10_bar_40 : decode cX10_bar 40 = .ok (.ireturn, 1) := by decide +kernel
theorem dX10_law_0 : decode cX10_law 0 = .ok (.iload_n 1, 1) := by decide +kernel
theorem dX10_law_1 : decode cX10_law 1 = .ok (.iconst 1, 1) := by decide +kernel
theorem dX10_law_2 : decode cX10_law 2 = .ok (.bipush 100, 2) := by decide +kernel
theorem dX10_law_4 : decode cX10_law 4 = .ok (.invokestatic 72, 3) := by decide +kernel
theorem dX10_law_7 : decode cX10_law 7 = .ok (.ifCond .eq 14, 3) := by decide +kernel
theorem dX10_law_10 : decode cX10_law 10 = .ok (.iload_n 2, 1) := by decide +kernel
theorem dX10_law_11 : decode cX10_law 11 = .ok (.iconst 1, 1) := by decide +kernel
theorem dX10_law_12 : decode cX10_law 12 = .ok (.sipush 9999, 3) := by decide +kernel
theorem dX10_law_15 : decode cX10_law 15 = .ok (.invokestatic 72, 3) := by decide +kernel
theorem dX10_law_18 : decode cX10_law 18 = .ok (.ifCond .ne 5, 3) := by decide +kernel
theorem dX10_law_21 : decode cX10_law 21 = .ok (.iconst 0, 1) := by decide +kernel
theorem dX10_law_22 : decode cX10_law 22 = .ok (.ireturn, 1) := by decide +kernel
theorem dX10_law_23 : decode cX10_law 23 = .ok (.aload_n 0, 1) := by decide +kernel
theorem dX10_law_24 : decode cX10_law 24 = .ok (.getfield 19, 3) := by decide +kernel
theorem dX10_law_27 : decode cX10_law 27 = .ok (.iload_n 1, 1) := by decide +kernel
theorem dX10_law_28 : decode cX10_law 28 = .ok (.putfield 109, 3) := by decide +kernel
theorem dX10_law_31 : decode cX10_law 31 = .ok (.aload_n 0, 1) := by decide +kernel
theorem dX10_law_32 : decode cX10_law 32 = .ok (.getfield 19, 3) := by decide +kernel
theorem dX10_law_35 : decode cX10_law 35 = .ok (.iload_n 2, 1) := by decide +kernel
theorem dX10_law_36 : decode cX10_law 36 = .ok (.putfield 113, 3) := by decide +kernel
theorem dX10_law_39 : decode cX10_law 39 = .ok (.aload_n 0, 1) := by decide +kernel
theorem dX10_law_40 : decode cX10_law 40 = .ok (.getfield 19, 3) := by decide +kernel
theorem dX10_law_43 : decode cX10_law 43 = .ok (.iload_n 3, 1) := by decide +kernel
theorem dX10_law_44 : decode cX10_law 44 = .ok (.putfield 116, 3) := by decide +kernel
theorem dX10_law_47 : decode cX10_law 47 = .ok (.iconst 1, 1) := by decide +kernel
theorem dX10_law_48 : decode cX10_law 48 = .ok (.ireturn, 1) := by decide +kernel
theorem dX10_prices_0 : decode cX10_prices 0 = .ok (.iload_n 1, 1) := by decide +kernel
theorem dX10_prices_1 : decode cX10_prices 1 = .ok (.iconst 0, 1) := by decide +kernel
theorem dX10_prices_2 : decode cX10_prices 2 = .ok (.bipush 99, 2) := by decide +kernel
theorem dX10_prices_4 : decode cX10_prices 4 = .ok (.invokestatic 72, 3) := by decide +kernel
theorem dX10_prices_7 : decode cX10_prices 7 = .ok (.ifCond .eq 13, 3) := by decide +kernel
theorem dX10_prices_10 : decode cX10_prices 10 = .ok (.iload_n 2, 1) := by decide +kernel
theorem dX10_prices_11 : decode cX10_prices 11 = .ok (.iconst 0, 1) := by decide +kernel
theorem dX10_prices_12 : decode cX10_prices 12 = .ok (.bipush 99, 2) := by decide +kernel
theorem dX10_prices_14 : decode cX10_prices 14 = .ok (.invokestatic 72, 3) := by decide +kernel
theorem dX10_prices_17 : decode cX10_prices 17 = .ok (.ifCond .ne 5, 3) := by decide +kernel
theorem dX10_prices_20 : decode cX10_prices 20 = .ok (.iconst 0, 1) := by decide +kernel
theorem dX10_prices_21 : decode cX10_prices 21 = .ok (.ireturn, 1) := by decide +kernel
theorem dX10_prices_22 : decode cX10_prices 22 = .ok (.aload_n 0, 1) := by decide +kernel
theorem dX10_prices_23 : decode cX10_prices 23 = .ok (.getfield 19, 3) := by decide +kernel
theorem dX10_prices_26 : decode cX10_prices 26 = .ok (.iload_n 1, 1) := by decide +kernel
theorem dX10_prices_27 : decode cX10_prices 27 = .ok (.putfield 120, 3) := by decide +kernel
theorem dX10_prices_30 : decode cX10_prices 30 = .ok (.aload_n 0, 1) := by decide +kernel
theorem dX10_prices_31 : decode cX10_prices 31 = .ok (.getfield 19, 3) := by decide +kernel
theorem dX10_prices_34 : decode cX10_prices 34 = .ok (.iload_n 2, 1) := by decide +kernel
theorem dX10_prices_35 : decode cX10_prices 35 = .ok (.putfield 123, 3) := by decide +kernel
theorem dX10_prices_38 : decode cX10_prices 38 = .ok (.iconst 1, 1) := by decide +kernel
theorem dX10_prices_39 : decode cX10_prices 39 = .ok (.ireturn, 1) := by decide +kernel
theorem dX10_weight_0 : decode cX10_weight 0 = .ok (.aload_n 0, 1) := by decide +kernel
theorem dX10_weight_1 : decode cX10_weight 1 = .ok (.getfield 10, 3) := by decide +kernel
theorem dX10_weight_4 : decode cX10_weight 4 = .ok (.iload_n 1, 1) := by decide +kernel
theorem dX10_weight_5 : decode cX10_weight 5 = .ok (.iload_n 2, 1) := by decide +kernel
theorem dX10_weight_6 : decode cX10_weight 6 = .ok (.iload_n 3, 1) := by decide +kernel
theorem dX10_weight_7 : decode cX10_weight 7 = .ok (.invokevirtual 80, 3) := by decide +kernel
theorem dX10_weight_10 : decode cX10_weight 10 = .ok (.ifCond .eq 11, 3) := by decide +kernel
theorem dX10_weight_13 : decode cX10_weight 13 = .ok (.iload 4, 2) := by decide +kernel
theorem dX10_weight_15 : decode cX10_weight 15 = .ok (.invokestatic 83, 3) := by decide +kernel
theorem dX10_weight_18 : decode cX10_weight 18 = .ok (.ifCond .ne 5, 3) := by decide +kernel
theorem dX10_weight_21 : decode cX10_weight 21 = .ok (.iconst (-1), 1) := by decide +kernel
theorem dX10_weight_22 : decode cX10_weight 22 = .ok (.ireturn, 1) := by decide +kernel
theorem dX10_weight_23 : decode cX10_weight 23 = .ok (.aload_n 0, 1) := by decide +kernel
theorem dX10_weight_24 : decode cX10_weight 24 = .ok (.getfield 26, 3) := by decide +kernel
theorem dX10_weight_27 : decode cX10_weight 27 = .ok (.iload_n 1, 1) := by decide +kernel
theorem dX10_weight_28 : decode cX10_weight 28 = .ok (.iload_n 2, 1) := by decide +kernel
theorem dX10_weight_29 : decode cX10_weight 29 = .ok (.iload_n 3, 1) := by decide +kernel
theorem dX10_weight_30 : decode cX10_weight 30 = .ok (.invokestatic 87, 3) := by decide +kernel
theorem dX10_weight_33 : decode cX10_weight 33 = .ok (.iload 4, 2) := by decide +kernel
theorem dX10_weight_35 : decode cX10_weight 35 = .ok (.aload_n 0, 1) := by decide +kernel
theorem dX10_weight_36 : decode cX10_weight 36 = .ok (.getfield 19, 3) := by decide +kernel
theorem dX10_weight_39 : decode cX10_weight 39 = .ok (.getfield 109, 3) := by decide +kernel
theorem dX10_weight_42 : decode cX10_weight 42 = .ok (.invokevirtual 126, 3) := by decide +kernel
theorem dX10_weight_45 : decode cX10_weight 45 = .ok (.ireturn, 1) := by decide +kernel
theorem dX10_needed_0 : decode cX10_needed 0 = .ok (.aload_n 0, 1) := by decide +kernel
theorem dX10_needed_1 : decode cX10_needed 1 = .ok (.getfield 10, 3) := by decide +kernel
theorem dX10_needed_4 : decode cX10_needed 4 = .ok (.iload_n 1, 1) := by decide +kernel
theorem dX10_needed_5 : decode cX10_needed 5 = .ok (.iload_n 2, 1) := by decide +kernel
theorem dX10_needed_6 : decode cX10_needed 6 = .ok (.iload_n 3, 1) := by decide +kernel
theorem dX10_needed_7 : decode cX10_needed 7 = .ok (.invokevirtual 80, 3) := by decide +kernel
theorem dX10_needed_10 : decode cX10_needed 10 = .ok (.ifCond .eq 11, 3) := by decide +kernel
theorem dX10_needed_13 : decode cX10_needed 13 = .ok (.iload 4, 2) := by decide +kernel
theorem dX10_needed_15 : decode cX10_needed 15 = .ok (.invokestatic 83, 3) := by decide +kernel
theorem dX10_needed_18 : decode cX10_needed 18 = .ok (.ifCond .ne 5, 3) := by decide +kernel
theorem dX10_needed_21 : decode cX10_needed 21 = .ok (.iconst (-1), 1) := by decide +kernel
theorem dX10_needed_22 : decode cX10_needed 22 = .ok (.ireturn, 1) := by decide +kernel
theorem dX10_needed_23 : decode cX10_needed 23 = .ok (.aload_n 0, 1) := by decide +kernel
theorem dX10_needed_24 : decode cX10_needed 24 = .ok (.getfield 26, 3) := by decide +kernel
theorem dX10_needed_27 : decode cX10_needed 27 = .ok (.iload_n 1, 1) := by decide +kernel
theorem dX10_needed_28 : decode cX10_needed 28 = .ok (.iload_n 2, 1) := by decide +kernel
theorem dX10_needed_29 : decode cX10_needed 29 = .ok (.iload_n 3, 1) := by decide +kernel
theorem dX10_needed_30 : decode cX10_needed 30 = .ok (.invokestatic 87, 3) := by decide +kernel
theorem dX10_needed_33 : decode cX10_needed 33 = .ok (.iload 4, 2) := by decide +kernel
theorem dX10_needed_35 : decode cX10_needed 35 = .ok (.aload_n 0, 1) := by decide +kernel
theorem dX10_needed_36 : decode cX10_needed 36 = .ok (.getfield 19, 3) := by decide +kernel
theorem dX10_needed_39 : decode cX10_needed 39 = .ok (.getfield 109, 3) := by decide +kernel
theorem dX10_needed_42 : decode cX10_needed 42 = .ok (.invokevirtual 126, 3) := by decide +kernel
theorem dX10_needed_45 : decode cX10_needed 45 = .ok (.istore 5, 2) := by decide +kernel
theorem dX10_needed_47 : decode cX10_needed 47 = .ok (.aload_n 0, 1) := by decide +kernel
theorem dX10_needed_48 : decode cX10_needed 48 = .ok (.getfield 10, 3) := by decide +kernel
theorem dX10_needed_51 : decode cX10_needed 51 = .ok (.iload_n 1, 1) := by decide +kernel
theorem dX10_needed_52 : decode cX10_needed 52 = .ok (.iload_n 2, 1) := by decide +kernel
theorem dX10_needed_53 : decode cX10_needed 53 = .ok (.invokestatic 101, 3) := by decide +kernel
theorem dX10_needed_56 : decode cX10_needed 56 = .ok (.iload_n 3, 1) := by decide +kernel
theorem dX10_needed_57 : decode cX10_needed 57 = .ok (.iload 5, 2) := by decide +kernel
theorem dX10_needed_59 : decode cX10_needed 59 = .ok (.aload_n 0, 1) := by decide +kernel
theorem dX10_needed_60 : decode cX10_needed 60 = .ok (.getfield 19, 3) := by decide +kernel
theorem dX10_needed_63 : decode cX10_needed 63 = .ok (.getfield 113, 3) := by decide +kernel
theorem dX10_needed_66 : decode cX10_needed 66 = .ok (.invokevirtual 129, 3) := by decide +kernel
theorem dX10_needed_69 : decode cX10_needed 69 = .ok (.ifCond .eq 7, 3) := by decide +kernel
theorem dX10_needed_72 : decode cX10_needed 72 = .ok (.iconst 1, 1) := by decide +kernel
theorem dX10_needed_73 : decode cX10_needed 73 = .ok (.goto 4, 3) := by decide +kernel
theorem dX10_needed_76 : decode cX10_needed 76 = .ok (.iconst 0, 1) := by decide +kernel
theorem dX10_needed_77 : decode cX10_needed 77 = .ok (.ireturn, 1) := by decide +kernel
theorem dX10_plan_0 : decode cX10_plan 0 = .ok (.iload_n 1, 1) := by decide +kernel
theorem dX10_plan_1 : decode cX10_plan 1 = .ok (.invokestatic 83, 3) := by decide +kernel
theorem dX10_plan_4 : decode cX10_plan 4 = .ok (.ifCond .eq 13, 3) := by decide +kernel
theorem dX10_plan_7 : decode cX10_plan 7 = .ok (.aload_n 0, 1) := by decide +kernel
theorem dX10_plan_8 : decode cX10_plan 8 = .ok (.getfield 10, 3) := by decide +kernel
theorem dX10_plan_11 : decode cX10_plan 11 = .ok (.getfield 133, 3) := by decide +kernel
theorem dX10_plan_14 : decode cX10_plan 14 = .ok (.ifCond .ne 5, 3) := by decide +kernel
theorem dX10_plan_17 : decode cX10_plan 17 = .ok (.iconst (-1), 1) := by decide +kernel
theorem dX10_plan_18 : decode cX10_plan 18 = .ok (.ireturn, 1) := by decide +kernel
theorem dX10_plan_19 : decode cX10_plan 19 = .ok (.aload_n 0, 1) := by decide +kernel
theorem dX10_plan_20 : decode cX10_plan 20 = .ok (.getfield 40, 3) := by decide +kernel
theorem dX10_plan_23 : decode cX10_plan 23 = .ok (.aload_n 0, 1) := by decide +kernel
theorem dX10_plan_24 : decode cX10_plan 24 = .ok (.getfield 10, 3) := by decide +kernel
theorem dX10_plan_27 : decode cX10_plan 27 = .ok (.aload_n 0, 1) := by decide +kernel
theorem dX10_plan_28 : decode cX10_plan 28 = .ok (.getfield 19, 3) := by decide +kernel
theorem dX10_plan_31 : decode cX10_plan 31 = .ok (.aload_n 0, 1) := by decide +kernel
theorem dX10_plan_32 : decode cX10_plan 32 = .ok (.getfield 26, 3) := by decide +kernel
theorem dX10_plan_35 : decode cX10_plan 35 = .ok (.iload_n 1, 1) := by decide +kernel
theorem dX10_plan_36 : decode cX10_plan 36 = .ok (.invokevirtual 136, 3) := by decide +kernel
theorem dX10_plan_39 : decode cX10_plan 39 = .ok (.aload_n 0, 1) := by decide +kernel
theorem dX10_plan_40 : decode cX10_plan 40 = .ok (.getfield 47, 3) := by decide +kernel
theorem dX10_plan_43 : decode cX10_plan 43 = .ok (.aload_n 0, 1) := by decide +kernel
theorem dX10_plan_44 : decode cX10_plan 44 = .ok (.getfield 10, 3) := by decide +kernel
theorem dX10_plan_47 : decode cX10_plan 47 = .ok (.aload_n 0, 1) := by decide +kernel
theorem dX10_plan_48 : decode cX10_plan 48 = .ok (.getfield 19, 3) := by decide +kernel
theorem dX10_plan_51 : decode cX10_plan 51 = .ok (.aload_n 0, 1) := by decide +kernel
theorem dX10_plan_52 : decode cX10_plan 52 = .ok (.getfield 40, 3) := by decide +kernel
theorem dX10_plan_55 : decode cX10_plan 55 = .ok (.invokevirtual 140, 3) := by decide +kernel
theorem dX10_plan_58 : decode cX10_plan 58 = .ok (.aload_n 0, 1) := by decide +kernel
theorem dX10_plan_59 : decode cX10_plan 59 = .ok (.getfield 33, 3) := by decide +kernel
theorem dX10_plan_62 : decode cX10_plan 62 = .ok (.aload_n 0, 1) := by decide +kernel
theorem dX10_plan_63 : decode cX10_plan 63 = .ok (.getfield 47, 3) := by decide +kernel
theorem dX10_plan_66 : decode cX10_plan 66 = .ok (.getfield 144, 3) := by decide +kernel
theorem dX10_plan_69 : decode cX10_plan 69 = .ok (.aload_n 0, 1) := by decide +kernel
theorem dX10_plan_70 : decode cX10_plan 70 = .ok (.getfield 40, 3) := by decide +kernel
theorem dX10_plan_73 : decode cX10_plan 73 = .ok (.aload_n 0, 1) := by decide +kernel
theorem dX10_plan_74 : decode cX10_plan 74 = .ok (.getfield 10, 3) := by decide +kernel
theorem dX10_plan_77 : decode cX10_plan 77 = .ok (.aload_n 0, 1) := by decide +kernel
theorem dX10_plan_78 : decode cX10_plan 78 = .ok (.getfield 19, 3) := by decide +kernel
theorem dX10_plan_81 : decode cX10_plan 81 = .ok (.invokevirtual 147, 3) := by decide +kernel
theorem dX10_plan_84 : decode cX10_plan 84 = .ok (.aload_n 0, 1) := by decide +kernel
theorem dX10_plan_85 : decode cX10_plan 85 = .ok (.getfield 33, 3) := by decide +kernel
theorem dX10_plan_88 : decode cX10_plan 88 = .ok (.getfield 151, 3) := by decide +kernel
theorem dX10_plan_91 : decode cX10_plan 91 = .ok (.ireturn, 1) := by decide +kernel
theorem dX10_room_0 : decode cX10_room 0 = .ok (.aload_n 0, 1) := by decide +kernel
theorem dX10_room_1 : decode cX10_room 1 = .ok (.getfield 10, 3) := by decide +kernel
theorem dX10_room_4 : decode cX10_room 4 = .ok (.iload_n 1, 1) := by decide +kernel
theorem dX10_room_5 : decode cX10_room 5 = .ok (.invokevirtual 154, 3) := by decide +kernel
theorem dX10_room_8 : decode cX10_room 8 = .ok (.ifCond .eq 18, 3) := by decide +kernel
theorem dX10_room_11 : decode cX10_room 11 = .ok (.aload_n 0, 1) := by decide +kernel
theorem dX10_room_12 : decode cX10_room 12 = .ok (.getfield 33, 3) := by decide +kernel
theorem dX10_room_15 : decode cX10_room 15 = .ok (.getfield 157, 3) := by decide +kernel
theorem dX10_room_18 : decode cX10_room 18 = .ok (.getfield 161, 3) := by decide +kernel
theorem dX10_room_21 : decode cX10_room 21 = .ok (.iload_n 1, 1) := by decide +kernel
theorem dX10_room_22 : decode cX10_room 22 = .ok (.iaload, 1) := by decide +kernel
theorem dX10_room_23 : decode cX10_room 23 = .ok (.goto 4, 3) := by decide +kernel
theorem dX10_room_26 : decode cX10_room 26 = .ok (.iconst (-1), 1) := by decide +kernel
theorem dX10_room_27 : decode cX10_room 27 = .ok (.ireturn, 1) := by decide +kernel
theorem dX10_rule_0 : decode cX10_rule 0 = .ok (.iload_n 1, 1) := by decide +kernel
theorem dX10_rule_1 : decode cX10_rule 1 = .ok (.iconst 0, 1) := by decide +kernel
theorem dX10_rule_2 : decode cX10_rule 2 = .ok (.aload_n 0, 1) := by decide +kernel
theorem dX10_rule_3 : decode cX10_rule 3 = .ok (.getfield 33, 3) := by decide +kernel
theorem dX10_rule_6 : decode cX10_rule 6 = .ok (.getfield 166, 3) := by decide +kernel
theorem dX10_rule_9 : decode cX10_rule 9 = .ok (.iconst 1, 1) := by decide +kernel
theorem dX10_rule_10 : decode cX10_rule 10 = .ok (.isub, 1) := by decide +kernel
theorem dX10_rule_11 : decode cX10_rule 11 = .ok (.invokestatic 72, 3) := by decide +kernel
theorem dX10_rule_14 : decode cX10_rule 14 = .ok (.ifCond .ne 5, 3) := by decide +kernel
theorem dX10_rule_17 : decode cX10_rule 17 = .ok (.iconst (-1), 1) := by decide +kernel
theorem dX10_rule_18 : decode cX10_rule 18 = .ok (.ireturn, 1) := by decide +kernel
theorem dX10_rule_19 : decode cX10_rule 19 = .ok (.aload_n 0, 1) := by decide +kernel
theorem dX10_rule_20 : decode cX10_rule 20 = .ok (.getfield 33, 3) := by decide +kernel
theorem dX10_rule_23 : decode cX10_rule 23 = .ok (.getfield 169, 3) := by decide +kernel
theorem dX10_rule_26 : decode cX10_rule 26 = .ok (.iload_n 1, 1) := by decide +kernel
theorem dX10_rule_27 : decode cX10_rule 27 = .ok (.iaload, 1) := by decide +kernel
theorem dX10_rule_28 : decode cX10_rule 28 = .ok (.istore_n 3, 1) := by decide +kernel
theorem dX10_rule_29 : decode cX10_rule 29 = .ok (.iload_n 2, 1) := by decide +kernel
theorem dX10_rule_30 : decode cX10_rule 30 = .ok (.tableswitch 96 0 5 #[38, 43, 48, 53, 62, 72], 38) := by decide +kernel
theorem dX10_rule_68 : decode cX10_rule 68 = .ok (.iload_n 3, 1) := by decide +kernel
theorem dX10_rule_69 : decode cX10_rule 69 = .ok (.invokestatic 172, 3) := by decide +kernel
theorem dX10_rule_72 : decode cX10_rule 72 = .ok (.ireturn, 1) := by decide +kernel
theorem dX10_rule_73 : decode cX10_rule 73 = .ok (.iload_n 3, 1) := by decide +kernel
theorem dX10_rule_74 : decode cX10_rule 74 = .ok (.invokestatic 175, 3) := by decide +kernel
theorem dX10_rule_77 : decode cX10_rule 77 = .ok (.ireturn, 1) := by decide +kernel
theorem dX10_rule_78 : decode cX10_rule 78 = .ok (.iload_n 3, 1) := by decide +kernel
theorem dX10_rule_79 : decode cX10_rule 79 = .ok (.invokestatic 178, 3) := by decide +kernel
theorem dX10_rule_82 : decode cX10_rule 82 = .ok (.ireturn, 1) := by decide +kernel
theorem dX10_rule_83 : decode cX10_rule 83 = .ok (.aload_n 0, 1) := by decide +kernel
theorem dX10_rule_84 : decode cX10_rule 84 = .ok (.getfield 33, 3) := by decide +kernel
theorem dX10_rule_87 : decode cX10_rule 87 = .ok (.iload_n 3, 1) := by decide +kernel
theorem dX10_rule_88 : decode cX10_rule 88 = .ok (.invokevirtual 181, 3) := by decide +kernel
theorem dX10_rule_91 : decode cX10_rule 91 = .ok (.ireturn, 1) := by decide +kernel
theorem dX10_rule_92 : decode cX10_rule 92 = .ok (.aload_n 0, 1) := by decide +kernel
theorem dX10_rule_93 : decode cX10_rule 93 = .ok (.getfield 33, 3) := by decide +kernel
theorem dX10_rule_96 : decode cX10_rule 96 = .ok (.iload_n 3, 1) := by decide +kernel
theorem dX10_rule_97 : decode cX10_rule 97 = .ok (.iconst 0, 1) := by decide +kernel
theorem dX10_rule_98 : decode cX10_rule 98 = .ok (.invokevirtual 184, 3) := by decide +kernel
theorem dX10_rule_101 : decode cX10_rule 101 = .ok (.ireturn, 1) := by decide +kernel
theorem dX10_rule_102 : decode cX10_rule 102 = .ok (.aload_n 0, 1) := by decide +kernel
theorem dX10_rule_103 : decode cX10_rule 103 = .ok (.getfield 33, 3) := by decide +kernel
theorem dX10_rule_106 : decode cX10_rule 106 = .ok (.iload_n 3, 1) := by decide +kernel
theorem dX10_rule_107 : decode cX10_rule 107 = .ok (.aload_n 0, 1) := by decide +kernel
theorem dX10_rule_108 : decode cX10_rule 108 = .ok (.getfield 10, 3) := by decide +kernel
theorem dX10_rule_111 : decode cX10_rule 111 = .ok (.getfield 94, 3) := by decide +kernel
theorem dX10_rule_114 : decode cX10_rule 114 = .ok (.invokevirtual 187, 3) := by decide +kernel
theorem dX10_rule_117 : decode cX10_rule 117 = .ok (.ifCond .eq 7, 3) := by decide +kernel
theorem dX10_rule_120 : decode cX10_rule 120 = .ok (.iconst 0, 1) := by decide +kernel
theorem dX10_rule_121 : decode cX10_rule 121 = .ok (.goto 4, 3) := by decide +kernel
theorem dX10_rule_124 : decode cX10_rule 124 = .ok (.iconst 1, 1) := by decide +kernel
theorem dX10_rule_125 : decode cX10_rule 125 = .ok (.ireturn, 1) := by decide +kernel
theorem dX10_rule_126 : decode cX10_rule 126 = .ok (.iconst (-1), 1) := by decide +kernel
theorem dX10_rule_127 : decode cX10_rule 127 = .ok (.ireturn, 1) := by decide +kernel
theorem dX10_lets_0 : decode cX10_lets 0 = .ok (.aload_n 0, 1) := by decide +kernel
theorem dX10_lets_1 : decode cX10_lets 1 = .ok (.getfield 10, 3) := by decide +kernel
theorem dX10_lets_4 : decode cX10_lets 4 = .ok (.iload_n 1, 1) := by decide +kernel
theorem dX10_lets_5 : decode cX10_lets 5 = .ok (.iload_n 2, 1) := by decide +kernel
theorem dX10_lets_6 : decode cX10_lets 6 = .ok (.iload_n 3, 1) := by decide +kernel
theorem dX10_lets_7 : decode cX10_lets 7 = .ok (.invokevirtual 80, 3) := by decide +kernel
theorem dX10_lets_10 : decode cX10_lets 10 = .ok (.ifCond .eq 18, 3) := by decide +kernel
theorem dX10_lets_13 : decode cX10_lets 13 = .ok (.aload_n 0, 1) := by decide +kernel
theorem dX10_lets_14 : decode cX10_lets 14 = .ok (.getfield 33, 3) := by decide +kernel
theorem dX10_lets_17 : decode cX10_lets 17 = .ok (.getfield 157, 3) := by decide +kernel
theorem dX10_lets_20 : decode cX10_lets 20 = .ok (.iload_n 1, 1) := by decide +kernel
theorem dX10_lets_21 : decode cX10_lets 21 = .ok (.iload_n 2, 1) := by decide +kernel
theorem dX10_lets_22 : decode cX10_lets 22 = .ok (.invokevirtual 191, 3) := by decide +kernel
theorem dX10_lets_25 : decode cX10_lets 25 = .ok (.ifCond .ne 5, 3) := by decide +kernel
theorem dX10_lets_28 : decode cX10_lets 28 = .ok (.iconst (-1), 1) := by decide +kernel
theorem dX10_lets_29 : decode cX10_lets 29 = .ok (.ireturn, 1) := by decide +kernel
theorem dX10_lets_30 : decode cX10_lets 30 = .ok (.aload_n 0, 1) := by decide +kernel
theorem dX10_lets_31 : decode cX10_lets 31 = .ok (.getfield 33, 3) := by decide +kernel
theorem dX10_lets_34 : decode cX10_lets 34 = .ok (.getfield 157, 3) := by decide +kernel
theorem dX10_lets_37 : decode cX10_lets 37 = .ok (.iload_n 1, 1) := by decide +kernel
theorem dX10_lets_38 : decode cX10_lets 38 = .ok (.iload_n 2, 1) := by decide +kernel
theorem dX10_lets_39 : decode cX10_lets 39 = .ok (.iload_n 3, 1) := by decide +kernel
theorem dX10_lets_40 : decode cX10_lets 40 = .ok (.invokevirtual 195, 3) := by decide +kernel
theorem dX10_lets_43 : decode cX10_lets 43 = .ok (.ifCond .ne 5, 3) := by decide +kernel
theorem dX10_lets_46 : decode cX10_lets 46 = .ok (.iconst 0, 1) := by decide +kernel
theorem dX10_lets_47 : decode cX10_lets 47 = .ok (.ireturn, 1) := by decide +kernel
theorem dX10_lets_48 : decode cX10_lets 48 = .ok (.aload_n 0, 1) := by decide +kernel
theorem dX10_lets_49 : decode cX10_lets 49 = .ok (.getfield 33, 3) := by decide +kernel
theorem dX10_lets_52 : decode cX10_lets 52 = .ok (.getfield 157, 3) := by decide +kernel
theorem dX10_lets_55 : decode cX10_lets 55 = .ok (.getfield 161, 3) := by decide +kernel
theorem dX10_lets_58 : decode cX10_lets 58 = .ok (.iload_n 1, 1) := by decide +kernel
theorem dX10_lets_59 : decode cX10_lets 59 = .ok (.iaload, 1) := by decide +kernel
theorem dX10_lets_60 : decode cX10_lets 60 = .ok (.aload_n 0, 1) := by decide +kernel
theorem dX10_lets_61 : decode cX10_lets 61 = .ok (.getfield 33, 3) := by decide +kernel
theorem dX10_lets_64 : decode cX10_lets 64 = .ok (.getfield 157, 3) := by decide +kernel
theorem dX10_lets_67 : decode cX10_lets 67 = .ok (.getfield 161, 3) := by decide +kernel
theorem dX10_lets_70 : decode cX10_lets 70 = .ok (.iload_n 2, 1) := by decide +kernel
theorem dX10_lets_71 : decode cX10_lets 71 = .ok (.iaload, 1) := by decide +kernel
theorem dX10_lets_72 : decode cX10_lets 72 = .ok (.if_icmp .ne 7, 3) := by decide +kernel
theorem dX10_lets_75 : decode cX10_lets 75 = .ok (.iconst 1, 1) := by decide +kernel
theorem dX10_lets_76 : decode cX10_lets 76 = .ok (.goto 4, 3) := by decide +kernel
theorem dX10_lets_79 : decode cX10_lets 79 = .ok (.iconst 2, 1) := by decide +kernel
theorem dX10_lets_80 : decode cX10_lets 80 = .ok (.ireturn, 1) := by decide +kernel
theorem dX10_reach_0 : decode cX10_reach 0 = .ok (.aload_n 0, 1) := by decide +kernel
theorem dX10_reach_1 : decode cX10_reach 1 = .ok (.getfield 10, 3) := by decide +kernel
theorem dX10_reach_4 : decode cX10_reach 4 = .ok (.iload_n 1, 1) := by decide +kernel
theorem dX10_reach_5 : decode cX10_reach 5 = .ok (.invokevirtual 154, 3) := by decide +kernel
theorem dX10_reach_8 : decode cX10_reach 8 = .ok (.ifCond .eq 19, 3) := by decide +kernel
theorem dX10_reach_11 : decode cX10_reach 11 = .ok (.aload_n 0, 1) := by decide +kernel
theorem dX10_reach_12 : decode cX10_reach 12 = .ok (.getfield 33, 3) := by decide +kernel
theorem dX10_reach_15 : decode cX10_reach 15 = .ok (.getfield 157, 3) := by decide +kernel
theorem dX10_reach_18 : decode cX10_reach 18 = .ok (.getfield 161, 3) := by decide +kernel
theorem dX10_reach_21 : decode cX10_reach 21 = .ok (.iload_n 1, 1) := by decide +kernel
theorem dX10_reach_22 : decode cX10_reach 22 = .ok (.iaload, 1) := by decide +kernel
theorem dX10_reach_23 : decode cX10_reach 23 = .ok (.iconst (-1), 1) := by decide +kernel
theorem dX10_reach_24 : decode cX10_reach 24 = .ok (.if_icmp .ne 5, 3) := by decide +kernel
theorem dX10_reach_27 : decode cX10_reach 27 = .ok (.iconst (-1), 1) := by decide +kernel
theorem dX10_reach_28 : decode cX10_reach 28 = .ok (.ireturn, 1) := by decide +kernel
theorem dX10_reach_29 : decode cX10_reach 29 = .ok (.aload_n 0, 1) := by decide +kernel
theorem dX10_reach_30 : decode cX10_reach 30 = .ok (.getfield 54, 3) := by decide +kernel
theorem dX10_reach_33 : decode cX10_reach 33 = .ok (.aload_n 0, 1) := by decide +kernel
theorem dX10_reach_34 : decode cX10_reach 34 = .ok (.getfield 33, 3) := by decide +kernel
theorem dX10_reach_37 : decode cX10_reach 37 = .ok (.invokevirtual 198, 3) := by decide +kernel
theorem dX10_reach_40 : decode cX10_reach 40 = .ok (.aload_n 0, 1) := by decide +kernel
theorem dX10_reach_41 : decode cX10_reach 41 = .ok (.getfield 54, 3) := by decide +kernel
theorem dX10_reach_44 : decode cX10_reach 44 = .ok (.aload_n 0, 1) := by decide +kernel
theorem dX10_reach_45 : decode cX10_reach 45 = .ok (.getfield 33, 3) := by decide +kernel
theorem dX10_reach_48 : decode cX10_reach 48 = .ok (.getfield 157, 3) := by decide +kernel
theorem dX10_reach_51 : decode cX10_reach 51 = .ok (.getfield 161, 3) := by decide +kernel
theorem dX10_reach_54 : decode cX10_reach 54 = .ok (.iload_n 1, 1) := by decide +kernel
theorem dX10_reach_55 : decode cX10_reach 55 = .ok (.iaload, 1) := by decide +kernel
theorem dX10_reach_56 : decode cX10_reach 56 = .ok (.invokevirtual 202, 3) := by decide +kernel
theorem dX10_reach_59 : decode cX10_reach 59 = .ok (.ireturn, 1) := by decide +kernel
theorem dX10_spread_0 : decode cX10_spread 0 = .ok (.aload_n 0, 1) := by decide +kernel
theorem dX10_spread_1 : decode cX10_spread 1 = .ok (.getfield 33, 3) := by decide +kernel
theorem dX10_spread_4 : decode cX10_spread 4 = .ok (.getfield 205, 3) := by decide +kernel
theorem dX10_spread_7 : decode cX10_spread 7 = .ok (.ifCond .eq 12, 3) := by decide +kernel
theorem dX10_spread_10 : decode cX10_spread 10 = .ok (.iload_n 1, 1) := by decide +kernel
theorem dX10_spread_11 : decode cX10_spread 11 = .ok (.iconst 0, 1) := by decide +kernel
theorem dX10_spread_12 : decode cX10_spread 12 = .ok (.iconst 1, 1) := by decide +kernel
theorem dX10_spread_13 : decode cX10_spread 13 = .ok (.invokestatic 72, 3) := by decide +kernel
theorem dX10_spread_16 : decode cX10_spread 16 = .ok (.ifCond .ne 5, 3) := by decide +kernel
theorem dX10_spread_19 : decode cX10_spread 19 = .ok (.iconst (-1), 1) := by decide +kernel
theorem dX10_spread_20 : decode cX10_spread 20 = .ok (.ireturn, 1) := by decide +kernel
theorem dX10_spread_21 : decode cX10_spread 21 = .ok (.aload_n 0, 1) := by decide +kernel
theorem dX10_spread_22 : decode cX10_spread 22 = .ok (.getfield 54, 3) := by decide +kernel
theorem dX10_spread_25 : decode cX10_spread 25 = .ok (.aload_n 0, 1) := by decide +kernel
theorem dX10_spread_26 : decode cX10_spread 26 = .ok (.getfield 33, 3) := by decide +kernel
theorem dX10_spread_29 : decode cX10_spread 29 = .ok (.invokevirtual 198, 3) := by decide +kernel
theorem dX10_spread_32 : decode cX10_spread 32 = .ok (.aload_n 0, 1) := by decide +kernel
theorem dX10_spread_33 : decode cX10_spread 33 = .ok (.getfield 54, 3) := by decide +kernel
theorem dX10_spread_36 : decode cX10_spread 36 = .ok (.invokevirtual 208, 3) := by decide +kernel
theorem dX10_spread_39 : decode cX10_spread 39 = .ok (.istore_n 2, 1) := by decide +kernel
theorem dX10_spread_40 : decode cX10_spread 40 = .ok (.iload_n 1, 1) := by decide +kernel
theorem dX10_spread_41 : decode cX10_spread 41 = .ok (.ifCond .ne 7, 3) := by decide +kernel
theorem dX10_spread_44 : decode cX10_spread 44 = .ok (.iload_n 2, 1) := by decide +kernel
theorem dX10_spread_45 : decode cX10_spread 45 = .ok (.goto 18, 3) := by decide +kernel
theorem dX10_spread_48 : decode cX10_spread 48 = .ok (.aload_n 0, 1) := by decide +kernel
theorem dX10_spread_49 : decode cX10_spread 49 = .ok (.getfield 54, 3) := by decide +kernel
theorem dX10_spread_52 : decode cX10_spread 52 = .ok (.iload_n 2, 1) := by decide +kernel
theorem dX10_spread_53 : decode cX10_spread 53 = .ok (.aload_n 0, 1) := by decide +kernel
theorem dX10_spread_54 : decode cX10_spread 54 = .ok (.getfield 33, 3) := by decide +kernel
theorem dX10_spread_57 : decode cX10_spread 57 = .ok (.getfield 157, 3) := by decide +kernel
theorem dX10_spread_60 : decode cX10_spread 60 = .ok (.invokevirtual 212, 3) := by decide +kernel
theorem dX10_spread_63 : decode cX10_spread 63 = .ok (.ireturn, 1) := by decide +kernel
theorem dX10_shut_0 : decode cX10_shut 0 = .ok (.aload_n 0, 1) := by decide +kernel
theorem dX10_shut_1 : decode cX10_shut 1 = .ok (.getfield 33, 3) := by decide +kernel
theorem dX10_shut_4 : decode cX10_shut 4 = .ok (.getfield 205, 3) := by decide +kernel
theorem dX10_shut_7 : decode cX10_shut 7 = .ok (.ifCond .eq 13, 3) := by decide +kernel
theorem dX10_shut_10 : decode cX10_shut 10 = .ok (.iload_n 1, 1) := by decide +kernel
theorem dX10_shut_11 : decode cX10_shut 11 = .ok (.iconst 0, 1) := by decide +kernel
theorem dX10_shut_12 : decode cX10_shut 12 = .ok (.bipush 8, 2) := by decide +kernel
theorem dX10_shut_14 : decode cX10_shut 14 = .ok (.invokestatic 72, 3) := by decide +kernel
theorem dX10_shut_17 : decode cX10_shut 17 = .ok (.ifCond .ne 5, 3) := by decide +kernel
theorem dX10_shut_20 : decode cX10_shut 20 = .ok (.iconst (-1), 1) := by decide +kernel
theorem dX10_shut_21 : decode cX10_shut 21 = .ok (.ireturn, 1) := by decide +kernel
theorem dX10_shut_22 : decode cX10_shut 22 = .ok (.aload_n 0, 1) := by decide +kernel
theorem dX10_shut_23 : decode cX10_shut 23 = .ok (.getfield 61, 3) := by decide +kernel
theorem dX10_shut_26 : decode cX10_shut 26 = .ok (.aload_n 0, 1) := by decide +kernel
theorem dX10_shut_27 : decode cX10_shut 27 = .ok (.getfield 33, 3) := by decide +kernel
theorem dX10_shut_30 : decode cX10_shut 30 = .ok (.aload_n 0, 1) := by decide +kernel
theorem dX10_shut_31 : decode cX10_shut 31 = .ok (.getfield 10, 3) := by decide +kernel
theorem dX10_shut_34 : decode cX10_shut 34 = .ok (.getfield 94, 3) := by decide +kernel
theorem dX10_shut_37 : decode cX10_shut 37 = .ok (.iload_n 1, 1) := by decide +kernel
theorem dX10_shut_38 : decode cX10_shut 38 = .ok (.invokevirtual 216, 3) := by decide +kernel
theorem dX10_shut_41 : decode cX10_shut 41 = .ok (.ireturn, 1) := by decide +kernel
theorem dX10_shutting_0 : decode cX10_shutting 0 = .ok (.iload_n 1, 1) := by decide +kernel
theorem dX10_shutting_1 : decode cX10_shutting 1 = .ok (.iconst 0, 1) := by decide +kernel
theorem dX10_shutting_2 : decode cX10_shutting 2 = .ok (.aload_n 0, 1) := by decide +kernel
theorem dX10_shutting_3 : decode cX10_shutting 3 = .ok (.getfield 61, 3) := by decide +kernel
theorem dX10_shutting_6 : decode cX10_shutting 6 = .ok (.getfield 220, 3) := by decide +kernel
theorem dX10_shutting_9 : decode cX10_shutting 9 = .ok (.iconst 1, 1) := by decide +kernel
theorem dX10_shutting_10 : decode cX10_shutting 10 = .ok (.isub, 1) := by decide +kernel
theorem dX10_shutting_11 : decode cX10_shutting 11 = .ok (.invokestatic 72, 3) := by decide +kernel
theorem dX10_shutting_14 : decode cX10_shutting 14 = .ok (.ifCond .eq 15, 3) := by decide +kernel
theorem dX10_shutting_17 : decode cX10_shutting 17 = .ok (.aload_n 0, 1) := by decide +kernel
theorem dX10_shutting_18 : decode cX10_shutting 18 = .ok (.getfield 61, 3) := by decide +kernel
theorem dX10_shutting_21 : decode cX10_shutting 21 = .ok (.getfield 223, 3) := by decide +kernel
theorem dX10_shutting_24 : decode cX10_shutting 24 = .ok (.iload_n 1, 1) := by decide +kernel
theorem dX10_shutting_25 : decode cX10_shutting 25 = .ok (.iaload, 1) := by decide +kernel
theorem dX10_shutting_26 : decode cX10_shutting 26 = .ok (.goto 4, 3) := by decide +kernel
theorem dX10_shutting_29 : decode cX10_shutting 29 = .ok (.iconst (-1), 1) := by decide +kernel
theorem dX10_shutting_30 : decode cX10_shutting 30 = .ok (.ireturn, 1) := by decide +kernel
theorem dX10_odd_0 : decode cX10_odd 0 = .ok (.aload_n 0, 1) := by decide +kernel
theorem dX10_odd_1 : decode cX10_odd 1 = .ok (.getfield 33, 3) := by decide +kernel
theorem dX10_odd_4 : decode cX10_odd 4 = .ok (.getfield 205, 3) := by decide +kernel
theorem dX10_odd_7 : decode cX10_odd 7 = .ok (.ifCond .eq 10, 3) := by decide +kernel
theorem dX10_odd_10 : decode cX10_odd 10 = .ok (.iload_n 1, 1) := by decide +kernel
theorem dX10_odd_11 : decode cX10_odd 11 = .ok (.invokestatic 83, 3) := by decide +kernel
theorem dX10_odd_14 : decode cX10_odd 14 = .ok (.ifCond .ne 5, 3) := by decide +kernel
theorem dX10_odd_17 : decode cX10_odd 17 = .ok (.iconst (-1), 1) := by decide +kernel
theorem dX10_odd_18 : decode cX10_odd 18 = .ok (.ireturn, 1) := by decide +kernel
theorem dX10_odd_19 : decode cX10_odd 19 = .ok (.aload_n 0, 1) := by decide +kernel
theorem dX10_odd_20 : decode cX10_odd 20 = .ok (.getfield 68, 3) := by decide +kernel
theorem dX10_odd_23 : decode cX10_odd 23 = .ok (.aload_n 0, 1) := by decide +kernel
theorem dX10_odd_24 : decode cX10_odd 24 = .ok (.getfield 26, 3) := by decide +kernel
theorem dX10_odd_27 : decode cX10_odd 27 = .ok (.aload_n 0, 1) := by decide +kernel
theorem dX10_odd_28 : decode cX10_odd 28 = .ok (.getfield 33, 3) := by decide +kernel
theorem dX10_odd_31 : decode cX10_odd 31 = .ok (.getfield 157, 3) := by decide +kernel
theorem dX10_odd_34 : decode cX10_odd 34 = .ok (.iload_n 1, 1) := by decide +kernel
theorem dX10_odd_35 : decode cX10_odd 35 = .ok (.invokevirtual 226, 3) := by decide +kernel
theorem dX10_odd_38 : decode cX10_odd 38 = .ok (.aload_n 0, 1) := by decide +kernel
theorem dX10_odd_39 : decode cX10_odd 39 = .ok (.getfield 68, 3) := by decide +kernel
theorem dX10_odd_42 : decode cX10_odd 42 = .ok (.getfield 230, 3) := by decide +kernel
theorem dX10_odd_45 : decode cX10_odd 45 = .ok (.ireturn, 1) := by decide +kernel
theorem dX10_oddTalk_0 : decode cX10_oddTalk 0 = .ok (.iload_n 1, 1) := by decide +kernel
theorem dX10_oddTalk_1 : decode cX10_oddTalk 1 = .ok (.iconst 0, 1) := by decide +kernel
theorem dX10_oddTalk_2 : decode cX10_oddTalk 2 = .ok (.aload_n 0, 1) := by decide +kernel
theorem dX10_oddTalk_3 : decode cX10_oddTalk 3 = .ok (.getfield 68, 3) := by decide +kernel
theorem dX10_oddTalk_6 : decode cX10_oddTalk 6 = .ok (.getfield 230, 3) := by decide +kernel
theorem dX10_oddTalk_9 : decode cX10_oddTalk 9 = .ok (.iconst 1, 1) := by decide +kernel
theorem dX10_oddTalk_10 : decode cX10_oddTalk 10 = .ok (.isub, 1) := by decide +kernel
theorem dX10_oddTalk_11 : decode cX10_oddTalk 11 = .ok (.invokestatic 72, 3) := by decide +kernel
theorem dX10_oddTalk_14 : decode cX10_oddTalk 14 = .ok (.ifCond .ne 5, 3) := by decide +kernel
theorem dX10_oddTalk_17 : decode cX10_oddTalk 17 = .ok (.iconst (-1), 1) := by decide +kernel
theorem dX10_oddTalk_18 : decode cX10_oddTalk 18 = .ok (.ireturn, 1) := by decide +kernel
theorem dX10_oddTalk_19 : decode cX10_oddTalk 19 = .ok (.aload_n 0, 1) := by decide +kernel
theorem dX10_oddTalk_20 : decode cX10_oddTalk 20 = .ok (.getfield 68, 3) := by decide +kernel
theorem dX10_oddTalk_23 : decode cX10_oddTalk 23 = .ok (.getfield 233, 3) := by decide +kernel
theorem dX10_oddTalk_26 : decode cX10_oddTalk 26 = .ok (.iload_n 1, 1) := by decide +kernel
theorem dX10_oddTalk_27 : decode cX10_oddTalk 27 = .ok (.iaload, 1) := by decide +kernel
theorem dX10_oddTalk_28 : decode cX10_oddTalk 28 = .ok (.istore_n 3, 1) := by decide +kernel
theorem dX10_oddTalk_29 : decode cX10_oddTalk 29 = .ok (.iload_n 2, 1) := by decide +kernel
theorem dX10_oddTalk_30 : decode cX10_oddTalk 30 = .ok (.tableswitch 93 0 4 #[34, 47, 60, 73, 83], 34) := by decide +kernel
theorem dX10_oddTalk_64 : decode cX10_oddTalk 64 = .ok (.aload_n 0, 1) := by decide +kernel
theorem dX10_oddTalk_65 : decode cX10_oddTalk 65 = .ok (.getfield 26, 3) := by decide +kernel
theorem dX10_oddTalk_68 : decode cX10_oddTalk 68 = .ok (.getfield 236, 3) := by decide +kernel
theorem dX10_oddTalk_71 : decode cX10_oddTalk 71 = .ok (.iload_n 3, 1) := by decide +kernel
theorem dX10_oddTalk_72 : decode cX10_oddTalk 72 = .ok (.iaload, 1) := by decide +kernel
theorem dX10_oddTalk_73 : decode cX10_oddTalk 73 = .ok (.invokestatic 172, 3) := by decide +kernel
theorem dX10_oddTalk_76 : decode cX10_oddTalk 76 = .ok (.ireturn, 1) := by decide +kernel
theorem dX10_oddTalk_77 : decode cX10_oddTalk 77 = .ok (.aload_n 0, 1) := by decide +kernel
theorem dX10_oddTalk_78 : decode cX10_oddTalk 78 = .ok (.getfield 26, 3) := by decide +kernel
theorem dX10_oddTalk_81 : decode cX10_oddTalk 81 = .ok (.getfield 236, 3) := by decide +kernel
theorem dX10_oddTalk_84 : decode cX10_oddTalk 84 = .ok (.iload_n 3, 1) := by decide +kernel
theorem dX10_oddTalk_85 : decode cX10_oddTalk 85 = .ok (.iaload, 1) := by decide +kernel
theorem dX10_oddTalk_86 : decode cX10_oddTalk 86 = .ok (.invokestatic 175, 3) := by decide +kernel
theorem dX10_oddTalk_89 : decode cX10_oddTalk 89 = .ok (.ireturn, 1) := by decide +kernel
theorem dX10_oddTalk_90 : decode cX10_oddTalk 90 = .ok (.aload_n 0, 1) := by decide +kernel
theorem dX10_oddTalk_91 : decode cX10_oddTalk 91 = .ok (.getfield 26, 3) := by decide +kernel
theorem dX10_oddTalk_94 : decode cX10_oddTalk 94 = .ok (.getfield 236, 3) := by decide +kernel
theorem dX10_oddTalk_97 : decode cX10_oddTalk 97 = .ok (.iload_n 3, 1) := by decide +kernel
theorem dX10_oddTalk_98 : decode cX10_oddTalk 98 = .ok (.iaload, 1) := by decide +kernel
theorem dX10_oddTalk_99 : decode cX10_oddTalk 99 = .ok (.invokestatic 178, 3) := by decide +kernel
theorem dX10_oddTalk_102 : decode cX10_oddTalk 102 = .ok (.ireturn, 1) := by decide +kernel
theorem dX10_oddTalk_103 : decode cX10_oddTalk 103 = .ok (.aload_n 0, 1) := by decide +kernel
theorem dX10_oddTalk_104 : decode cX10_oddTalk 104 = .ok (.getfield 26, 3) := by decide +kernel
theorem dX10_oddTalk_107 : decode cX10_oddTalk 107 = .ok (.getfield 239, 3) := by decide +kernel
theorem dX10_oddTalk_110 : decode cX10_oddTalk 110 = .ok (.iload_n 3, 1) := by decide +kernel
theorem dX10_oddTalk_111 : decode cX10_oddTalk 111 = .ok (.iaload, 1) := by decide +kernel
theorem dX10_oddTalk_112 : decode cX10_oddTalk 112 = .ok (.ireturn, 1) := by decide +kernel
theorem dX10_oddTalk_113 : decode cX10_oddTalk 113 = .ok (.aload_n 0, 1) := by decide +kernel
theorem dX10_oddTalk_114 : decode cX10_oddTalk 114 = .ok (.getfield 68, 3) := by decide +kernel
theorem dX10_oddTalk_117 : decode cX10_oddTalk 117 = .ok (.getfield 242, 3) := by decide +kernel
theorem dX10_oddTalk_120 : decode cX10_oddTalk 120 = .ok (.iload_n 1, 1) := by decide +kernel
theorem dX10_oddTalk_121 : decode cX10_oddTalk 121 = .ok (.iaload, 1) := by decide +kernel
theorem dX10_oddTalk_122 : decode cX10_oddTalk 122 = .ok (.ireturn, 1) := by decide +kernel
theorem dX10_oddTalk_123 : decode cX10_oddTalk 123 = .ok (.iconst (-1), 1) := by decide +kernel
theorem dX10_oddTalk_124 : decode cX10_oddTalk 124 = .ok (.ireturn, 1) := by decide +kernel
theorem dX10_place_0 : decode cX10_place 0 = .ok (.aload_n 0, 1) := by decide +kernel
theorem dX10_place_1 : decode cX10_place 1 = .ok (.getfield 10, 3) := by decide +kernel
theorem dX10_place_4 : decode cX10_place 4 = .ok (.iload_n 1, 1) := by decide +kernel
theorem dX10_place_5 : decode cX10_place 5 = .ok (.invokevirtual 154, 3) := by decide +kernel
theorem dX10_place_8 : decode cX10_place 8 = .ok (.ifCond .eq 36, 3) := by decide +kernel
theorem dX10_place_11 : decode cX10_place 11 = .ok (.iload_n 2, 1) := by decide +kernel
theorem dX10_place_12 : decode cX10_place 12 = .ok (.invokestatic 83, 3) := by decide +kernel
theorem dX10_place_15 : decode cX10_place 15 = .ok (.ifCond .eq 29, 3) := by decide +kernel
theorem dX10_place_18 : decode cX10_place 18 = .ok (.aload_n 0, 1) := by decide +kernel
theorem dX10_place_19 : decode cX10_place 19 = .ok (.getfield 33, 3) := by decide +kernel
theorem dX10_place_22 : decode cX10_place 22 = .ok (.getfield 205, 3) := by decide +kernel
theorem dX10_place_25 : decode cX10_place 25 = .ok (.ifCond .eq 19, 3) := by decide +kernel
theorem dX10_place_28 : decode cX10_place 28 = .ok (.aload_n 0, 1) := by decide +kernel
theorem dX10_place_29 : decode cX10_place 29 = .ok (.getfield 33, 3) := by decide +kernel
theorem dX10_place_32 : decode cX10_place 32 = .ok (.getfield 157, 3) := by decide +kernel
theorem dX10_place_35 : decode cX10_place 35 = .ok (.getfield 161, 3) := by decide +kernel
theorem dX10_place_38 : decode cX10_place 38 = .ok (.iload_n 1, 1) := by decide +kernel
theorem dX10_place_39 : decode cX10_place 39 = .ok (.iaload, 1) := by decide +kernel
theorem dX10_place_40 : decode cX10_place 40 = .ok (.iconst (-1), 1) := by decide +kernel
theorem dX10_place_41 : decode cX10_place 41 = .ok (.if_icmp .eq 5, 3) := by decide +kernel
theorem dX10_place_44 : decode cX10_place 44 = .ok (.iconst (-1), 1) := by decide +kernel
theorem dX10_place_45 : decode cX10_place 45 = .ok (.ireturn, 1) := by decide +kernel
theorem dX10_place_46 : decode cX10_place 46 = .ok (.aload_n 0, 1) := by decide +kernel
theorem dX10_place_47 : decode cX10_place 47 = .ok (.getfield 40, 3) := by decide +kernel
theorem dX10_place_50 : decode cX10_place 50 = .ok (.aload_n 0, 1) := by decide +kernel
theorem dX10_place_51 : decode cX10_place 51 = .ok (.getfield 10, 3) := by decide +kernel
theorem dX10_place_54 : decode cX10_place 54 = .ok (.aload_n 0, 1) := by decide +kernel
theorem dX10_place_55 : decode cX10_place 55 = .ok (.getfield 19, 3) := by decide +kernel
theorem dX10_place_58 : decode cX10_place 58 = .ok (.aload_n 0, 1) := by decide +kernel
theorem dX10_place_59 : decode cX10_place 59 = .ok (.getfield 26, 3) := by decide +kernel
theorem dX10_place_62 : decode cX10_place 62 = .ok (.iload_n 2, 1) := by decide +kernel
theorem dX10_place_63 : decode cX10_place 63 = .ok (.invokevirtual 136, 3) := by decide +kernel
theorem dX10_place_66 : decode cX10_place 66 = .ok (.aload_n 0, 1) := by decide +kernel
theorem dX10_place_67 : decode cX10_place 67 = .ok (.getfield 47, 3) := by decide +kernel
theorem dX10_place_70 : decode cX10_place 70 = .ok (.iload_n 1, 1) := by decide +kernel
theorem dX10_place_71 : decode cX10_place 71 = .ok (.aload_n 0, 1) := by decide +kernel
theorem dX10_place_72 : decode cX10_place 72 = .ok (.getfield 33, 3) := by decide +kernel
theorem dX10_place_75 : decode cX10_place 75 = .ok (.aload_n 0, 1) := by decide +kernel
theorem dX10_place_76 : decode cX10_place 76 = .ok (.getfield 10, 3) := by decide +kernel
theorem dX10_place_79 : decode cX10_place 79 = .ok (.aload_n 0, 1) := by decide +kernel
theorem dX10_place_80 : decode cX10_place 80 = .ok (.getfield 19, 3) := by decide +kernel
theorem dX10_place_83 : decode cX10_place 83 = .ok (.aload_n 0, 1) := by decide +kernel
theorem dX10_place_84 : decode cX10_place 84 = .ok (.getfield 40, 3) := by decide +kernel
theorem dX10_place_87 : decode cX10_place 87 = .ok (.invokevirtual 245, 3) := by decide +kernel
theorem dX10_place_90 : decode cX10_place 90 = .ok (.istore_n 3, 1) := by decide +kernel
theorem dX10_place_91 : decode cX10_place 91 = .ok (.iload_n 3, 1) := by decide +kernel
theorem dX10_place_92 : decode cX10_place 92 = .ok (.iconst (-1), 1) := by decide +kernel
theorem dX10_place_93 : decode cX10_place 93 = .ok (.if_icmp .eq 29, 3) := by decide +kernel
theorem dX10_place_96 : decode cX10_place 96 = .ok (.aload_n 0, 1) := by decide +kernel
theorem dX10_place_97 : decode cX10_place 97 = .ok (.getfield 33, 3) := by decide +kernel
theorem dX10_place_100 : decode cX10_place 100 = .ok (.aload_n 0, 1) := by decide +kernel
theorem dX10_place_101 : decode cX10_place 101 = .ok (.getfield 47, 3) := by decide +kernel
theorem dX10_place_104 : decode cX10_place 104 = .ok (.getfield 144, 3) := by decide +kernel
theorem dX10_place_107 : decode cX10_place 107 = .ok (.aload_n 0, 1) := by decide +kernel
theorem dX10_place_108 : decode cX10_place 108 = .ok (.getfield 40, 3) := by decide +kernel
theorem dX10_place_111 : decode cX10_place 111 = .ok (.aload_n 0, 1) := by decide +kernel
theorem dX10_place_112 : decode cX10_place 112 = .ok (.getfield 10, 3) := by decide +kernel
theorem dX10_place_115 : decode cX10_place 115 = .ok (.aload_n 0, 1) := by decide +kernel
theorem dX10_place_116 : decode cX10_place 116 = .ok (.getfield 19, 3) := by decide +kernel
theorem dX10_place_119 : decode cX10_place 119 = .ok (.invokevirtual 147, 3) := by decide +kernel
theorem dX10_place_122 : decode cX10_place 122 = .ok (.iload_n 3, 1) := by decide +kernel
theorem dX10_place_123 : decode cX10_place 123 = .ok (.ireturn, 1) := by decide +kernel
theorem dX10_count_0 : decode cX10_count 0 = .ok (.iload_n 1, 1) := by decide +kernel
theorem dX10_count_1 : decode cX10_count 1 = .ok (.tableswitch 107 0 5 #[39, 47, 55, 66, 74, 85], 39) := by decide +kernel
theorem dX10_count_40 : decode cX10_count 40 = .ok (.aload_n 0, 1) := by decide +kernel
theorem dX10_count_41 : decode cX10_count 41 = .ok (.getfield 10, 3) := by decide +kernel
theorem dX10_count_44 : decode cX10_count 44 = .ok (.getfield 133, 3) := by decide +kernel
theorem dX10_count_47 : decode cX10_count 47 = .ok (.ireturn, 1) := by decide +kernel
theorem dX10_count_48 : decode cX10_count 48 = .ok (.aload_n 0, 1) := by decide +kernel
theorem dX10_count_49 : decode cX10_count 49 = .ok (.getfield 26, 3) := by decide +kernel
theorem dX10_count_52 : decode cX10_count 52 = .ok (.getfield 249, 3) := by decide +kernel
theorem dX10_count_55 : decode cX10_count 55 = .ok (.ireturn, 1) := by decide +kernel
theorem dX10_count_56 : decode cX10_count 56 = .ok (.aload_n 0, 1) := by decide +kernel
theorem dX10_count_57 : decode cX10_count 57 = .ok (.getfield 33, 3) := by decide +kernel
theorem dX10_count_60 : decode cX10_count 60 = .ok (.getfield 157, 3) := by decide +kernel
theorem dX10_count_63 : decode cX10_count 63 = .ok (.invokevirtual 250, 3) := by decide +kernel
theorem dX10_count_66 : decode cX10_count 66 = .ok (.ireturn, 1) := by decide +kernel
theorem dX10_count_67 : decode cX10_count 67 = .ok (.aload_n 0, 1) := by decide +kernel
theorem dX10_count_68 : decode cX10_count 68 = .ok (.getfield 33, 3) := by decide +kernel
theorem dX10_count_71 : decode cX10_count 71 = .ok (.getfield 166, 3) := by decide +kernel
theorem dX10_count_74 : decode cX10_count 74 = .ok (.ireturn, 1) := by decide +kernel
theorem dX10_count_75 : decode cX10_count 75 = .ok (.aload_n 0, 1) := by decide +kernel
theorem dX10_count_76 : decode cX10_count 76 = .ok (.getfield 33, 3) := by decide +kernel
theorem dX10_count_79 : decode cX10_count 79 = .ok (.getfield 157, 3) := by decide +kernel
theorem dX10_count_82 : decode cX10_count 82 = .ok (.getfield 253, 3) := by decide +kernel
theorem dX10_count_85 : decode cX10_count 85 = .ok (.ireturn, 1) := by decide +kernel
theorem dX10_count_86 : decode cX10_count 86 = .ok (.aload_n 0, 1) := by decide +kernel
theorem dX10_count_87 : decode cX10_count 87 = .ok (.getfield 33, 3) := by decide +kernel
theorem dX10_count_90 : decode cX10_count 90 = .ok (.getfield 205, 3) := by decide +kernel
theorem dX10_count_93 : decode cX10_count 93 = .ok (.ifCond .eq 13, 3) := by decide +kernel
theorem dX10_count_96 : decode cX10_count 96 = .ok (.aload_n 0, 1) := by decide +kernel
theorem dX10_count_97 : decode cX10_count 97 = .ok (.getfield 33, 3) := by decide +kernel
theorem dX10_count_100 : decode cX10_count 100 = .ok (.getfield 151, 3) := by decide +kernel
theorem dX10_count_103 : decode cX10_count 103 = .ok (.goto 4, 3) := by decide +kernel
theorem dX10_count_106 : decode cX10_count 106 = .ok (.iconst (-1), 1) := by decide +kernel
theorem dX10_count_107 : decode cX10_count 107 = .ok (.ireturn, 1) := by decide +kernel
theorem dX10_count_108 : decode cX10_count 108 = .ok (.iconst (-1), 1) := by decide +kernel
theorem dX10_count_109 : decode cX10_count 109 = .ok (.ireturn, 1) := by decide +kernel
theorem dX10_isBetween_0 : decode cX10_isBetween 0 = .ok (.iload_n 0, 1) := by decide +kernel
theorem dX10_isBetween_1 : decode cX10_isBetween 1 = .ok (.iload_n 1, 1) := by decide +kernel
theorem dX10_isBetween_2 : decode cX10_isBetween 2 = .ok (.if_icmp .lt 12, 3) := by decide +kernel
theorem dX10_isBetween_5 : decode cX10_isBetween 5 = .ok (.iload_n 0, 1) := by decide +kernel
theorem dX10_isBetween_6 : decode cX10_isBetween 6 = .ok (.iload_n 2, 1) := by decide +kernel
theorem dX10_isBetween_7 : decode cX10_isBetween 7 = .ok (.if_icmp .gt 7, 3) := by decide +kernel
theorem dX10_isBetween_10 : decode cX10_isBetween 10 = .ok (.iconst 1, 1) := by decide +kernel
theorem dX10_isBetween_11 : decode cX10_isBetween 11 = .ok (.goto 4, 3) := by decide +kernel
theorem dX10_isBetween_14 : decode cX10_isBetween 14 = .ok (.iconst 0, 1) := by decide +kernel
theorem dX10_isBetween_15 : decode cX10_isBetween 15 = .ok (.ireturn, 1) := by decide +kernel
theorem dX10_isDay_0 : decode cX10_isDay 0 = .ok (.iload_n 0, 1) := by decide +kernel
theorem dX10_isDay_1 : decode cX10_isDay 1 = .ok (.iconst 0, 1) := by decide +kernel
theorem dX10_isDay_2 : decode cX10_isDay 2 = .ok (.bipush 99, 2) := by decide +kernel
theorem dX10_isDay_4 : decode cX10_isDay 4 = .ok (.invokestatic 72, 3) := by decide +kernel
theorem dX10_isDay_7 : decode cX10_isDay 7 = .ok (.ireturn, 1) := by decide +kernel
theorem dX10_pairOf_0 : decode cX10_pairOf 0 = .ok (.iload_n 0, 1) := by decide +kernel
theorem dX10_pairOf_1 : decode cX10_pairOf 1 = .ok (.bipush 8, 2) := by decide +kernel
theorem dX10_pairOf_3 : decode cX10_pairOf 3 = .ok (.imul, 1) := by decide +kernel
theorem dX10_pairOf_4 : decode cX10_pairOf 4 = .ok (.iload_n 1, 1) := by decide +kernel
theorem dX10_pairOf_5 : decode cX10_pairOf 5 = .ok (.iadd, 1) := by decide +kernel
theorem dX10_pairOf_6 : decode cX10_pairOf 6 = .ok (.ireturn, 1) := by decide +kernel
theorem dX10_wayOf_0 : decode cX10_wayOf 0 = .ok (.iload_n 0, 1) := by decide +kernel
theorem dX10_wayOf_1 : decode cX10_wayOf 1 = .ok (.iload_n 1, 1) := by decide +kernel
theorem dX10_wayOf_2 : decode cX10_wayOf 2 = .ok (.invokestatic 101, 3) := by decide +kernel
theorem dX10_wayOf_5 : decode cX10_wayOf 5 = .ok (.iconst 4, 1) := by decide +kernel
theorem dX10_wayOf_6 : decode cX10_wayOf 6 = .ok (.imul, 1) := by decide +kernel
theorem dX10_wayOf_7 : decode cX10_wayOf 7 = .ok (.iload_n 2, 1) := by decide +kernel
theorem dX10_wayOf_8 : decode cX10_wayOf 8 = .ok (.iadd, 1) := by decide +kernel
theorem dX10_wayOf_9 : decode cX10_wayOf 9 = .ok (.ireturn, 1) := by decide +kernel
theorem dX10_firstOf_0 : decode cX10_firstOf 0 = .ok (.iload_n 0, 1) := by decide +kernel
theorem dX10_firstOf_1 : decode cX10_firstOf 1 = .ok (.iconst 4, 1) := by decide +kernel
theorem dX10_firstOf_2 : decode cX10_firstOf 2 = .ok (.idiv, 1) := by decide +kernel
theorem dX10_firstOf_3 : decode cX10_firstOf 3 = .ok (.bipush 8, 2) := by decide +kernel
theorem dX10_firstOf_5 : decode cX10_firstOf 5 = .ok (.idiv, 1) := by decide +kernel
theorem dX10_firstOf_6 : decode cX10_firstOf 6 = .ok (.ireturn, 1) := by decide +kernel
theorem dX10_secondOf_0 : decode cX10_secondOf 0 = .ok (.iload_n 0, 1) := by decide +kernel
theorem dX10_secondOf_1 : decode cX10_secondOf 1 = .ok (.iconst 4, 1) := by decide +kernel
theorem dX10_secondOf_2 : decode cX10_secondOf 2 = .ok (.idiv, 1) := by decide +kernel
theorem dX10_secondOf_3 : decode cX10_secondOf 3 = .ok (.bipush 8, 2) := by decide +kernel
theorem dX10_secondOf_5 : decode cX10_secondOf 5 = .ok (.irem, 1) := by decide +kernel
theorem dX10_secondOf_6 : decode cX10_secondOf 6 = .ok (.ireturn, 1) := by decide +kernel
theorem dX10_doorOf_0 : decode cX10_doorOf 0 = .ok (.iload_n 0, 1) := by decide +kernel
theorem dX10_doorOf_1 : decode cX10_doorOf 1 = .ok (.iconst 4, 1) := by decide +kernel
theorem dX10_doorOf_2 : decode cX10_doorOf 2 = .ok (.irem, 1) := by decide +kernel
theorem dX10_doorOf_3 : decode cX10_doorOf 3 = .ok (.ireturn, 1) := by decide +kernel
theorem dX10_hasDoor_0 : decode cX10_hasDoor 0 = .ok (.iload_n 0, 1) := by decide +kernel
theorem dX10_hasDoor_1 : decode cX10_hasDoor 1 = .ok (.iload_n 1, 1) := by decide +kernel
theorem dX10_hasDoor_2 : decode cX10_hasDoor 2 = .ok (.ishr, 1) := by decide +kernel
theorem dX10_hasDoor_3 : decode cX10_hasDoor 3 = .ok (.iconst 1, 1) := by decide +kernel
theorem dX10_hasDoor_4 : decode cX10_hasDoor 4 = .ok (.iand, 1) := by decide +kernel
theorem dX10_hasDoor_5 : decode cX10_hasDoor 5 = .ok (.iconst 1, 1) := by decide +kernel
theorem dX10_hasDoor_6 : decode cX10_hasDoor 6 = .ok (.if_icmp .ne 7, 3) := by decide +kernel
theorem dX10_hasDoor_9 : decode cX10_hasDoor 9 = .ok (.iconst 1, 1) := by decide +kernel
theorem dX10_hasDoor_10 : decode cX10_hasDoor 10 = .ok (.goto 4, 3) := by decide +kernel
theorem dX10_hasDoor_13 : decode cX10_hasDoor 13 = .ok (.iconst 0, 1) := by decide +kernel
theorem dX10_hasDoor_14 : decode cX10_hasDoor 14 = .ok (.ireturn, 1) := by decide +kernel
theorem dX10_turnDoor_0 : decode cX10_turnDoor 0 = .ok (.aload_n 1, 1) := by decide +kernel
theorem dX10_turnDoor_1 : decode cX10_turnDoor 1 = .ok (.iload_n 2, 1) := by decide +kernel
theorem dX10_turnDoor_2 : decode cX10_turnDoor 2 = .ok (.iaload, 1) := by decide +kernel
theorem dX10_turnDoor_3 : decode cX10_turnDoor 3 = .ok (.iload_n 3, 1) := by decide +kernel
theorem dX10_turnDoor_4 : decode cX10_turnDoor 4 = .ok (.invokestatic 256, 3) := by decide +kernel
theorem dX10_turnDoor_7 : decode cX10_turnDoor 7 = .ok (.ifCond .ne 15, 3) := by decide +kernel
theorem dX10_turnDoor_10 : decode cX10_turnDoor 10 = .ok (.aload_n 0, 1) := by decide +kernel
theorem dX10_turnDoor_11 : decode cX10_turnDoor 11 = .ok (.iload_n 2, 1) := by decide +kernel
theorem dX10_turnDoor_12 : decode cX10_turnDoor 12 = .ok (.iaload, 1) := by decide +kernel
theorem dX10_turnDoor_13 : decode cX10_turnDoor 13 = .ok (.iload_n 3, 1) := by decide +kernel
theorem dX10_turnDoor_14 : decode cX10_turnDoor 14 = .ok (.invokestatic 256, 3) := by decide +kernel
theorem dX10_turnDoor_17 : decode cX10_turnDoor 17 = .ok (.iload 4, 2) := by decide +kernel
theorem dX10_turnDoor_19 : decode cX10_turnDoor 19 = .ok (.if_icmp .ne 5, 3) := by decide +kernel
theorem dX10_turnDoor_22 : decode cX10_turnDoor 22 = .ok (.iconst 0, 1) := by decide +kernel
theorem dX10_turnDoor_23 : decode cX10_turnDoor 23 = .ok (.ireturn, 1) := by decide +kernel
theorem dX10_turnDoor_24 : decode cX10_turnDoor 24 = .ok (.aload_n 0, 1) := by decide +kernel
theorem dX10_turnDoor_25 : decode cX10_turnDoor 25 = .ok (.iload_n 2, 1) := by decide +kernel
theorem dX10_turnDoor_26 : decode cX10_turnDoor 26 = .ok (.dup2, 1) := by decide +kernel
theorem dX10_turnDoor_27 : decode cX10_turnDoor 27 = .ok (.iaload, 1) := by decide +kernel
theorem dX10_turnDoor_28 : decode cX10_turnDoor 28 = .ok (.iconst 1, 1) := by decide +kernel
theorem dX10_turnDoor_29 : decode cX10_turnDoor 29 = .ok (.iload_n 3, 1) := by decide +kernel
theorem dX10_turnDoor_30 : decode cX10_turnDoor 30 = .ok (.ishl, 1) := by decide +kernel
theorem dX10_turnDoor_31 : decode cX10_turnDoor 31 = .ok (.ixor, 1) := by decide +kernel
theorem dX10_turnDoor_32 : decode cX10_turnDoor 32 = .ok (.iastore, 1) := by decide +kernel
theorem dX10_turnDoor_33 : decode cX10_turnDoor 33 = .ok (.iconst 1, 1) := by decide +kernel
theorem dX10_turnDoor_34 : decode cX10_turnDoor 34 = .ok (.ireturn, 1) := by decide +kernel
theorem dX11_init_0 : decode cX11_init 0 = .ok (.aload_n 0, 1) := by decide +kernel
theorem dX11_init_1 : decode cX11_init 1 = .ok (.invokespecial 1, 3) := by decide +kernel
theorem dX11_init_4 : decode cX11_init 4 = .ok (.aload_n 0, 1) := by decide +kernel
theorem dX11_init_5 : decode cX11_init 5 = .ok (.bipush 8, 2) := by decide +kernel
theorem dX11_init_7 : decode cX11_init 7 = .ok (.newarray .int, 2) := by decide +kernel
theorem dX11_init_9 : decode cX11_init 9 = .ok (.putfield 7, 3) := by decide +kernel
theorem dX11_init_12 : decode cX11_init 12 = .ok (.aload_n 0, 1) := by decide +kernel
theorem dX11_init_13 : decode cX11_init 13 = .ok (.bipush 8, 2) := by decide +kernel
theorem dX11_init_15 : decode cX11_init 15 = .ok (.newarray .int, 2) := by decide +kernel
theorem dX11_init_17 : decode cX11_init 17 = .ok (.putfield 13, 3) := by decide +kernel
theorem dX11_init_20 : decode cX11_init 20 = .ok (.aload_n 0, 1) := by decide +kernel
theorem dX11_init_21 : decode cX11_init 21 = .ok (.sipush 300, 3) := by decide +kernel
theorem dX11_init_24 : decode cX11_init 24 = .ok (.newarray .int, 2) := by decide +kernel
theorem dX11_init_26 : decode cX11_init 26 = .ok (.putfield 16, 3) := by decide +kernel
theorem dX11_init_29 : decode cX11_init 29 = .ok (.aload_n 0, 1) := by decide +kernel
theorem dX11_init_30 : decode cX11_init 30 = .ok (.sipush 300, 3) := by decide +kernel
theorem dX11_init_33 : decode cX11_init 33 = .ok (.newarray .int, 2) := by decide +kernel
theorem dX11_init_35 : decode cX11_init 35 = .ok (.putfield 19, 3) := by decide +kernel
theorem dX11_init_38 : decode cX11_init 38 = .ok (.aload_n 0, 1) := by decide +kernel
theorem dX11_init_39 : decode cX11_init 39 = .ok (.sipush 300, 3) := by decide +kernel
theorem dX11_init_42 : decode cX11_init 42 = .ok (.newarray .int, 2) := by decide +kernel
theorem dX11_init_44 : decode cX11_init 44 = .ok (.putfield 22, 3) := by decide +kernel
theorem dX11_init_47 : decode cX11_init 47 = .ok (.aload_n 0, 1) := by decide +kernel
theorem dX11_init_48 : decode cX11_init 48 = .ok (.sipush 256, 3) := by decide +kernel
theorem dX11_init_51 : decode cX11_init 51 = .ok (.newarray .boolean, 2) := by decide +kernel
theorem dX11_init_53 : decode cX11_init 53 = .ok (.putfield 25, 3) := by decide +kernel
theorem dX11_init_56 : decode cX11_init 56 = .ok (.aload_n 0, 1) := by decide +kernel
theorem dX11_init_57 : decode cX11_init 57 = .ok (.sipush 256, 3) := by decide +kernel
theorem dX11_init_60 : decode cX11_init 60 = .ok (.newarray .boolean, 2) := by decide +kernel
theorem dX11_init_62 : decode cX11_init 62 = .ok (.putfield 29, 3) := by decide +kernel
theorem dX11_init_65 : decode cX11_init 65 = .ok (.aload_n 0, 1) := by decide +kernel
theorem dX11_init_66 : decode cX11_init 66 = .ok (.bipush 7, 2) := by decide +kernel
theorem dX11_init_68 : decode cX11_init 68 = .ok (.putfield 32, 3) := by decide +kernel
theorem dX11_init_71 : decode cX11_init 71 = .ok (.aload_n 0, 1) := by decide +kernel
theorem dX11_init_72 : decode cX11_init 72 = .ok (.iconst 1, 1) := by decide +kernel
theorem dX11_init_73 : decode cX11_init 73 = .ok (.putfield 36, 3) := by decide +kernel
theorem dX11_init_76 : decode cX11_init 76 = .ok (.aload_n 0, 1) := by decide +kernel
theorem dX11_init_77 : decode cX11_init 77 = .ok (.iconst 5, 1) := by decide +kernel
theorem dX11_init_78 : decode cX11_init 78 = .ok (.putfield 39, 3) := by decide +kernel
theorem dX11_init_81 : decode cX11_init 81 = .ok (.aload_n 0, 1) := by decide +kernel
theorem dX11_init_82 : decode cX11_init 82 = .ok (.iconst 1, 1) := by decide +kernel
theorem dX11_init_83 : decode cX11_init 83 = .ok (.putfield 42, 3) := by decide +kernel
theorem dX11_init_86 : decode cX11_init 86 = .ok (.aload_n 0, 1) := by decide +kernel
theorem dX11_init_87 : decode cX11_init 87 = .ok (.sipush 256, 3) := by decide +kernel
theorem dX11_init_90 : decode cX11_init 90 = .ok (.newarray .boolean, 2) := by decide +kernel
theorem dX11_init_92 : decode cX11_init 92 = .ok (.putfield 45, 3) := by decide +kernel
theorem dX11_init_95 : decode cX11_init 95 = .ok (.aload_n 0, 1) := by decide +kernel
theorem dX11_init_96 : decode cX11_init 96 = .ok (.sipush 256, 3) := by decide +kernel
theorem dX11_init_99 : decode cX11_init 99 = .ok (.newarray .int, 2) := by decide +kernel
theorem dX11_init_101 : decode cX11_init 101 = .ok (.putfield 48, 3) := by decide +kernel
theorem dX11_init_104 : decode cX11_init 104 = .ok (.aload_n 0, 1) := by decide +kernel
theorem dX11_init_105 : decode cX11_init 105 = .ok (.sipush 256, 3) := by decide +kernel
theorem dX11_init_108 : decode cX11_init 108 = .ok (.newarray .boolean, 2) := by decide +kernel
theorem dX11_init_110 : decode cX11_init 110 = .ok (.putfield 51, 3) := by decide +kernel
theorem dX11_init_113 : decode cX11_init 113 = .ok (.aload_n 0, 1) := by decide +kernel
theorem dX11_init_114 : decode cX11_init 114 = .ok (.sipush 256, 3) := by decide +kernel
theorem dX11_init_117 : decode cX11_init 117 = .ok (.newarray .int, 2) := by decide +kernel
theorem dX11_init_119 : decode cX11_init 119 = .ok (.putfield 54, 3) := by decide +kernel
theorem dX11_init_122 : decode cX11_init 122 = .ok (.aload_n 0, 1) := by decide +kernel
theorem dX11_init_123 : decode cX11_init 123 = .ok (.bipush 8, 2) := by decide +kernel
theorem dX11_init_125 : decode cX11_init 125 = .ok (.newarray .int, 2) := by decide +kernel
theorem dX11_init_127 : decode cX11_init 127 = .ok (.putfield 57, 3) := by decide +kernel
theorem dX11_init_130 : decode cX11_init 130 = .ok (.aload_n 0, 1) := by decide +kernel
theorem dX11_init_131 : decode cX11_init 131 = .ok (.bipush 8, 2) := by decide +kernel
theorem dX11_init_133 : decode cX11_init 133 = .ok (.newarray .int, 2) := by decide +kernel
theorem dX11_init_135 : decode cX11_init 135 = .ok (.putfield 60, 3) := by decide +kernel
theorem dX11_init_138 : decode cX11_init 138 = .ok (.aload_n 0, 1) := by decide +kernel
theorem dX11_init_139 : decode cX11_init 139 = .ok (.sipush 256, 3) := by decide +kernel
theorem dX11_init_142 : decode cX11_init 142 = .ok (.newarray .boolean, 2) := by decide +kernel
theorem dX11_init_144 : decode cX11_init 144 = .ok (.putfield 63, 3) := by decide +kernel
theorem dX11_init_147 : decode cX11_init 147 = .ok (.aload_n 0, 1) := by decide +kernel
theorem dX11_init_148 : decode cX11_init 148 = .ok (.sipush 256, 3) := by decide +kernel
theorem dX11_init_151 : decode cX11_init 151 = .ok (.newarray .boolean, 2) := by decide +kernel
theorem dX11_init_153 : decode cX11_init 153 = .ok (.putfield 66, 3) := by decide +kernel
theorem dX11_init_156 : decode cX11_init 156 = .ok (.aload_n 0, 1) := by decide +kernel
theorem dX11_init_157 : decode cX11_init 157 = .ok (.sipush 256, 3) := by decide +kernel
theorem dX11_init_160 : decode cX11_init 160 = .ok (.newarray .boolean, 2) := by decide +kernel
theorem dX11_init_162 : decode cX11_init 162 = .ok (.putfield 69, 3) := by decide +kernel
theorem dX11_init_165 : decode cX11_init 165 = .ok (.aload_n 0, 1) := by decide +kernel
theorem dX11_init_166 : decode cX11_init 166 = .ok (.bipush 12, 2) := by decide +kernel
theorem dX11_init_168 : decode cX11_init 168 = .ok (.newarray .int, 2) := by decide +kernel
theorem dX11_init_170 : decode cX11_init 170 = .ok (.putfield 72, 3) := by decide +kernel
theorem dX11_init_173 : decode cX11_init 173 = .ok (.aload_n 0, 1) := by decide +kernel
theorem dX11_init_174 : decode cX11_init 174 = .ok (.bipush 12, 2) := by decide +kernel
theorem dX11_init_176 : decode cX11_init 176 = .ok (.newarray .int, 2) := by decide +kernel
theorem dX11_init_178 : decode cX11_init 178 = .ok (.putfield 75, 3) := by decide +kernel
theorem dX11_init_181 : decode cX11_init 181 = .ok (.aload_n 0, 1) := by decide +kernel
theorem dX11_init_182 : decode cX11_init 182 = .ok (.bipush 12, 2) := by decide +kernel
theorem dX11_init_184 : decode cX11_init 184 = .ok (.newarray .int, 2) := by decide +kernel
theorem dX11_init_186 : decode cX11_init 186 = .ok (.putfield 78, 3) := by decide +kernel
theorem dX11_init_189 : decode cX11_init 189 = .ok (.aload_n 0, 1) := by decide +kernel
theorem dX11_init_190 : decode cX11_init 190 = .ok (.bipush 12, 2) := by decide +kernel
theorem dX11_init_192 : decode cX11_init 192 = .ok (.newarray .int, 2) := by decide +kernel
theorem dX11_init_194 : decode cX11_init 194 = .ok (.putfield 81, 3) := by decide +kernel
theorem dX11_init_197 : decode cX11_init 197 = .ok (.aload_n 0, 1) := by decide +kernel
theorem dX11_init_198 : decode cX11_init 198 = .ok (.sipush 300, 3) := by decide +kernel
theorem dX11_init_201 : decode cX11_init 201 = .ok (.newarray .int, 2) := by decide +kernel
theorem dX11_init_203 : decode cX11_init 203 = .ok (.putfield 84, 3) := by decide +kernel
theorem dX11_init_206 : decode cX11_init 206 = .ok (.aload_n 0, 1) := by decide +kernel
theorem dX11_init_207 : decode cX11_init 207 = .ok (.sipush 300, 3) := by decide +kernel
theorem dX11_init_210 : decode cX11_init 210 = .ok (.newarray .int, 2) := by decide +kernel
theorem dX11_init_212 : decode cX11_init 212 = .ok (.putfield 87, 3) := by decide +kernel
theorem dX11_init_215 : decode cX11_init 215 = .ok (.aload_n 0, 1) := by decide +kernel
theorem dX11_init_216 : decode cX11_init 216 = .ok (.sipush 300, 3) := by decide +kernel
theorem dX11_init_219 : decode cX11_init 219 = .ok (.newarray .int, 2) := by decide +kernel
theorem dX11_init_221 : decode cX11_init 221 = .ok (.putfield 90, 3) := by decide +kernel
theorem dX11_init_224 : decode cX11_init 224 = .ok (.iconst 0, 1) := by decide +kernel
theorem dX11_init_225 : decode cX11_init 225 = .ok (.istore_n 1, 1) := by decide +kernel
theorem dX11_init_226 : decode cX11_init 226 = .ok (.iload_n 1, 1) := by decide +kernel
theorem dX11_init_227 : decode cX11_init 227 = .ok (.bipush 8, 2) := by decide +kernel
theorem dX11_init_229 : decode cX11_init 229 = .ok (.if_icmp .ge 16, 3) := by decide +kernel
theorem dX11_init_232 : decode cX11_init 232 = .ok (.aload_n 0, 1) := by decide +kernel
theorem dX11_init_233 : decode cX11_init 233 = .ok (.getfield 13, 3) := by decide +kernel
theorem dX11_init_236 : decode cX11_init 236 = .ok (.iload_n 1, 1) := by decide +kernel
theorem dX11_init_237 : decode cX11_init 237 = .ok (.iconst (-1), 1) := by decide +kernel
theorem dX11_init_238 : decode cX11_init 238 = .ok (.iastore, 1) := by decide +kernel
theorem dX11_init_239 : decode cX11_init 239 = .ok (.iinc 1 1, 3) := by decide +kernel
theorem dX11_init_242 : decode cX11_init 242 = .ok (.goto (-16), 3) := by decide +kernel
theorem dX11_init_245 : decode cX11_init 245 = .ok (.return_, 1) := by decide +kernel
theorem dX11_isHost_0 : decode cX11_isHost 0 = .ok (.iload_n 1, 1) := by decide +kernel
theorem dX11_isHost_1 : decode cX11_isHost 1 = .ok (.ifCond .lt 15, 3) := by decide +kernel
theorem dX11_isHost_4 : decode cX11_isHost 4 = .ok (.iload_n 1, 1) := by decide +kernel
theorem dX11_isHost_5 : decode cX11_isHost 5 = .ok (.aload_n 0, 1) := by decide +kernel
theorem dX11_isHost_6 : decode cX11_isHost 6 = .ok (.getfield 96, 3) := by decide +kernel
theorem dX11_isHost_9 : decode cX11_isHost 9 = .ok (.if_icmp .ge 7, 3) := by decide +kernel
theorem dX11_isHost_12 : decode cX11_isHost 12 = .ok (.iconst 1, 1) := by decide +kernel
theorem dX11_isHost_13 : decode cX11_isHost 13 = .ok (.goto 4, 3) := by decide +kernel
theorem dX11_isHost_16 : decode cX11_isHost 16 = .ok (.iconst 0, 1) := by decide +kernel
theorem dX11_isHost_17 : decode cX11_isHost 17 = .ok (.ireturn, 1) := by decide +kernel
theorem dX11_way_0 : decode cX11_way 0 = .ok (.aload_n 0, 1) := by decide +kernel
theorem dX11_way_1 : decode cX11_way 1 = .ok (.iload_n 1, 1) := by decide +kernel
theorem dX11_way_2 : decode cX11_way 2 = .ok (.invokevirtual 99, 3) := by decide +kernel
theorem dX11_way_5 : decode cX11_way 5 = .ok (.ifCond .eq 38, 3) := by decide +kernel
theorem dX11_way_8 : decode cX11_way 8 = .ok (.aload_n 0, 1) := by decide +kernel
theorem dX11_way_9 : decode cX11_way 9 = .ok (.iload_n 2, 1) := by decide +kernel
theorem dX11_way_10 : decode cX11_way 10 = .ok (.invokevirtual 99, 3) := by decide +kernel
theorem dX11_way_13 : decode cX11_way 13 = .ok (.ifCond .eq 30, 3) := by decide +kernel
theorem dX11_way_16 : decode cX11_way 16 = .ok (.iload_n 1, 1) := by decide +kernel
theorem dX11_way_17 : decode cX11_way 17 = .ok (.iload_n 2, 1) := by decide +kernel
theorem dX11_way_18 : decode cX11_way 18 = .ok (.if_icmp .eq 25, 3) := by decide +kernel
theorem dX11_way_21 : decode cX11_way 21 = .ok (.iload_n 3, 1) := by decide +kernel
theorem dX11_way_22 : decode cX11_way 22 = .ok (.ifCond .lt 21, 3) := by decide +kernel
theorem dX11_way_25 : decode cX11_way 25 = .ok (.iload_n 3, 1) := by decide +kernel
theorem dX11_way_26 : decode cX11_way 26 = .ok (.iconst 3, 1) := by decide +kernel
theorem dX11_way_27 : decode cX11_way 27 = .ok (.if_icmp .gt 16, 3) := by decide +kernel
theorem dX11_way_30 : decode cX11_way 30 = .ok (.bipush 32, 2) := by decide +kernel
theorem dX11_way_32 : decode cX11_way 32 = .ok (.iload_n 1, 1) := by decide +kernel
theorem dX11_way_33 : decode cX11_way 33 = .ok (.imul, 1) := by decide +kernel
theorem dX11_way_34 : decode cX11_way 34 = .ok (.iconst 4, 1) := by decide +kernel
theorem dX11_way_35 : decode cX11_way 35 = .ok (.iload_n 2, 1) := by decide +kernel
theorem dX11_way_36 : decode cX11_way 36 = .ok (.imul, 1) := by decide +kernel
theorem dX11_way_37 : decode cX11_way 37 = .ok (.iadd, 1) := by decide +kernel
theorem dX11_way_38 : decode cX11_way 38 = .ok (.iload_n 3, 1) := by decide +kernel
theorem dX11_way_39 : decode cX11_way 39 = .ok (.iadd, 1) := by decide +kernel
theorem dX11_way_40 : decode cX11_way 40 = .ok (.goto 4, 3) := by decide +kernel
theorem dX11_way_43 : decode cX11_way 43 = .ok (.iconst (-1), 1) := by decide +kernel
theorem dX11_way_44 : decode cX11_way 44 = .ok (.ireturn, 1) := by decide +kernel
theorem dX11_isDay_0 : decode cX11_isDay 0 = .ok (.iload_n 0, 1) := by decide +kernel
theorem dX11_isDay_1 : decode cX11_isDay 1 = .ok (.ifCond .lt 13, 3) := by decide +kernel
theorem dX11_isDay_4 : decode cX11_isDay 4 = .ok (.iload_n 0, 1) := by decide +kernel
theorem dX11_isDay_5 : decode cX11_isDay 5 = .ok (.bipush 99, 2) := by decide +kernel
theorem dX11_isDay_7 : decode cX11_isDay 7 = .ok (.if_icmp .gt 7, 3) := by decide +kernel
theorem dX11_isDay_10 : decode cX11_isDay 10 = .ok (.iconst 1, 1) := by decide +kernel
theorem dX11_isDay_11 : decode cX11_isDay 11 = .ok (.goto 4, 3) := by decide +kernel
theorem dX11_isDay_14 : decode cX11_isDay 14 = .ok (.iconst 0, 1) := by decide +kernel
theorem dX11_isDay_15 : decode cX11_isDay 15 = .ok (.ireturn, 1) := by decide +kernel
theorem dX11_host_0 : decode cX11_host 0 = .ok (.aload_n 0, 1) := by decide +kernel
theorem dX11_host_1 : decode cX11_host 1 = .ok (.iconst 0, 1) := by decide +kernel
theorem dX11_host_2 : decode cX11_host 2 = .ok (.putfield 93, 3) := by decide +kernel
theorem dX11_host_5 : decode cX11_host 5 = .ok (.iload_n 1, 1) := by decide +kernel
theorem dX11_host_6 : decode cX11_host 6 = .ok (.ifCond .lt 17, 3) := by decide +kernel
theorem dX11_host_9 : decode cX11_host 9 = .ok (.iload_n 1, 1) := by decide +kernel
theorem dX11_host_10 : decode cX11_host 10 = .ok (.iconst 3, 1) := by decide +kernel
theorem dX11_host_11 : decode cX11_host 11 = .ok (.if_icmp .gt 12, 3) := by decide +kernel
theorem dX11_host_14 : decode cX11_host 14 = .ok (.aload_n 0, 1) := by decide +kernel
theorem dX11_host_15 : decode cX11_host 15 = .ok (.getfield 96, 3) := by decide +kernel
theorem dX11_host_18 : decode cX11_host 18 = .ok (.bipush 8, 2) := by decide +kernel
theorem dX11_host_20 : decode cX11_host 20 = .ok (.if_icmp .ne 5, 3) := by decide +kernel
theorem dX11_host_23 : decode cX11_host 23 = .ok (.iconst (-1), 1) := by decide +kernel
theorem dX11_host_24 : decode cX11_host 24 = .ok (.ireturn, 1) := by decide +kernel
theorem dX11_host_25 : decode cX11_host 25 = .ok (.aload_n 0, 1) := by decide +kernel
theorem dX11_host_26 : decode cX11_host 26 = .ok (.getfield 7, 3) := by decide +kernel
theorem dX11_host_29 : decode cX11_host 29 = .ok (.aload_n 0, 1) := by decide +kernel
theorem dX11_host_30 : decode cX11_host 30 = .ok (.getfield 96, 3) := by decide +kernel
theorem dX11_host_33 : decode cX11_host 33 = .ok (.iload_n 1, 1) := by decide +kernel
theorem dX11_host_34 : decode cX11_host 34 = .ok (.iastore, 1) := by decide +kernel
theorem dX11_host_35 : decode cX11_host 35 = .ok (.aload_n 0, 1) := by decide +kernel
theorem dX11_host_36 : decode cX11_host 36 = .ok (.dup, 1) := by decide +kernel
theorem dX11_host_37 : decode cX11_host 37 = .ok (.getfield 96, 3) := by decide +kernel
theorem dX11_host_40 : decode cX11_host 40 = .ok (.iconst 1, 1) := by decide +kernel
theorem dX11_host_41 : decode cX11_host 41 = .ok (.iadd, 1) := by decide +kernel
theorem dX11_host_42 : decode cX11_host 42 = .ok (.putfield 96, 3) := by decide +kernel
theorem dX11_host_45 : decode cX11_host 45 = .ok (.aload_n 0, 1) := by decide +kernel
theorem dX11_host_46 : decode cX11_host 46 = .ok (.getfield 96, 3) := by decide +kernel
theorem dX11_host_49 : decode cX11_host 49 = .ok (.iconst 1, 1) := by decide +kernel
theorem dX11_host_50 : decode cX11_host 50 = .ok (.isub, 1) := by decide +kernel
theorem dX11_host_51 : decode cX11_host 51 = .ok (.ireturn, 1) := by decide +kernel
theorem dX11_talk_0 : decode cX11_talk 0 = .ok (.aload_n 0, 1) := by decide +kernel
theorem dX11_talk_1 : decode cX11_talk 1 = .ok (.iconst 0, 1) := by decide +kernel
theorem dX11_talk_2 : decode cX11_talk 2 = .ok (.putfield 93, 3) := by decide +kernel
theorem dX11_talk_5 : decode cX11_talk 5 = .ok (.aload_n 0, 1) := by decide +kernel
theorem dX11_talk_6 : decode cX11_talk 6 = .ok (.iload_n 1, 1) := by decide +kernel
theorem dX11_talk_7 : decode cX11_talk 7 = .ok (.iload_n 2, 1) := by decide +kernel
theorem dX11_talk_8 : decode cX11_talk 8 = .ok (.iload_n 3, 1) := by decide +kernel
theorem dX11_talk_9 : decode cX11_talk 9 = .ok (.invokevirtual 103, 3) := by decide +kernel
theorem dX11_talk_12 : decode cX11_talk 12 = .ok (.istore 6, 2) := by decide +kernel
theorem dX11_talk_14 : decode cX11_talk 14 = .ok (.iload 6, 2) := by decide +kernel
theorem dX11_talk_16 : decode cX11_talk 16 = .ok (.iconst (-1), 1) := by decide +kernel
theorem dX11_talk_17 : decode cX11_talk 17 = .ok (.if_icmp .eq 35, 3) := by decide +kernel
theorem dX11_talk_20 : decode cX11_talk 20 = .ok (.iload 4, 2) := by decide +kernel
theorem dX11_talk_22 : decode cX11_talk 22 = .ok (.invokestatic 107, 3) := by decide +kernel
theorem dX11_talk_25 : decode cX11_talk 25 = .ok (.ifCond .eq 27, 3) := by decide +kernel
theorem dX11_talk_28 : decode cX11_talk 28 = .ok (.iload 5, 2) := by decide +kernel
theorem dX11_talk_30 : decode cX11_talk 30 = .ok (.iconst 1, 1) := by decide +kernel
theorem dX11_talk_31 : decode cX11_talk 31 = .ok (.if_icmp .lt 21, 3) := by decide +kernel
theorem dX11_talk_34 : decode cX11_talk 34 = .ok (.iload 5, 2) := by decide +kernel
theorem dX11_talk_36 : decode cX11_talk 36 = .ok (.sipush 999, 3) := by decide +kernel
theorem dX11_talk_39 : decode cX11_talk 39 = .ok (.if_icmp .gt 13, 3) := by decide +kernel
theorem dX11_talk_42 : decode cX11_talk 42 = .ok (.aload_n 0, 1) := by decide +kernel
theorem dX11_talk_43 : decode cX11_talk 43 = .ok (.getfield 110, 3) := by decide +kernel
theorem dX11_talk_46 : decode cX11_talk 46 = .ok (.sipush 300, 3) := by decide +kernel
theorem dX11_talk_49 : decode cX11_talk 49 = .ok (.if_icmp .ne 5, 3) := by decide +kernel
theorem dX11_talk_52 : decode cX11_talk 52 = .ok (.iconst (-1), 1) := by decide +kernel
theorem dX11_talk_53 : decode cX11_talk 53 = .ok (.ireturn, 1) := by decide +kernel
theorem dX11_talk_54 : decode cX11_talk 54 = .ok (.aload_n 0, 1) := by decide +kernel
end
section
theorem dX11_talk_55 : decode cX11_talk 55 = .ok (.getfield 16, 3) := by decide +kernel
theorem dX11_talk_58 : decode cX11_talk 58 = .ok (.aload_n 0, 1) := by decide +kernel
theorem dX11_talk_59 : decode cX11_talk 59 = .ok (.getfield 110, 3) := by decide +kernel
theorem dX11_talk_62 : decode cX11_talk 62 = .ok (.iload 6, 2) := by decide +kernel
theorem dX11_talk_64 : decode cX11_talk 64 = .ok (.iastore, 1) := by decide +kernel
theorem dX11_talk_65 : decode cX11_talk 65 = .ok (.aload_n 0, 1) := by decide +kernel
theorem dX11_talk_66 : decode cX11_talk 66 = .ok (.getfield 19, 3) := by decide +kernel
theorem dX11_talk_69 : decode cX11_talk 69 = .ok (.aload_n 0, 1) := by decide +kernel
theorem dX11_talk_70 : decode cX11_talk 70 = .ok (.getfield 110, 3) := by decide +kernel
theorem dX11_talk_73 : decode cX11_talk 73 = .ok (.iload 4, 2) := by decide +kernel
theorem dX11_talk_75 : decode cX11_talk 75 = .ok (.iastore, 1) := by decide +kernel
theorem dX11_talk_76 : decode cX11_talk 76 = .ok (.aload_n 0, 1) := by decide +kernel
theorem dX11_talk_77 : decode cX11_talk 77 = .ok (.getfield 22, 3) := by decide +kernel
theorem dX11_talk_80 : decode cX11_talk 80 = .ok (.aload_n 0, 1) := by decide +kernel
theorem dX11_talk_81 : decode cX11_talk 81 = .ok (.getfield 110, 3) := by decide +kernel
theorem dX11_talk_84 : decode cX11_talk 84 = .ok (.iload 5, 2) := by decide +kernel
theorem dX11_talk_86 : decode cX11_talk 86 = .ok (.iastore, 1) := by decide +kernel
theorem dX11_talk_87 : decode cX11_talk 87 = .ok (.aload_n 0, 1) := by decide +kernel
theorem dX11_talk_88 : decode cX11_talk 88 = .ok (.dup, 1) := by decide +kernel
theorem dX11_talk_89 : decode cX11_talk 89 = .ok (.getfield 110, 3) := by decide +kernel
theorem dX11_talk_92 : decode cX11_talk 92 = .ok (.iconst 1, 1) := by decide +kernel
theorem dX11_talk_93 : decode cX11_talk 93 = .ok (.iadd, 1) := by decide +kernel
theorem dX11_talk_94 : decode cX11_talk 94 = .ok (.putfield 110, 3) := by decide +kernel
theorem dX11_talk_97 : decode cX11_talk 97 = .ok (.aload_n 0, 1) := by decide +kernel
theorem dX11_talk_98 : decode cX11_talk 98 = .ok (.getfield 110, 3) := by decide +kernel
theorem dX11_talk_101 : decode cX11_talk 101 = .ok (.ireturn, 1) := by decide +kernel
theorem dX11_must_0 : decode cX11_must 0 = .ok (.aload_n 0, 1) := by decide +kernel
theorem dX11_must_1 : decode cX11_must 1 = .ok (.iconst 0, 1) := by decide +kernel
theorem dX11_must_2 : decode cX11_must 2 = .ok (.putfield 93, 3) := by decide +kernel
theorem dX11_must_5 : decode cX11_must 5 = .ok (.aload_n 0, 1) := by decide +kernel
theorem dX11_must_6 : decode cX11_must 6 = .ok (.iload_n 1, 1) := by decide +kernel
theorem dX11_must_7 : decode cX11_must 7 = .ok (.iload_n 2, 1) := by decide +kernel
theorem dX11_must_8 : decode cX11_must 8 = .ok (.iload_n 3, 1) := by decide +kernel
theorem dX11_must_9 : decode cX11_must 9 = .ok (.invokevirtual 103, 3) := by decide +kernel
theorem dX11_must_12 : decode cX11_must 12 = .ok (.istore 5, 2) := by decide +kernel
theorem dX11_must_14 : decode cX11_must 14 = .ok (.iload 5, 2) := by decide +kernel
theorem dX11_must_16 : decode cX11_must 16 = .ok (.iconst (-1), 1) := by decide +kernel
theorem dX11_must_17 : decode cX11_must 17 = .ok (.if_icmp .eq 25, 3) := by decide +kernel
theorem dX11_must_20 : decode cX11_must 20 = .ok (.aload_n 0, 1) := by decide +kernel
theorem dX11_must_21 : decode cX11_must 21 = .ok (.getfield 29, 3) := by decide +kernel
theorem dX11_must_24 : decode cX11_must 24 = .ok (.iload 5, 2) := by decide +kernel
theorem dX11_must_26 : decode cX11_must 26 = .ok (.baload, 1) := by decide +kernel
theorem dX11_must_27 : decode cX11_must 27 = .ok (.ifCond .ne 15, 3) := by decide +kernel
theorem dX11_must_30 : decode cX11_must 30 = .ok (.aload_n 0, 1) := by decide +kernel
theorem dX11_must_31 : decode cX11_must 31 = .ok (.getfield 25, 3) := by decide +kernel
theorem dX11_must_34 : decode cX11_must 34 = .ok (.iload 5, 2) := by decide +kernel
theorem dX11_must_36 : decode cX11_must 36 = .ok (.baload, 1) := by decide +kernel
theorem dX11_must_37 : decode cX11_must 37 = .ok (.iload 4, 2) := by decide +kernel
theorem dX11_must_39 : decode cX11_must 39 = .ok (.if_icmp .ne 5, 3) := by decide +kernel
theorem dX11_must_42 : decode cX11_must 42 = .ok (.iconst 0, 1) := by decide +kernel
theorem dX11_must_43 : decode cX11_must 43 = .ok (.ireturn, 1) := by decide +kernel
theorem dX11_must_44 : decode cX11_must 44 = .ok (.aload_n 0, 1) := by decide +kernel
theorem dX11_must_45 : decode cX11_must 45 = .ok (.getfield 25, 3) := by decide +kernel
theorem dX11_must_48 : decode cX11_must 48 = .ok (.iload 5, 2) := by decide +kernel
theorem dX11_must_50 : decode cX11_must 50 = .ok (.iload 4, 2) := by decide +kernel
theorem dX11_must_52 : decode cX11_must 52 = .ok (.bastore, 1) := by decide +kernel
theorem dX11_must_53 : decode cX11_must 53 = .ok (.iconst 1, 1) := by decide +kernel
theorem dX11_must_54 : decode cX11_must 54 = .ok (.ireturn, 1) := by decide +kernel
theorem dX11_bar_0 : decode cX11_bar 0 = .ok (.aload_n 0, 1) := by decide +kernel
theorem dX11_bar_1 : decode cX11_bar 1 = .ok (.iconst 0, 1) := by decide +kernel
theorem dX11_bar_2 : decode cX11_bar 2 = .ok (.putfield 93, 3) := by decide +kernel
theorem dX11_bar_5 : decode cX11_bar 5 = .ok (.aload_n 0, 1) := by decide +kernel
theorem dX11_bar_6 : decode cX11_bar 6 = .ok (.iload_n 1, 1) := by decide +kernel
theorem dX11_bar_7 : decode cX11_bar 7 = .ok (.iload_n 2, 1) := by decide +kernel
theorem dX11_bar_8 : decode cX11_bar 8 = .ok (.iload_n 3, 1) := by decide +kernel
theorem dX11_bar_9 : decode cX11_bar 9 = .ok (.invokevirtual 103, 3) := by decide +kernel
theorem dX11_bar_12 : decode cX11_bar 12 = .ok (.istore 5, 2) := by decide +kernel
theorem dX11_bar_14 : decode cX11_bar 14 = .ok (.iload 5, 2) := by decide +kernel
theorem dX11_bar_16 : decode cX11_bar 16 = .ok (.iconst (-1), 1) := by decide +kernel
theorem dX11_bar_17 : decode cX11_bar 17 = .ok (.if_icmp .eq 25, 3) := by decide +kernel
theorem dX11_bar_20 : decode cX11_bar 20 = .ok (.aload_n 0, 1) := by decide +kernel
theorem dX11_bar_21 : decode cX11_bar 21 = .ok (.getfield 25, 3) := by decide +kernel
theorem dX11_bar_24 : decode cX11_bar 24 = .ok (.iload 5, 2) := by decide +kernel
theorem dX11_bar_26 : decode cX11_bar 26 = .ok (.baload, 1) := by decide +kernel
theorem dX11_bar_27 : decode cX11_bar 27 = .ok (.ifCond .ne 15, 3) := by decide +kernel
theorem dX11_bar_30 : decode cX11_bar 30 = .ok (.aload_n 0, 1) := by decide +kernel
theorem dX11_bar_31 : decode cX11_bar 31 = .ok (.getfield 29, 3) := by decide +kernel
theorem dX11_bar_34 : decode cX11_bar 34 = .ok (.iload 5, 2) := by decide +kernel
theorem dX11_bar_36 : decode cX11_bar 36 = .ok (.baload, 1) := by decide +kernel
theorem dX11_bar_37 : decode cX11_bar 37 = .ok (.iload 4, 2) := by decide +kernel
theorem dX11_bar_39 : decode cX11_bar 39 = .ok (.if_icmp .ne 5, 3) := by decide +kernel
theorem dX11_bar_42 : decode cX11_bar 42 = .ok (.iconst 0, 1) := by decide +kernel
theorem dX11_bar_43 : decode cX11_bar 43 = .ok (.ireturn, 1) := by decide +kernel
theorem dX11_bar_44 : decode cX11_bar 44 = .ok (.aload_n 0, 1) := by decide +kernel
theorem dX11_bar_45 : decode cX11_bar 45 = .ok (.getfield 29, 3) := by decide +kernel
theorem dX11_bar_48 : decode cX11_bar 48 = .ok (.iload 5, 2) := by decide +kernel
theorem dX11_bar_50 : decode cX11_bar 50 = .ok (.iload 4, 2) := by decide +kernel
theorem dX11_bar_52 : decode cX11_bar 52 = .ok (.bastore, 1) := by decide +kernel
theorem dX11_bar_53 : decode cX11_bar 53 = .ok (.iconst 1, 1) := by decide +kernel
theorem dX11_bar_54 : decode cX11_bar 54 = .ok (.ireturn, 1) := by decide +kernel
theorem dX11_law_0 : decode cX11_law 0 = .ok (.aload_n 0, 1) := by decide +kernel
theorem dX11_law_1 : decode cX11_law 1 = .ok (.iconst 0, 1) := by decide +kernel
theorem dX11_law_2 : decode cX11_law 2 = .ok (.putfield 93, 3) := by decide +kernel
theorem dX11_law_5 : decode cX11_law 5 = .ok (.iload_n 1, 1) := by decide +kernel
theorem dX11_law_6 : decode cX11_law 6 = .ok (.iconst 1, 1) := by decide +kernel
theorem dX11_law_7 : decode cX11_law 7 = .ok (.if_icmp .lt 21, 3) := by decide +kernel
theorem dX11_law_10 : decode cX11_law 10 = .ok (.iload_n 1, 1) := by decide +kernel
theorem dX11_law_11 : decode cX11_law 11 = .ok (.bipush 100, 2) := by decide +kernel
theorem dX11_law_13 : decode cX11_law 13 = .ok (.if_icmp .gt 15, 3) := by decide +kernel
theorem dX11_law_16 : decode cX11_law 16 = .ok (.iload_n 2, 1) := by decide +kernel
theorem dX11_law_17 : decode cX11_law 17 = .ok (.iconst 1, 1) := by decide +kernel
theorem dX11_law_18 : decode cX11_law 18 = .ok (.if_icmp .lt 10, 3) := by decide +kernel
theorem dX11_law_21 : decode cX11_law 21 = .ok (.iload_n 2, 1) := by decide +kernel
theorem dX11_law_22 : decode cX11_law 22 = .ok (.sipush 9999, 3) := by decide +kernel
theorem dX11_law_25 : decode cX11_law 25 = .ok (.if_icmp .le 5, 3) := by decide +kernel
theorem dX11_law_28 : decode cX11_law 28 = .ok (.iconst 0, 1) := by decide +kernel
theorem dX11_law_29 : decode cX11_law 29 = .ok (.ireturn, 1) := by decide +kernel
theorem dX11_law_30 : decode cX11_law 30 = .ok (.aload_n 0, 1) := by decide +kernel
theorem dX11_law_31 : decode cX11_law 31 = .ok (.iload_n 1, 1) := by decide +kernel
theorem dX11_law_32 : decode cX11_law 32 = .ok (.putfield 32, 3) := by decide +kernel
theorem dX11_law_35 : decode cX11_law 35 = .ok (.aload_n 0, 1) := by decide +kernel
theorem dX11_law_36 : decode cX11_law 36 = .ok (.iload_n 2, 1) := by decide +kernel
theorem dX11_law_37 : decode cX11_law 37 = .ok (.putfield 36, 3) := by decide +kernel
theorem dX11_law_40 : decode cX11_law 40 = .ok (.aload_n 0, 1) := by decide +kernel
theorem dX11_law_41 : decode cX11_law 41 = .ok (.iload_n 3, 1) := by decide +kernel
theorem dX11_law_42 : decode cX11_law 42 = .ok (.putfield 113, 3) := by decide +kernel
theorem dX11_law_45 : decode cX11_law 45 = .ok (.iconst 1, 1) := by decide +kernel
theorem dX11_law_46 : decode cX11_law 46 = .ok (.ireturn, 1) := by decide +kernel
theorem dX11_prices_0 : decode cX11_prices 0 = .ok (.aload_n 0, 1) := by decide +kernel
theorem dX11_prices_1 : decode cX11_prices 1 = .ok (.iconst 0, 1) := by decide +kernel
theorem dX11_prices_2 : decode cX11_prices 2 = .ok (.putfield 93, 3) := by decide +kernel
theorem dX11_prices_5 : decode cX11_prices 5 = .ok (.iload_n 1, 1) := by decide +kernel
theorem dX11_prices_6 : decode cX11_prices 6 = .ok (.ifCond .lt 19, 3) := by decide +kernel
theorem dX11_prices_9 : decode cX11_prices 9 = .ok (.iload_n 1, 1) := by decide +kernel
theorem dX11_prices_10 : decode cX11_prices 10 = .ok (.bipush 99, 2) := by decide +kernel
theorem dX11_prices_12 : decode cX11_prices 12 = .ok (.if_icmp .gt 13, 3) := by decide +kernel
theorem dX11_prices_15 : decode cX11_prices 15 = .ok (.iload_n 2, 1) := by decide +kernel
theorem dX11_prices_16 : decode cX11_prices 16 = .ok (.ifCond .lt 9, 3) := by decide +kernel
theorem dX11_prices_19 : decode cX11_prices 19 = .ok (.iload_n 2, 1) := by decide +kernel
theorem dX11_prices_20 : decode cX11_prices 20 = .ok (.bipush 99, 2) := by decide +kernel
theorem dX11_prices_22 : decode cX11_prices 22 = .ok (.if_icmp .le 5, 3) := by decide +kernel
theorem dX11_prices_25 : decode cX11_prices 25 = .ok (.iconst 0, 1) := by decide +kernel
theorem dX11_prices_26 : decode cX11_prices 26 = .ok (.ireturn, 1) := by decide +kernel
theorem dX11_prices_27 : decode cX11_prices 27 = .ok (.aload_n 0, 1) := by decide +kernel
theorem dX11_prices_28 : decode cX11_prices 28 = .ok (.iload_n 1, 1) := by decide +kernel
theorem dX11_prices_29 : decode cX11_prices 29 = .ok (.putfield 39, 3) := by decide +kernel
theorem dX11_prices_32 : decode cX11_prices 32 = .ok (.aload_n 0, 1) := by decide +kernel
theorem dX11_prices_33 : decode cX11_prices 33 = .ok (.iload_n 2, 1) := by decide +kernel
theorem dX11_prices_34 : decode cX11_prices 34 = .ok (.putfield 42, 3) := by decide +kernel
theorem dX11_prices_37 : decode cX11_prices 37 = .ok (.iconst 1, 1) := by decide +kernel
theorem dX11_prices_38 : decode cX11_prices 38 = .ok (.ireturn, 1) := by decide +kernel
theorem dX11_weightOf_0 : decode cX11_weightOf 0 = .ok (.iconst 0, 1) := by decide +kernel
theorem dX11_weightOf_1 : decode cX11_weightOf 1 = .ok (.istore_n 3, 1) := by decide +kernel
theorem dX11_weightOf_2 : decode cX11_weightOf 2 = .ok (.iconst 0, 1) := by decide +kernel
theorem dX11_weightOf_3 : decode cX11_weightOf 3 = .ok (.istore 4, 2) := by decide +kernel
theorem dX11_weightOf_5 : decode cX11_weightOf 5 = .ok (.iload 4, 2) := by decide +kernel
theorem dX11_weightOf_7 : decode cX11_weightOf 7 = .ok (.aload_n 0, 1) := by decide +kernel
theorem dX11_weightOf_8 : decode cX11_weightOf 8 = .ok (.getfield 110, 3) := by decide +kernel
theorem dX11_weightOf_11 : decode cX11_weightOf 11 = .ok (.if_icmp .ge 57, 3) := by decide +kernel
theorem dX11_weightOf_14 : decode cX11_weightOf 14 = .ok (.aload_n 0, 1) := by decide +kernel
theorem dX11_weightOf_15 : decode cX11_weightOf 15 = .ok (.getfield 16, 3) := by decide +kernel
theorem dX11_weightOf_18 : decode cX11_weightOf 18 = .ok (.iload 4, 2) := by decide +kernel
theorem dX11_weightOf_20 : decode cX11_weightOf 20 = .ok (.iaload, 1) := by decide +kernel
theorem dX11_weightOf_21 : decode cX11_weightOf 21 = .ok (.iload_n 1, 1) := by decide +kernel
theorem dX11_weightOf_22 : decode cX11_weightOf 22 = .ok (.if_icmp .ne 40, 3) := by decide +kernel
theorem dX11_weightOf_25 : decode cX11_weightOf 25 = .ok (.aload_n 0, 1) := by decide +kernel
theorem dX11_weightOf_26 : decode cX11_weightOf 26 = .ok (.getfield 19, 3) := by decide +kernel
theorem dX11_weightOf_29 : decode cX11_weightOf 29 = .ok (.iload 4, 2) := by decide +kernel
theorem dX11_weightOf_31 : decode cX11_weightOf 31 = .ok (.iaload, 1) := by decide +kernel
theorem dX11_weightOf_32 : decode cX11_weightOf 32 = .ok (.iload_n 2, 1) := by decide +kernel
theorem dX11_weightOf_33 : decode cX11_weightOf 33 = .ok (.if_icmp .gt 29, 3) := by decide +kernel
theorem dX11_weightOf_36 : decode cX11_weightOf 36 = .ok (.aload_n 0, 1) := by decide +kernel
theorem dX11_weightOf_37 : decode cX11_weightOf 37 = .ok (.getfield 19, 3) := by decide +kernel
theorem dX11_weightOf_40 : decode cX11_weightOf 40 = .ok (.iload 4, 2) := by decide +kernel
theorem dX11_weightOf_42 : decode cX11_weightOf 42 = .ok (.iaload, 1) := by decide +kernel
theorem dX11_weightOf_43 : decode cX11_weightOf 43 = .ok (.iload_n 2, 1) := by decide +kernel
theorem dX11_weightOf_44 : decode cX11_weightOf 44 = .ok (.aload_n 0, 1) := by decide +kernel
theorem dX11_weightOf_45 : decode cX11_weightOf 45 = .ok (.getfield 32, 3) := by decide +kernel
theorem dX11_weightOf_48 : decode cX11_weightOf 48 = .ok (.isub, 1) := by decide +kernel
theorem dX11_weightOf_49 : decode cX11_weightOf 49 = .ok (.if_icmp .le 13, 3) := by decide +kernel
theorem dX11_weightOf_52 : decode cX11_weightOf 52 = .ok (.iload_n 3, 1) := by decide +kernel
theorem dX11_weightOf_53 : decode cX11_weightOf 53 = .ok (.aload_n 0, 1) := by decide +kernel
theorem dX11_weightOf_54 : decode cX11_weightOf 54 = .ok (.getfield 22, 3) := by decide +kernel
theorem dX11_weightOf_57 : decode cX11_weightOf 57 = .ok (.iload 4, 2) := by decide +kernel
theorem dX11_weightOf_59 : decode cX11_weightOf 59 = .ok (.iaload, 1) := by decide +kernel
theorem dX11_weightOf_60 : decode cX11_weightOf 60 = .ok (.iadd, 1) := by decide +kernel
theorem dX11_weightOf_61 : decode cX11_weightOf 61 = .ok (.istore_n 3, 1) := by decide +kernel
theorem dX11_weightOf_62 : decode cX11_weightOf 62 = .ok (.iinc 4 1, 3) := by decide +kernel
theorem dX11_weightOf_65 : decode cX11_weightOf 65 = .ok (.goto (-60), 3) := by decide +kernel
theorem dX11_weightOf_68 : decode cX11_weightOf 68 = .ok (.iload_n 3, 1) := by decide +kernel
theorem dX11_weightOf_69 : decode cX11_weightOf 69 = .ok (.ireturn, 1) := by decide +kernel
theorem dX11_isNeeded_0 : decode cX11_isNeeded 0 = .ok (.aload_n 0, 1) := by decide +kernel
theorem dX11_isNeeded_1 : decode cX11_isNeeded 1 = .ok (.getfield 25, 3) := by decide +kernel
theorem dX11_isNeeded_4 : decode cX11_isNeeded 4 = .ok (.iload_n 1, 1) := by decide +kernel
theorem dX11_isNeeded_5 : decode cX11_isNeeded 5 = .ok (.baload, 1) := by decide +kernel
theorem dX11_isNeeded_6 : decode cX11_isNeeded 6 = .ok (.ifCond .ne 20, 3) := by decide +kernel
theorem dX11_isNeeded_9 : decode cX11_isNeeded 9 = .ok (.aload_n 0, 1) := by decide +kernel
theorem dX11_isNeeded_10 : decode cX11_isNeeded 10 = .ok (.getfield 29, 3) := by decide +kernel
theorem dX11_isNeeded_13 : decode cX11_isNeeded 13 = .ok (.iload_n 1, 1) := by decide +kernel
theorem dX11_isNeeded_14 : decode cX11_isNeeded 14 = .ok (.baload, 1) := by decide +kernel
theorem dX11_isNeeded_15 : decode cX11_isNeeded 15 = .ok (.ifCond .ne 15, 3) := by decide +kernel
theorem dX11_isNeeded_18 : decode cX11_isNeeded 18 = .ok (.iload_n 2, 1) := by decide +kernel
theorem dX11_isNeeded_19 : decode cX11_isNeeded 19 = .ok (.aload_n 0, 1) := by decide +kernel
theorem dX11_isNeeded_20 : decode cX11_isNeeded 20 = .ok (.getfield 36, 3) := by decide +kernel
theorem dX11_isNeeded_23 : decode cX11_isNeeded 23 = .ok (.if_icmp .lt 7, 3) := by decide +kernel
theorem dX11_isNeeded_26 : decode cX11_isNeeded 26 = .ok (.iconst 1, 1) := by decide +kernel
theorem dX11_isNeeded_27 : decode cX11_isNeeded 27 = .ok (.goto 4, 3) := by decide +kernel
theorem dX11_isNeeded_30 : decode cX11_isNeeded 30 = .ok (.iconst 0, 1) := by decide +kernel
theorem dX11_isNeeded_31 : decode cX11_isNeeded 31 = .ok (.ireturn, 1) := by decide +kernel
theorem dX11_weight_0 : decode cX11_weight 0 = .ok (.aload_n 0, 1) := by decide +kernel
theorem dX11_weight_1 : decode cX11_weight 1 = .ok (.iconst 0, 1) := by decide +kernel
theorem dX11_weight_2 : decode cX11_weight 2 = .ok (.putfield 93, 3) := by decide +kernel
theorem dX11_weight_5 : decode cX11_weight 5 = .ok (.aload_n 0, 1) := by decide +kernel
theorem dX11_weight_6 : decode cX11_weight 6 = .ok (.iload_n 1, 1) := by decide +kernel
theorem dX11_weight_7 : decode cX11_weight 7 = .ok (.iload_n 2, 1) := by decide +kernel
theorem dX11_weight_8 : decode cX11_weight 8 = .ok (.iload_n 3, 1) := by decide +kernel
theorem dX11_weight_9 : decode cX11_weight 9 = .ok (.invokevirtual 103, 3) := by decide +kernel
theorem dX11_weight_12 : decode cX11_weight 12 = .ok (.istore 5, 2) := by decide +kernel
theorem dX11_weight_14 : decode cX11_weight 14 = .ok (.iload 5, 2) := by decide +kernel
theorem dX11_weight_16 : decode cX11_weight 16 = .ok (.iconst (-1), 1) := by decide +kernel
theorem dX11_weight_17 : decode cX11_weight 17 = .ok (.if_icmp .eq 11, 3) := by decide +kernel
theorem dX11_weight_20 : decode cX11_weight 20 = .ok (.iload 4, 2) := by decide +kernel
theorem dX11_weight_22 : decode cX11_weight 22 = .ok (.invokestatic 107, 3) := by decide +kernel
theorem dX11_weight_25 : decode cX11_weight 25 = .ok (.ifCond .ne 7, 3) := by decide +kernel
theorem dX11_weight_28 : decode cX11_weight 28 = .ok (.iconst (-1), 1) := by decide +kernel
theorem dX11_weight_29 : decode cX11_weight 29 = .ok (.goto 11, 3) := by decide +kernel
theorem dX11_weight_32 : decode cX11_weight 32 = .ok (.aload_n 0, 1) := by decide +kernel
theorem dX11_weight_33 : decode cX11_weight 33 = .ok (.iload 5, 2) := by decide +kernel
theorem dX11_weight_35 : decode cX11_weight 35 = .ok (.iload 4, 2) := by decide +kernel
theorem dX11_weight_37 : decode cX11_weight 37 = .ok (.invokevirtual 117, 3) := by decide +kernel
theorem dX11_weight_40 : decode cX11_weight 40 = .ok (.ireturn, 1) := by decide +kernel
theorem dX11_needed_0 : decode cX11_needed 0 = .ok (.aload_n 0, 1) := by decide +kernel
theorem dX11_needed_1 : decode cX11_needed 1 = .ok (.iconst 0, 1) := by decide +kernel
theorem dX11_needed_2 : decode cX11_needed 2 = .ok (.putfield 93, 3) := by decide +kernel
theorem dX11_needed_5 : decode cX11_needed 5 = .ok (.aload_n 0, 1) := by decide +kernel
theorem dX11_needed_6 : decode cX11_needed 6 = .ok (.iload_n 1, 1) := by decide +kernel
theorem dX11_needed_7 : decode cX11_needed 7 = .ok (.iload_n 2, 1) := by decide +kernel
theorem dX11_needed_8 : decode cX11_needed 8 = .ok (.iload_n 3, 1) := by decide +kernel
theorem dX11_needed_9 : decode cX11_needed 9 = .ok (.invokevirtual 103, 3) := by decide +kernel
theorem dX11_needed_12 : decode cX11_needed 12 = .ok (.istore 5, 2) := by decide +kernel
theorem dX11_needed_14 : decode cX11_needed 14 = .ok (.iload 5, 2) := by decide +kernel
theorem dX11_needed_16 : decode cX11_needed 16 = .ok (.iconst (-1), 1) := by decide +kernel
theorem dX11_needed_17 : decode cX11_needed 17 = .ok (.if_icmp .eq 11, 3) := by decide +kernel
theorem dX11_needed_20 : decode cX11_needed 20 = .ok (.iload 4, 2) := by decide +kernel
theorem dX11_needed_22 : decode cX11_needed 22 = .ok (.invokestatic 107, 3) := by decide +kernel
theorem dX11_needed_25 : decode cX11_needed 25 = .ok (.ifCond .ne 7, 3) := by decide +kernel
theorem dX11_needed_28 : decode cX11_needed 28 = .ok (.iconst (-1), 1) := by decide +kernel
theorem dX11_needed_29 : decode cX11_needed 29 = .ok (.goto 25, 3) := by decide +kernel
theorem dX11_needed_32 : decode cX11_needed 32 = .ok (.aload_n 0, 1) := by decide +kernel
theorem dX11_needed_33 : decode cX11_needed 33 = .ok (.iload 5, 2) := by decide +kernel
theorem dX11_needed_35 : decode cX11_needed 35 = .ok (.aload_n 0, 1) := by decide +kernel
theorem dX11_needed_36 : decode cX11_needed 36 = .ok (.iload 5, 2) := by decide +kernel
theorem dX11_needed_38 : decode cX11_needed 38 = .ok (.iload 4, 2) := by decide +kernel
theorem dX11_needed_40 : decode cX11_needed 40 = .ok (.invokevirtual 117, 3) := by decide +kernel
theorem dX11_needed_43 : decode cX11_needed 43 = .ok (.invokevirtual 121, 3) := by decide +kernel
theorem dX11_needed_46 : decode cX11_needed 46 = .ok (.ifCond .eq 7, 3) := by decide +kernel
theorem dX11_needed_49 : decode cX11_needed 49 = .ok (.iconst 1, 1) := by decide +kernel
theorem dX11_needed_50 : decode cX11_needed 50 = .ok (.goto 4, 3) := by decide +kernel
theorem dX11_needed_53 : decode cX11_needed 53 = .ok (.iconst 0, 1) := by decide +kernel
theorem dX11_needed_54 : decode cX11_needed 54 = .ok (.ireturn, 1) := by decide +kernel
theorem dX11_dues_0 : decode cX11_dues 0 = .ok (.iconst 0, 1) := by decide +kernel
theorem dX11_dues_1 : decode cX11_dues 1 = .ok (.istore_n 2, 1) := by decide +kernel
theorem dX11_dues_2 : decode cX11_dues 2 = .ok (.iload_n 2, 1) := by decide +kernel
theorem dX11_dues_3 : decode cX11_dues 3 = .ok (.sipush 256, 3) := by decide +kernel
theorem dX11_dues_6 : decode cX11_dues 6 = .ok (.if_icmp .ge 85, 3) := by decide +kernel
theorem dX11_dues_9 : decode cX11_dues 9 = .ok (.aload_n 0, 1) := by decide +kernel
theorem dX11_dues_10 : decode cX11_dues 10 = .ok (.iload_n 2, 1) := by decide +kernel
theorem dX11_dues_11 : decode cX11_dues 11 = .ok (.bipush 32, 2) := by decide +kernel
theorem dX11_dues_13 : decode cX11_dues 13 = .ok (.idiv, 1) := by decide +kernel
theorem dX11_dues_14 : decode cX11_dues 14 = .ok (.iload_n 2, 1) := by decide +kernel
theorem dX11_dues_15 : decode cX11_dues 15 = .ok (.iconst 4, 1) := by decide +kernel
theorem dX11_dues_16 : decode cX11_dues 16 = .ok (.idiv, 1) := by decide +kernel
theorem dX11_dues_17 : decode cX11_dues 17 = .ok (.bipush 8, 2) := by decide +kernel
theorem dX11_dues_19 : decode cX11_dues 19 = .ok (.irem, 1) := by decide +kernel
theorem dX11_dues_20 : decode cX11_dues 20 = .ok (.iload_n 2, 1) := by decide +kernel
theorem dX11_dues_21 : decode cX11_dues 21 = .ok (.iconst 4, 1) := by decide +kernel
theorem dX11_dues_22 : decode cX11_dues 22 = .ok (.irem, 1) := by decide +kernel
theorem dX11_dues_23 : decode cX11_dues 23 = .ok (.invokevirtual 103, 3) := by decide +kernel
theorem dX11_dues_26 : decode cX11_dues 26 = .ok (.iconst (-1), 1) := by decide +kernel
theorem dX11_dues_27 : decode cX11_dues 27 = .ok (.if_icmp .eq 7, 3) := by decide +kernel
theorem dX11_dues_30 : decode cX11_dues 30 = .ok (.iconst 1, 1) := by decide +kernel
theorem dX11_dues_31 : decode cX11_dues 31 = .ok (.goto 4, 3) := by decide +kernel
theorem dX11_dues_34 : decode cX11_dues 34 = .ok (.iconst 0, 1) := by decide +kernel
theorem dX11_dues_35 : decode cX11_dues 35 = .ok (.istore_n 3, 1) := by decide +kernel
theorem dX11_dues_36 : decode cX11_dues 36 = .ok (.aload_n 0, 1) := by decide +kernel
theorem dX11_dues_37 : decode cX11_dues 37 = .ok (.getfield 48, 3) := by decide +kernel
theorem dX11_dues_40 : decode cX11_dues 40 = .ok (.iload_n 2, 1) := by decide +kernel
theorem dX11_dues_41 : decode cX11_dues 41 = .ok (.iload_n 3, 1) := by decide +kernel
theorem dX11_dues_42 : decode cX11_dues 42 = .ok (.ifCond .eq 12, 3) := by decide +kernel
theorem dX11_dues_45 : decode cX11_dues 45 = .ok (.aload_n 0, 1) := by decide +kernel
theorem dX11_dues_46 : decode cX11_dues 46 = .ok (.iload_n 2, 1) := by decide +kernel
theorem dX11_dues_47 : decode cX11_dues 47 = .ok (.iload_n 1, 1) := by decide +kernel
theorem dX11_dues_48 : decode cX11_dues 48 = .ok (.invokevirtual 117, 3) := by decide +kernel
theorem dX11_dues_51 : decode cX11_dues 51 = .ok (.goto 4, 3) := by decide +kernel
theorem dX11_dues_54 : decode cX11_dues 54 = .ok (.iconst 0, 1) := by decide +kernel
theorem dX11_dues_55 : decode cX11_dues 55 = .ok (.iastore, 1) := by decide +kernel
theorem dX11_dues_56 : decode cX11_dues 56 = .ok (.aload_n 0, 1) := by decide +kernel
theorem dX11_dues_57 : decode cX11_dues 57 = .ok (.getfield 45, 3) := by decide +kernel
theorem dX11_dues_60 : decode cX11_dues 60 = .ok (.iload_n 2, 1) := by decide +kernel
theorem dX11_dues_61 : decode cX11_dues 61 = .ok (.iload_n 3, 1) := by decide +kernel
theorem dX11_dues_62 : decode cX11_dues 62 = .ok (.ifCond .eq 21, 3) := by decide +kernel
theorem dX11_dues_65 : decode cX11_dues 65 = .ok (.aload_n 0, 1) := by decide +kernel
theorem dX11_dues_66 : decode cX11_dues 66 = .ok (.iload_n 2, 1) := by decide +kernel
theorem dX11_dues_67 : decode cX11_dues 67 = .ok (.aload_n 0, 1) := by decide +kernel
theorem dX11_dues_68 : decode cX11_dues 68 = .ok (.getfield 48, 3) := by decide +kernel
theorem dX11_dues_71 : decode cX11_dues 71 = .ok (.iload_n 2, 1) := by decide +kernel
theorem dX11_dues_72 : decode cX11_dues 72 = .ok (.iaload, 1) := by decide +kernel
theorem dX11_dues_73 : decode cX11_dues 73 = .ok (.invokevirtual 121, 3) := by decide +kernel
theorem dX11_dues_76 : decode cX11_dues 76 = .ok (.ifCond .eq 7, 3) := by decide +kernel
theorem dX11_dues_79 : decode cX11_dues 79 = .ok (.iconst 1, 1) := by decide +kernel
theorem dX11_dues_80 : decode cX11_dues 80 = .ok (.goto 4, 3) := by decide +kernel
theorem dX11_dues_83 : decode cX11_dues 83 = .ok (.iconst 0, 1) := by decide +kernel
theorem dX11_dues_84 : decode cX11_dues 84 = .ok (.bastore, 1) := by decide +kernel
theorem dX11_dues_85 : decode cX11_dues 85 = .ok (.iinc 2 1, 3) := by decide +kernel
theorem dX11_dues_88 : decode cX11_dues 88 = .ok (.goto (-86), 3) := by decide +kernel
theorem dX11_dues_91 : decode cX11_dues 91 = .ok (.return_, 1) := by decide +kernel
theorem dX11_between_0 : decode cX11_between 0 = .ok (.bipush 32, 2) := by decide +kernel
theorem dX11_between_2 : decode cX11_between 2 = .ok (.aload_n 0, 1) := by decide +kernel
theorem dX11_between_3 : decode cX11_between 3 = .ok (.getfield 57, 3) := by decide +kernel
theorem dX11_between_6 : decode cX11_between 6 = .ok (.iload_n 1, 1) := by decide +kernel
theorem dX11_between_7 : decode cX11_between 7 = .ok (.bipush 32, 2) := by decide +kernel
theorem dX11_between_9 : decode cX11_between 9 = .ok (.idiv, 1) := by decide +kernel
theorem dX11_between_10 : decode cX11_between 10 = .ok (.iaload, 1) := by decide +kernel
theorem dX11_between_11 : decode cX11_between 11 = .ok (.imul, 1) := by decide +kernel
theorem dX11_between_12 : decode cX11_between 12 = .ok (.iconst 4, 1) := by decide +kernel
theorem dX11_between_13 : decode cX11_between 13 = .ok (.aload_n 0, 1) := by decide +kernel
theorem dX11_between_14 : decode cX11_between 14 = .ok (.getfield 57, 3) := by decide +kernel
theorem dX11_between_17 : decode cX11_between 17 = .ok (.iload_n 1, 1) := by decide +kernel
theorem dX11_between_18 : decode cX11_between 18 = .ok (.iconst 4, 1) := by decide +kernel
theorem dX11_between_19 : decode cX11_between 19 = .ok (.idiv, 1) := by decide +kernel
theorem dX11_between_20 : decode cX11_between 20 = .ok (.bipush 8, 2) := by decide +kernel
theorem dX11_between_22 : decode cX11_between 22 = .ok (.irem, 1) := by decide +kernel
theorem dX11_between_23 : decode cX11_between 23 = .ok (.iaload, 1) := by decide +kernel
theorem dX11_between_24 : decode cX11_between 24 = .ok (.imul, 1) := by decide +kernel
theorem dX11_between_25 : decode cX11_between 25 = .ok (.iadd, 1) := by decide +kernel
theorem dX11_between_26 : decode cX11_between 26 = .ok (.iload_n 1, 1) := by decide +kernel
theorem dX11_between_27 : decode cX11_between 27 = .ok (.iconst 4, 1) := by decide +kernel
theorem dX11_between_28 : decode cX11_between 28 = .ok (.irem, 1) := by decide +kernel
theorem dX11_between_29 : decode cX11_between 29 = .ok (.iadd, 1) := by decide +kernel
theorem dX11_between_30 : decode cX11_between 30 = .ok (.ireturn, 1) := by decide +kernel
theorem dX11_isTried_0 : decode cX11_isTried 0 = .ok (.aload_n 0, 1) := by decide +kernel
theorem dX11_isTried_1 : decode cX11_isTried 1 = .ok (.iload_n 1, 1) := by decide +kernel
theorem dX11_isTried_2 : decode cX11_isTried 2 = .ok (.bipush 32, 2) := by decide +kernel
theorem dX11_isTried_4 : decode cX11_isTried 4 = .ok (.idiv, 1) := by decide +kernel
theorem dX11_isTried_5 : decode cX11_isTried 5 = .ok (.iload_n 1, 1) := by decide +kernel
theorem dX11_isTried_6 : decode cX11_isTried 6 = .ok (.iconst 4, 1) := by decide +kernel
theorem dX11_isTried_7 : decode cX11_isTried 7 = .ok (.idiv, 1) := by decide +kernel
theorem dX11_isTried_8 : decode cX11_isTried 8 = .ok (.bipush 8, 2) := by decide +kernel
theorem dX11_isTried_10 : decode cX11_isTried 10 = .ok (.irem, 1) := by decide +kernel
theorem dX11_isTried_11 : decode cX11_isTried 11 = .ok (.iload_n 1, 1) := by decide +kernel
theorem dX11_isTried_12 : decode cX11_isTried 12 = .ok (.iconst 4, 1) := by decide +kernel
theorem dX11_isTried_13 : decode cX11_isTried 13 = .ok (.irem, 1) := by decide +kernel
theorem dX11_isTried_14 : decode cX11_isTried 14 = .ok (.invokevirtual 103, 3) := by decide +kernel
theorem dX11_isTried_17 : decode cX11_isTried 17 = .ok (.iconst (-1), 1) := by decide +kernel
theorem dX11_isTried_18 : decode cX11_isTried 18 = .ok (.if_icmp .eq 35, 3) := by decide +kernel
theorem dX11_isTried_21 : decode cX11_isTried 21 = .ok (.aload_n 0, 1) := by decide +kernel
theorem dX11_isTried_22 : decode cX11_isTried 22 = .ok (.getfield 57, 3) := by decide +kernel
theorem dX11_isTried_25 : decode cX11_isTried 25 = .ok (.iload_n 1, 1) := by decide +kernel
theorem dX11_isTried_26 : decode cX11_isTried 26 = .ok (.bipush 32, 2) := by decide +kernel
theorem dX11_isTried_28 : decode cX11_isTried 28 = .ok (.idiv, 1) := by decide +kernel
theorem dX11_isTried_29 : decode cX11_isTried 29 = .ok (.iaload, 1) := by decide +kernel
theorem dX11_isTried_30 : decode cX11_isTried 30 = .ok (.iconst (-1), 1) := by decide +kernel
theorem dX11_isTried_31 : decode cX11_isTried 31 = .ok (.if_icmp .eq 22, 3) := by decide +kernel
theorem dX11_isTried_34 : decode cX11_isTried 34 = .ok (.aload_n 0, 1) := by decide +kernel
theorem dX11_isTried_35 : decode cX11_isTried 35 = .ok (.getfield 57, 3) := by decide +kernel
theorem dX11_isTried_38 : decode cX11_isTried 38 = .ok (.iload_n 1, 1) := by decide +kernel
theorem dX11_isTried_39 : decode cX11_isTried 39 = .ok (.iconst 4, 1) := by decide +kernel
theorem dX11_isTried_40 : decode cX11_isTried 40 = .ok (.idiv, 1) := by decide +kernel
theorem dX11_isTried_41 : decode cX11_isTried 41 = .ok (.bipush 8, 2) := by decide +kernel
theorem dX11_isTried_43 : decode cX11_isTried 43 = .ok (.irem, 1) := by decide +kernel
theorem dX11_isTried_44 : decode cX11_isTried 44 = .ok (.iaload, 1) := by decide +kernel
theorem dX11_isTried_45 : decode cX11_isTried 45 = .ok (.iconst (-1), 1) := by decide +kernel
theorem dX11_isTried_46 : decode cX11_isTried 46 = .ok (.if_icmp .eq 7, 3) := by decide +kernel
theorem dX11_isTried_49 : decode cX11_isTried 49 = .ok (.iconst 1, 1) := by decide +kernel
theorem dX11_isTried_50 : decode cX11_isTried 50 = .ok (.goto 4, 3) := by decide +kernel
theorem dX11_isTried_53 : decode cX11_isTried 53 = .ok (.iconst 0, 1) := by decide +kernel
theorem dX11_isTried_54 : decode cX11_isTried 54 = .ok (.ireturn, 1) := by decide +kernel
theorem dX11_costs_0 : decode cX11_costs 0 = .ok (.iconst 0, 1) := by decide +kernel
theorem dX11_costs_1 : decode cX11_costs 1 = .ok (.istore_n 1, 1) := by decide +kernel
theorem dX11_costs_2 : decode cX11_costs 2 = .ok (.iload_n 1, 1) := by decide +kernel
theorem dX11_costs_3 : decode cX11_costs 3 = .ok (.sipush 256, 3) := by decide +kernel
theorem dX11_costs_6 : decode cX11_costs 6 = .ok (.if_icmp .ge 16, 3) := by decide +kernel
theorem dX11_costs_9 : decode cX11_costs 9 = .ok (.aload_n 0, 1) := by decide +kernel
theorem dX11_costs_10 : decode cX11_costs 10 = .ok (.getfield 63, 3) := by decide +kernel
theorem dX11_costs_13 : decode cX11_costs 13 = .ok (.iload_n 1, 1) := by decide +kernel
theorem dX11_costs_14 : decode cX11_costs 14 = .ok (.iconst 0, 1) := by decide +kernel
theorem dX11_costs_15 : decode cX11_costs 15 = .ok (.bastore, 1) := by decide +kernel
theorem dX11_costs_16 : decode cX11_costs 16 = .ok (.iinc 1 1, 3) := by decide +kernel
theorem dX11_costs_19 : decode cX11_costs 19 = .ok (.goto (-17), 3) := by decide +kernel
theorem dX11_costs_22 : decode cX11_costs 22 = .ok (.iconst 0, 1) := by decide +kernel
theorem dX11_costs_23 : decode cX11_costs 23 = .ok (.istore_n 1, 1) := by decide +kernel
theorem dX11_costs_24 : decode cX11_costs 24 = .ok (.iconst 0, 1) := by decide +kernel
theorem dX11_costs_25 : decode cX11_costs 25 = .ok (.istore_n 2, 1) := by decide +kernel
theorem dX11_costs_26 : decode cX11_costs 26 = .ok (.iload_n 2, 1) := by decide +kernel
theorem dX11_costs_27 : decode cX11_costs 27 = .ok (.sipush 256, 3) := by decide +kernel
theorem dX11_costs_30 : decode cX11_costs 30 = .ok (.if_icmp .ge 79, 3) := by decide +kernel
theorem dX11_costs_33 : decode cX11_costs 33 = .ok (.aload_n 0, 1) := by decide +kernel
theorem dX11_costs_34 : decode cX11_costs 34 = .ok (.iload_n 2, 1) := by decide +kernel
theorem dX11_costs_35 : decode cX11_costs 35 = .ok (.invokevirtual 125, 3) := by decide +kernel
theorem dX11_costs_38 : decode cX11_costs 38 = .ok (.ifCond .eq 65, 3) := by decide +kernel
theorem dX11_costs_41 : decode cX11_costs 41 = .ok (.aload_n 0, 1) := by decide +kernel
theorem dX11_costs_42 : decode cX11_costs 42 = .ok (.getfield 45, 3) := by decide +kernel
theorem dX11_costs_45 : decode cX11_costs 45 = .ok (.iload_n 2, 1) := by decide +kernel
theorem dX11_costs_46 : decode cX11_costs 46 = .ok (.baload, 1) := by decide +kernel
theorem dX11_costs_47 : decode cX11_costs 47 = .ok (.ifCond .eq 56, 3) := by decide +kernel
theorem dX11_costs_50 : decode cX11_costs 50 = .ok (.aload_n 0, 1) := by decide +kernel
theorem dX11_costs_51 : decode cX11_costs 51 = .ok (.getfield 57, 3) := by decide +kernel
theorem dX11_costs_54 : decode cX11_costs 54 = .ok (.iload_n 2, 1) := by decide +kernel
theorem dX11_costs_55 : decode cX11_costs 55 = .ok (.bipush 32, 2) := by decide +kernel
theorem dX11_costs_57 : decode cX11_costs 57 = .ok (.idiv, 1) := by decide +kernel
theorem dX11_costs_58 : decode cX11_costs 58 = .ok (.iaload, 1) := by decide +kernel
theorem dX11_costs_59 : decode cX11_costs 59 = .ok (.aload_n 0, 1) := by decide +kernel
theorem dX11_costs_60 : decode cX11_costs 60 = .ok (.getfield 57, 3) := by decide +kernel
theorem dX11_costs_63 : decode cX11_costs 63 = .ok (.iload_n 2, 1) := by decide +kernel
theorem dX11_costs_64 : decode cX11_costs 64 = .ok (.iconst 4, 1) := by decide +kernel
theorem dX11_costs_65 : decode cX11_costs 65 = .ok (.idiv, 1) := by decide +kernel
theorem dX11_costs_66 : decode cX11_costs 66 = .ok (.bipush 8, 2) := by decide +kernel
theorem dX11_costs_68 : decode cX11_costs 68 = .ok (.irem, 1) := by decide +kernel
theorem dX11_costs_69 : decode cX11_costs 69 = .ok (.iaload, 1) := by decide +kernel
theorem dX11_costs_70 : decode cX11_costs 70 = .ok (.if_icmp .eq 33, 3) := by decide +kernel
theorem dX11_costs_73 : decode cX11_costs 73 = .ok (.aload_n 0, 1) := by decide +kernel
theorem dX11_costs_74 : decode cX11_costs 74 = .ok (.getfield 63, 3) := by decide +kernel
theorem dX11_costs_77 : decode cX11_costs 77 = .ok (.aload_n 0, 1) := by decide +kernel
theorem dX11_costs_78 : decode cX11_costs 78 = .ok (.iload_n 2, 1) := by decide +kernel
theorem dX11_costs_79 : decode cX11_costs 79 = .ok (.invokevirtual 128, 3) := by decide +kernel
theorem dX11_costs_82 : decode cX11_costs 82 = .ok (.baload, 1) := by decide +kernel
theorem dX11_costs_83 : decode cX11_costs 83 = .ok (.ifCond .eq 6, 3) := by decide +kernel
theorem dX11_costs_86 : decode cX11_costs 86 = .ok (.goto 17, 3) := by decide +kernel
theorem dX11_costs_89 : decode cX11_costs 89 = .ok (.aload_n 0, 1) := by decide +kernel
theorem dX11_costs_90 : decode cX11_costs 90 = .ok (.getfield 63, 3) := by decide +kernel
theorem dX11_costs_93 : decode cX11_costs 93 = .ok (.aload_n 0, 1) := by decide +kernel
theorem dX11_costs_94 : decode cX11_costs 94 = .ok (.iload_n 2, 1) := by decide +kernel
theorem dX11_costs_95 : decode cX11_costs 95 = .ok (.invokevirtual 128, 3) := by decide +kernel
theorem dX11_costs_98 : decode cX11_costs 98 = .ok (.iconst 1, 1) := by decide +kernel
theorem dX11_costs_99 : decode cX11_costs 99 = .ok (.bastore, 1) := by decide +kernel
theorem dX11_costs_100 : decode cX11_costs 100 = .ok (.iinc 1 1, 3) := by decide +kernel
theorem dX11_costs_103 : decode cX11_costs 103 = .ok (.iinc 2 1, 3) := by decide +kernel
theorem dX11_costs_106 : decode cX11_costs 106 = .ok (.goto (-80), 3) := by decide +kernel
theorem dX11_costs_109 : decode cX11_costs 109 = .ok (.aload_n 0, 1) := by decide +kernel
theorem dX11_costs_110 : decode cX11_costs 110 = .ok (.iconst 0, 1) := by decide +kernel
theorem dX11_costs_111 : decode cX11_costs 111 = .ok (.putfield 132, 3) := by decide +kernel
theorem dX11_costs_114 : decode cX11_costs 114 = .ok (.iconst 0, 1) := by decide +kernel
theorem dX11_costs_115 : decode cX11_costs 115 = .ok (.istore_n 2, 1) := by decide +kernel
theorem dX11_costs_116 : decode cX11_costs 116 = .ok (.iload_n 2, 1) := by decide +kernel
theorem dX11_costs_117 : decode cX11_costs 117 = .ok (.sipush 256, 3) := by decide +kernel
theorem dX11_costs_120 : decode cX11_costs 120 = .ok (.if_icmp .ge 104, 3) := by decide +kernel
theorem dX11_costs_123 : decode cX11_costs 123 = .ok (.aload_n 0, 1) := by decide +kernel
theorem dX11_costs_124 : decode cX11_costs 124 = .ok (.iload_n 2, 1) := by decide +kernel
theorem dX11_costs_125 : decode cX11_costs 125 = .ok (.invokevirtual 125, 3) := by decide +kernel
theorem dX11_costs_128 : decode cX11_costs 128 = .ok (.ifCond .ne 6, 3) := by decide +kernel
theorem dX11_costs_131 : decode cX11_costs 131 = .ok (.goto 87, 3) := by decide +kernel
theorem dX11_costs_134 : decode cX11_costs 134 = .ok (.aload_n 0, 1) := by decide +kernel
theorem dX11_costs_135 : decode cX11_costs 135 = .ok (.getfield 57, 3) := by decide +kernel
theorem dX11_costs_138 : decode cX11_costs 138 = .ok (.iload_n 2, 1) := by decide +kernel
theorem dX11_costs_139 : decode cX11_costs 139 = .ok (.bipush 32, 2) := by decide +kernel
theorem dX11_costs_141 : decode cX11_costs 141 = .ok (.idiv, 1) := by decide +kernel
theorem dX11_costs_142 : decode cX11_costs 142 = .ok (.iaload, 1) := by decide +kernel
theorem dX11_costs_143 : decode cX11_costs 143 = .ok (.aload_n 0, 1) := by decide +kernel
theorem dX11_costs_144 : decode cX11_costs 144 = .ok (.getfield 57, 3) := by decide +kernel
theorem dX11_costs_147 : decode cX11_costs 147 = .ok (.iload_n 2, 1) := by decide +kernel
theorem dX11_costs_148 : decode cX11_costs 148 = .ok (.iconst 4, 1) := by decide +kernel
theorem dX11_costs_149 : decode cX11_costs 149 = .ok (.idiv, 1) := by decide +kernel
theorem dX11_costs_150 : decode cX11_costs 150 = .ok (.bipush 8, 2) := by decide +kernel
theorem dX11_costs_152 : decode cX11_costs 152 = .ok (.irem, 1) := by decide +kernel
theorem dX11_costs_153 : decode cX11_costs 153 = .ok (.iaload, 1) := by decide +kernel
theorem dX11_costs_154 : decode cX11_costs 154 = .ok (.if_icmp .eq 16, 3) := by decide +kernel
theorem dX11_costs_157 : decode cX11_costs 157 = .ok (.aload_n 0, 1) := by decide +kernel
theorem dX11_costs_158 : decode cX11_costs 158 = .ok (.getfield 63, 3) := by decide +kernel
theorem dX11_costs_161 : decode cX11_costs 161 = .ok (.aload_n 0, 1) := by decide +kernel
theorem dX11_costs_162 : decode cX11_costs 162 = .ok (.iload_n 2, 1) := by decide +kernel
theorem dX11_costs_163 : decode cX11_costs 163 = .ok (.invokevirtual 128, 3) := by decide +kernel
theorem dX11_costs_166 : decode cX11_costs 166 = .ok (.baload, 1) := by decide +kernel
theorem dX11_costs_167 : decode cX11_costs 167 = .ok (.ifCond .eq 7, 3) := by decide +kernel
theorem dX11_costs_170 : decode cX11_costs 170 = .ok (.iconst 1, 1) := by decide +kernel
theorem dX11_costs_171 : decode cX11_costs 171 = .ok (.goto 4, 3) := by decide +kernel
theorem dX11_costs_174 : decode cX11_costs 174 = .ok (.iconst 0, 1) := by decide +kernel
theorem dX11_costs_175 : decode cX11_costs 175 = .ok (.istore_n 3, 1) := by decide +kernel
theorem dX11_costs_176 : decode cX11_costs 176 = .ok (.iload_n 3, 1) := by decide +kernel
theorem dX11_costs_177 : decode cX11_costs 177 = .ok (.ifCond .eq 14, 3) := by decide +kernel
theorem dX11_costs_180 : decode cX11_costs 180 = .ok (.aload_n 0, 1) := by decide +kernel
theorem dX11_costs_181 : decode cX11_costs 181 = .ok (.getfield 29, 3) := by decide +kernel
theorem dX11_costs_184 : decode cX11_costs 184 = .ok (.iload_n 2, 1) := by decide +kernel
theorem dX11_costs_185 : decode cX11_costs 185 = .ok (.baload, 1) := by decide +kernel
theorem dX11_costs_186 : decode cX11_costs 186 = .ok (.ifCond .eq 5, 3) := by decide +kernel
theorem dX11_costs_189 : decode cX11_costs 189 = .ok (.iconst (-1), 1) := by decide +kernel
theorem dX11_costs_190 : decode cX11_costs 190 = .ok (.ireturn, 1) := by decide +kernel
theorem dX11_costs_191 : decode cX11_costs 191 = .ok (.aload_n 0, 1) := by decide +kernel
theorem dX11_costs_192 : decode cX11_costs 192 = .ok (.dup, 1) := by decide +kernel
theorem dX11_costs_193 : decode cX11_costs 193 = .ok (.getfield 132, 3) := by decide +kernel
theorem dX11_costs_196 : decode cX11_costs 196 = .ok (.iload_n 3, 1) := by decide +kernel
theorem dX11_costs_197 : decode cX11_costs 197 = .ok (.ifCond .eq 16, 3) := by decide +kernel
theorem dX11_costs_200 : decode cX11_costs 200 = .ok (.aload_n 0, 1) := by decide +kernel
theorem dX11_costs_201 : decode cX11_costs 201 = .ok (.getfield 45, 3) := by decide +kernel
theorem dX11_costs_204 : decode cX11_costs 204 = .ok (.iload_n 2, 1) := by decide +kernel
theorem dX11_costs_205 : decode cX11_costs 205 = .ok (.baload, 1) := by decide +kernel
theorem dX11_costs_206 : decode cX11_costs 206 = .ok (.ifCond .ne 7, 3) := by decide +kernel
theorem dX11_costs_209 : decode cX11_costs 209 = .ok (.iconst 1, 1) := by decide +kernel
theorem dX11_costs_210 : decode cX11_costs 210 = .ok (.goto 4, 3) := by decide +kernel
theorem dX11_costs_213 : decode cX11_costs 213 = .ok (.iconst 0, 1) := by decide +kernel
theorem dX11_costs_214 : decode cX11_costs 214 = .ok (.iadd, 1) := by decide +kernel
theorem dX11_costs_215 : decode cX11_costs 215 = .ok (.putfield 132, 3) := by decide +kernel
theorem dX11_costs_218 : decode cX11_costs 218 = .ok (.iinc 2 1, 3) := by decide +kernel
theorem dX11_costs_221 : decode cX11_costs 221 = .ok (.goto (-105), 3) := by decide +kernel
theorem dX11_costs_224 : decode cX11_costs 224 = .ok (.iload_n 1, 1) := by decide +kernel
theorem dX11_costs_225 : decode cX11_costs 225 = .ok (.aload_n 0, 1) := by decide +kernel
theorem dX11_costs_226 : decode cX11_costs 226 = .ok (.getfield 39, 3) := by decide +kernel
theorem dX11_costs_229 : decode cX11_costs 229 = .ok (.imul, 1) := by decide +kernel
theorem dX11_costs_230 : decode cX11_costs 230 = .ok (.aload_n 0, 1) := by decide +kernel
theorem dX11_costs_231 : decode cX11_costs 231 = .ok (.getfield 132, 3) := by decide +kernel
theorem dX11_costs_234 : decode cX11_costs 234 = .ok (.aload_n 0, 1) := by decide +kernel
theorem dX11_costs_235 : decode cX11_costs 235 = .ok (.getfield 42, 3) := by decide +kernel
theorem dX11_costs_238 : decode cX11_costs 238 = .ok (.imul, 1) := by decide +kernel
theorem dX11_costs_239 : decode cX11_costs 239 = .ok (.iadd, 1) := by decide +kernel
theorem dX11_costs_240 : decode cX11_costs 240 = .ok (.ireturn, 1) := by decide +kernel
theorem dX11_mixes_0 : decode cX11_mixes 0 = .ok (.iconst 0, 1) := by decide +kernel
theorem dX11_mixes_1 : decode cX11_mixes 1 = .ok (.istore_n 1, 1) := by decide +kernel
theorem dX11_mixes_2 : decode cX11_mixes 2 = .ok (.iload_n 1, 1) := by decide +kernel
theorem dX11_mixes_3 : decode cX11_mixes 3 = .ok (.aload_n 0, 1) := by decide +kernel
theorem dX11_mixes_4 : decode cX11_mixes 4 = .ok (.getfield 96, 3) := by decide +kernel
theorem dX11_mixes_7 : decode cX11_mixes 7 = .ok (.if_icmp .ge 54, 3) := by decide +kernel
theorem dX11_mixes_10 : decode cX11_mixes 10 = .ok (.iconst 0, 1) := by decide +kernel
theorem dX11_mixes_11 : decode cX11_mixes 11 = .ok (.istore_n 2, 1) := by decide +kernel
theorem dX11_mixes_12 : decode cX11_mixes 12 = .ok (.iload_n 2, 1) := by decide +kernel
theorem dX11_mixes_13 : decode cX11_mixes 13 = .ok (.iload_n 1, 1) := by decide +kernel
theorem dX11_mixes_14 : decode cX11_mixes 14 = .ok (.if_icmp .ge 41, 3) := by decide +kernel
theorem dX11_mixes_17 : decode cX11_mixes 17 = .ok (.aload_n 0, 1) := by decide +kernel
theorem dX11_mixes_18 : decode cX11_mixes 18 = .ok (.getfield 57, 3) := by decide +kernel
theorem dX11_mixes_21 : decode cX11_mixes 21 = .ok (.iload_n 1, 1) := by decide +kernel
theorem dX11_mixes_22 : decode cX11_mixes 22 = .ok (.iaload, 1) := by decide +kernel
theorem dX11_mixes_23 : decode cX11_mixes 23 = .ok (.aload_n 0, 1) := by decide +kernel
theorem dX11_mixes_24 : decode cX11_mixes 24 = .ok (.getfield 57, 3) := by decide +kernel
theorem dX11_mixes_27 : decode cX11_mixes 27 = .ok (.iload_n 2, 1) := by decide +kernel
theorem dX11_mixes_28 : decode cX11_mixes 28 = .ok (.iaload, 1) := by decide +kernel
theorem dX11_mixes_29 : decode cX11_mixes 29 = .ok (.if_icmp .ne 20, 3) := by decide +kernel
theorem dX11_mixes_32 : decode cX11_mixes 32 = .ok (.aload_n 0, 1) := by decide +kernel
theorem dX11_mixes_33 : decode cX11_mixes 33 = .ok (.getfield 7, 3) := by decide +kernel
theorem dX11_mixes_36 : decode cX11_mixes 36 = .ok (.iload_n 1, 1) := by decide +kernel
theorem dX11_mixes_37 : decode cX11_mixes 37 = .ok (.iaload, 1) := by decide +kernel
theorem dX11_mixes_38 : decode cX11_mixes 38 = .ok (.aload_n 0, 1) := by decide +kernel
theorem dX11_mixes_39 : decode cX11_mixes 39 = .ok (.getfield 7, 3) := by decide +kernel
theorem dX11_mixes_42 : decode cX11_mixes 42 = .ok (.iload_n 2, 1) := by decide +kernel
theorem dX11_mixes_43 : decode cX11_mixes 43 = .ok (.iaload, 1) := by decide +kernel
theorem dX11_mixes_44 : decode cX11_mixes 44 = .ok (.if_icmp .eq 5, 3) := by decide +kernel
theorem dX11_mixes_47 : decode cX11_mixes 47 = .ok (.iconst 1, 1) := by decide +kernel
theorem dX11_mixes_48 : decode cX11_mixes 48 = .ok (.ireturn, 1) := by decide +kernel
theorem dX11_mixes_49 : decode cX11_mixes 49 = .ok (.iinc 2 1, 3) := by decide +kernel
theorem dX11_mixes_52 : decode cX11_mixes 52 = .ok (.goto (-40), 3) := by decide +kernel
theorem dX11_mixes_55 : decode cX11_mixes 55 = .ok (.iinc 1 1, 3) := by decide +kernel
theorem dX11_mixes_58 : decode cX11_mixes 58 = .ok (.goto (-56), 3) := by decide +kernel
theorem dX11_mixes_61 : decode cX11_mixes 61 = .ok (.iconst 0, 1) := by decide +kernel
theorem dX11_mixes_62 : decode cX11_mixes 62 = .ok (.ireturn, 1) := by decide +kernel
theorem dX11_goesOn_0 : decode cX11_goesOn 0 = .ok (.aload_n 0, 1) := by decide +kernel
theorem dX11_goesOn_1 : decode cX11_goesOn 1 = .ok (.getfield 96, 3) := by decide +kernel
theorem dX11_goesOn_4 : decode cX11_goesOn 4 = .ok (.iconst 1, 1) := by decide +kernel
theorem dX11_goesOn_5 : decode cX11_goesOn 5 = .ok (.isub, 1) := by decide +kernel
theorem dX11_goesOn_6 : decode cX11_goesOn 6 = .ok (.istore_n 1, 1) := by decide +kernel
theorem dX11_goesOn_7 : decode cX11_goesOn 7 = .ok (.iload_n 1, 1) := by decide +kernel
theorem dX11_goesOn_8 : decode cX11_goesOn 8 = .ok (.ifCond .le 85, 3) := by decide +kernel
theorem dX11_goesOn_11 : decode cX11_goesOn 11 = .ok (.iconst (-1), 1) := by decide +kernel
theorem dX11_goesOn_12 : decode cX11_goesOn 12 = .ok (.istore_n 2, 1) := by decide +kernel
theorem dX11_goesOn_13 : decode cX11_goesOn 13 = .ok (.iconst 0, 1) := by decide +kernel
theorem dX11_goesOn_14 : decode cX11_goesOn 14 = .ok (.istore_n 3, 1) := by decide +kernel
theorem dX11_goesOn_15 : decode cX11_goesOn 15 = .ok (.iload_n 3, 1) := by decide +kernel
theorem dX11_goesOn_16 : decode cX11_goesOn 16 = .ok (.iload_n 1, 1) := by decide +kernel
theorem dX11_goesOn_17 : decode cX11_goesOn 17 = .ok (.if_icmp .ge 20, 3) := by decide +kernel
theorem dX11_goesOn_20 : decode cX11_goesOn 20 = .ok (.iload_n 2, 1) := by decide +kernel
theorem dX11_goesOn_21 : decode cX11_goesOn 21 = .ok (.aload_n 0, 1) := by decide +kernel
theorem dX11_goesOn_22 : decode cX11_goesOn 22 = .ok (.getfield 57, 3) := by decide +kernel
theorem dX11_goesOn_25 : decode cX11_goesOn 25 = .ok (.iload_n 3, 1) := by decide +kernel
theorem dX11_goesOn_26 : decode cX11_goesOn 26 = .ok (.iaload, 1) := by decide +kernel
theorem dX11_goesOn_27 : decode cX11_goesOn 27 = .ok (.invokestatic 135, 3) := by decide +kernel
theorem dX11_goesOn_30 : decode cX11_goesOn 30 = .ok (.istore_n 2, 1) := by decide +kernel
theorem dX11_goesOn_31 : decode cX11_goesOn 31 = .ok (.iinc 3 1, 3) := by decide +kernel
theorem dX11_goesOn_34 : decode cX11_goesOn 34 = .ok (.goto (-19), 3) := by decide +kernel
theorem dX11_goesOn_37 : decode cX11_goesOn 37 = .ok (.aload_n 0, 1) := by decide +kernel
theorem dX11_goesOn_38 : decode cX11_goesOn 38 = .ok (.getfield 57, 3) := by decide +kernel
theorem dX11_goesOn_41 : decode cX11_goesOn 41 = .ok (.iload_n 1, 1) := by decide +kernel
theorem dX11_goesOn_42 : decode cX11_goesOn 42 = .ok (.iaload, 1) := by decide +kernel
theorem dX11_goesOn_43 : decode cX11_goesOn 43 = .ok (.iload_n 2, 1) := by decide +kernel
theorem dX11_goesOn_44 : decode cX11_goesOn 44 = .ok (.if_icmp .le 6, 3) := by decide +kernel
theorem dX11_goesOn_47 : decode cX11_goesOn 47 = .ok (.goto 40, 3) := by decide +kernel
theorem dX11_goesOn_50 : decode cX11_goesOn 50 = .ok (.aload_n 0, 1) := by decide +kernel
theorem dX11_goesOn_51 : decode cX11_goesOn 51 = .ok (.getfield 57, 3) := by decide +kernel
theorem dX11_goesOn_54 : decode cX11_goesOn 54 = .ok (.iload_n 1, 1) := by decide +kernel
theorem dX11_goesOn_55 : decode cX11_goesOn 55 = .ok (.dup2, 1) := by decide +kernel
theorem dX11_goesOn_56 : decode cX11_goesOn 56 = .ok (.iaload, 1) := by decide +kernel
theorem dX11_goesOn_57 : decode cX11_goesOn 57 = .ok (.iconst 1, 1) := by decide +kernel
theorem dX11_goesOn_58 : decode cX11_goesOn 58 = .ok (.iadd, 1) := by decide +kernel
theorem dX11_goesOn_59 : decode cX11_goesOn 59 = .ok (.iastore, 1) := by decide +kernel
theorem dX11_goesOn_60 : decode cX11_goesOn 60 = .ok (.iload_n 1, 1) := by decide +kernel
theorem dX11_goesOn_61 : decode cX11_goesOn 61 = .ok (.iconst 1, 1) := by decide +kernel
theorem dX11_goesOn_62 : decode cX11_goesOn 62 = .ok (.iadd, 1) := by decide +kernel
theorem dX11_goesOn_63 : decode cX11_goesOn 63 = .ok (.istore_n 3, 1) := by decide +kernel
theorem dX11_goesOn_64 : decode cX11_goesOn 64 = .ok (.iload_n 3, 1) := by decide +kernel
theorem dX11_goesOn_65 : decode cX11_goesOn 65 = .ok (.aload_n 0, 1) := by decide +kernel
theorem dX11_goesOn_66 : decode cX11_goesOn 66 = .ok (.getfield 96, 3) := by decide +kernel
theorem dX11_goesOn_69 : decode cX11_goesOn 69 = .ok (.if_icmp .ge 16, 3) := by decide +kernel
theorem dX11_goesOn_72 : decode cX11_goesOn 72 = .ok (.aload_n 0, 1) := by decide +kernel
theorem dX11_goesOn_73 : decode cX11_goesOn 73 = .ok (.getfield 57, 3) := by decide +kernel
theorem dX11_goesOn_76 : decode cX11_goesOn 76 = .ok (.iload_n 3, 1) := by decide +kernel
theorem dX11_goesOn_77 : decode cX11_goesOn 77 = .ok (.iconst 0, 1) := by decide +kernel
theorem dX11_goesOn_78 : decode cX11_goesOn 78 = .ok (.iastore, 1) := by decide +kernel
theorem dX11_goesOn_79 : decode cX11_goesOn 79 = .ok (.iinc 3 1, 3) := by decide +kernel
theorem dX11_goesOn_82 : decode cX11_goesOn 82 = .ok (.goto (-18), 3) := by decide +kernel
theorem dX11_goesOn_85 : decode cX11_goesOn 85 = .ok (.iconst 1, 1) := by decide +kernel
theorem dX11_goesOn_86 : decode cX11_goesOn 86 = .ok (.ireturn, 1) := by decide +kernel
theorem dX11_goesOn_87 : decode cX11_goesOn 87 = .ok (.iinc 1 (-1), 3) := by decide +kernel
theorem dX11_goesOn_90 : decode cX11_goesOn 90 = .ok (.goto (-83), 3) := by decide +kernel
theorem dX11_goesOn_93 : decode cX11_goesOn 93 = .ok (.iconst 0, 1) := by decide +kernel
theorem dX11_goesOn_94 : decode cX11_goesOn 94 = .ok (.ireturn, 1) := by decide +kernel
theorem dX11_comes_0 : decode cX11_comes 0 = .ok (.aload_n 0, 1) := by decide +kernel
theorem dX11_comes_1 : decode cX11_comes 1 = .ok (.iconst 1, 1) := by decide +kernel
theorem dX11_comes_2 : decode cX11_comes 2 = .ok (.putfield 140, 3) := by decide +kernel
theorem dX11_comes_5 : decode cX11_comes 5 = .ok (.aload_n 0, 1) := by decide +kernel
theorem dX11_comes_6 : decode cX11_comes 6 = .ok (.iload_n 1, 1) := by decide +kernel
theorem dX11_comes_7 : decode cX11_comes 7 = .ok (.putfield 143, 3) := by decide +kernel
theorem dX11_comes_10 : decode cX11_comes 10 = .ok (.aload_n 0, 1) := by decide +kernel
theorem dX11_comes_11 : decode cX11_comes 11 = .ok (.aload_n 0, 1) := by decide +kernel
theorem dX11_comes_12 : decode cX11_comes 12 = .ok (.getfield 132, 3) := by decide +kernel
theorem dX11_comes_15 : decode cX11_comes 15 = .ok (.putfield 146, 3) := by decide +kernel
theorem dX11_comes_18 : decode cX11_comes 18 = .ok (.iconst 0, 1) := by decide +kernel
theorem dX11_comes_19 : decode cX11_comes 19 = .ok (.istore_n 2, 1) := by decide +kernel
theorem dX11_comes_20 : decode cX11_comes 20 = .ok (.iload_n 2, 1) := by decide +kernel
theorem dX11_comes_21 : decode cX11_comes 21 = .ok (.bipush 8, 2) := by decide +kernel
theorem dX11_comes_23 : decode cX11_comes 23 = .ok (.if_icmp .ge 21, 3) := by decide +kernel
theorem dX11_comes_26 : decode cX11_comes 26 = .ok (.aload_n 0, 1) := by decide +kernel
theorem dX11_comes_27 : decode cX11_comes 27 = .ok (.getfield 13, 3) := by decide +kernel
theorem dX11_comes_30 : decode cX11_comes 30 = .ok (.iload_n 2, 1) := by decide +kernel
theorem dX11_comes_31 : decode cX11_comes 31 = .ok (.aload_n 0, 1) := by decide +kernel
theorem dX11_comes_32 : decode cX11_comes 32 = .ok (.getfield 57, 3) := by decide +kernel
theorem dX11_comes_35 : decode cX11_comes 35 = .ok (.iload_n 2, 1) := by decide +kernel
theorem dX11_comes_36 : decode cX11_comes 36 = .ok (.iaload, 1) := by decide +kernel
theorem dX11_comes_37 : decode cX11_comes 37 = .ok (.iastore, 1) := by decide +kernel
theorem dX11_comes_38 : decode cX11_comes 38 = .ok (.iinc 2 1, 3) := by decide +kernel
theorem dX11_comes_41 : decode cX11_comes 41 = .ok (.goto (-21), 3) := by decide +kernel
theorem dX11_comes_44 : decode cX11_comes 44 = .ok (.iconst 0, 1) := by decide +kernel
theorem dX11_comes_45 : decode cX11_comes 45 = .ok (.istore_n 2, 1) := by decide +kernel
theorem dX11_comes_46 : decode cX11_comes 46 = .ok (.iload_n 2, 1) := by decide +kernel
theorem dX11_comes_47 : decode cX11_comes 47 = .ok (.sipush 256, 3) := by decide +kernel
theorem dX11_comes_50 : decode cX11_comes 50 = .ok (.if_icmp .ge 45, 3) := by decide +kernel
theorem dX11_comes_53 : decode cX11_comes 53 = .ok (.aload_n 0, 1) := by decide +kernel
theorem dX11_comes_54 : decode cX11_comes 54 = .ok (.getfield 51, 3) := by decide +kernel
theorem dX11_comes_57 : decode cX11_comes 57 = .ok (.iload_n 2, 1) := by decide +kernel
theorem dX11_comes_58 : decode cX11_comes 58 = .ok (.aload_n 0, 1) := by decide +kernel
theorem dX11_comes_59 : decode cX11_comes 59 = .ok (.getfield 45, 3) := by decide +kernel
theorem dX11_comes_62 : decode cX11_comes 62 = .ok (.iload_n 2, 1) := by decide +kernel
theorem dX11_comes_63 : decode cX11_comes 63 = .ok (.baload, 1) := by decide +kernel
theorem dX11_comes_64 : decode cX11_comes 64 = .ok (.bastore, 1) := by decide +kernel
theorem dX11_comes_65 : decode cX11_comes 65 = .ok (.aload_n 0, 1) := by decide +kernel
theorem dX11_comes_66 : decode cX11_comes 66 = .ok (.getfield 54, 3) := by decide +kernel
theorem dX11_comes_69 : decode cX11_comes 69 = .ok (.iload_n 2, 1) := by decide +kernel
theorem dX11_comes_70 : decode cX11_comes 70 = .ok (.aload_n 0, 1) := by decide +kernel
theorem dX11_comes_71 : decode cX11_comes 71 = .ok (.getfield 48, 3) := by decide +kernel
theorem dX11_comes_74 : decode cX11_comes 74 = .ok (.iload_n 2, 1) := by decide +kernel
theorem dX11_comes_75 : decode cX11_comes 75 = .ok (.iaload, 1) := by decide +kernel
theorem dX11_comes_76 : decode cX11_comes 76 = .ok (.iastore, 1) := by decide +kernel
theorem dX11_comes_77 : decode cX11_comes 77 = .ok (.aload_n 0, 1) := by decide +kernel
theorem dX11_comes_78 : decode cX11_comes 78 = .ok (.getfield 66, 3) := by decide +kernel
theorem dX11_comes_81 : decode cX11_comes 81 = .ok (.iload_n 2, 1) := by decide +kernel
theorem dX11_comes_82 : decode cX11_comes 82 = .ok (.aload_n 0, 1) := by decide +kernel
theorem dX11_comes_83 : decode cX11_comes 83 = .ok (.getfield 63, 3) := by decide +kernel
theorem dX11_comes_86 : decode cX11_comes 86 = .ok (.iload_n 2, 1) := by decide +kernel
theorem dX11_comes_87 : decode cX11_comes 87 = .ok (.baload, 1) := by decide +kernel
theorem dX11_comes_88 : decode cX11_comes 88 = .ok (.bastore, 1) := by decide +kernel
theorem dX11_comes_89 : decode cX11_comes 89 = .ok (.iinc 2 1, 3) := by decide +kernel
theorem dX11_comes_92 : decode cX11_comes 92 = .ok (.goto (-46), 3) := by decide +kernel
theorem dX11_comes_95 : decode cX11_comes 95 = .ok (.return_, 1) := by decide +kernel
theorem dX11_plan_0 : decode cX11_plan 0 = .ok (.aload_n 0, 1) := by decide +kernel
theorem dX11_plan_1 : decode cX11_plan 1 = .ok (.iconst 0, 1) := by decide +kernel
theorem dX11_plan_2 : decode cX11_plan 2 = .ok (.putfield 93, 3) := by decide +kernel
theorem dX11_plan_5 : decode cX11_plan 5 = .ok (.iload_n 1, 1) := by decide +kernel
theorem dX11_plan_6 : decode cX11_plan 6 = .ok (.invokestatic 107, 3) := by decide +kernel
theorem dX11_plan_9 : decode cX11_plan 9 = .ok (.ifCond .eq 10, 3) := by decide +kernel
theorem dX11_plan_12 : decode cX11_plan 12 = .ok (.aload_n 0, 1) := by decide +kernel
theorem dX11_plan_13 : decode cX11_plan 13 = .ok (.getfield 96, 3) := by decide +kernel
theorem dX11_plan_16 : decode cX11_plan 16 = .ok (.ifCond .ne 5, 3) := by decide +kernel
theorem dX11_plan_19 : decode cX11_plan 19 = .ok (.iconst (-1), 1) := by decide +kernel
theorem dX11_plan_20 : decode cX11_plan 20 = .ok (.ireturn, 1) := by decide +kernel
theorem dX11_plan_21 : decode cX11_plan 21 = .ok (.aload_n 0, 1) := by decide +kernel
theorem dX11_plan_22 : decode cX11_plan 22 = .ok (.iload_n 1, 1) := by decide +kernel
theorem dX11_plan_23 : decode cX11_plan 23 = .ok (.invokevirtual 149, 3) := by decide +kernel
theorem dX11_plan_26 : decode cX11_plan 26 = .ok (.iconst 0, 1) := by decide +kernel
theorem dX11_plan_27 : decode cX11_plan 27 = .ok (.istore_n 2, 1) := by decide +kernel
theorem dX11_plan_28 : decode cX11_plan 28 = .ok (.iload_n 2, 1) := by decide +kernel
theorem dX11_plan_29 : decode cX11_plan 29 = .ok (.bipush 8, 2) := by decide +kernel
theorem dX11_plan_31 : decode cX11_plan 31 = .ok (.if_icmp .ge 28, 3) := by decide +kernel
theorem dX11_plan_34 : decode cX11_plan 34 = .ok (.aload_n 0, 1) := by decide +kernel
theorem dX11_plan_35 : decode cX11_plan 35 = .ok (.getfield 57, 3) := by decide +kernel
theorem dX11_plan_38 : decode cX11_plan 38 = .ok (.iload_n 2, 1) := by decide +kernel
theorem dX11_plan_39 : decode cX11_plan 39 = .ok (.iload_n 2, 1) := by decide +kernel
theorem dX11_plan_40 : decode cX11_plan 40 = .ok (.aload_n 0, 1) := by decide +kernel
theorem dX11_plan_41 : decode cX11_plan 41 = .ok (.getfield 96, 3) := by decide +kernel
theorem dX11_plan_44 : decode cX11_plan 44 = .ok (.if_icmp .ge 7, 3) := by decide +kernel
theorem dX11_plan_47 : decode cX11_plan 47 = .ok (.iconst 0, 1) := by decide +kernel
theorem dX11_plan_48 : decode cX11_plan 48 = .ok (.goto 4, 3) := by decide +kernel
theorem dX11_plan_51 : decode cX11_plan 51 = .ok (.iconst (-1), 1) := by decide +kernel
theorem dX11_plan_52 : decode cX11_plan 52 = .ok (.iastore, 1) := by decide +kernel
theorem dX11_plan_53 : decode cX11_plan 53 = .ok (.iinc 2 1, 3) := by decide +kernel
theorem dX11_plan_56 : decode cX11_plan 56 = .ok (.goto (-28), 3) := by decide +kernel
theorem dX11_plan_59 : decode cX11_plan 59 = .ok (.iconst (-1), 1) := by decide +kernel
theorem dX11_plan_60 : decode cX11_plan 60 = .ok (.istore_n 2, 1) := by decide +kernel
theorem dX11_plan_61 : decode cX11_plan 61 = .ok (.iconst 1, 1) := by decide +kernel
theorem dX11_plan_62 : decode cX11_plan 62 = .ok (.istore_n 3, 1) := by decide +kernel
theorem dX11_plan_63 : decode cX11_plan 63 = .ok (.iload_n 3, 1) := by decide +kernel
theorem dX11_plan_64 : decode cX11_plan 64 = .ok (.ifCond .eq 85, 3) := by decide +kernel
theorem dX11_plan_67 : decode cX11_plan 67 = .ok (.aload_n 0, 1) := by decide +kernel
theorem dX11_plan_68 : decode cX11_plan 68 = .ok (.getfield 113, 3) := by decide +kernel
theorem dX11_plan_71 : decode cX11_plan 71 = .ok (.ifCond .eq 14, 3) := by decide +kernel
theorem dX11_plan_74 : decode cX11_plan 74 = .ok (.aload_n 0, 1) := by decide +kernel
theorem dX11_plan_75 : decode cX11_plan 75 = .ok (.invokevirtual 153, 3) := by decide +kernel
theorem dX11_plan_78 : decode cX11_plan 78 = .ok (.ifCond .eq 7, 3) := by decide +kernel
theorem dX11_plan_81 : decode cX11_plan 81 = .ok (.iconst (-1), 1) := by decide +kernel
theorem dX11_plan_82 : decode cX11_plan 82 = .ok (.goto 7, 3) := by decide +kernel
theorem dX11_plan_85 : decode cX11_plan 85 = .ok (.aload_n 0, 1) := by decide +kernel
theorem dX11_plan_86 : decode cX11_plan 86 = .ok (.invokevirtual 157, 3) := by decide +kernel
theorem dX11_plan_89 : decode cX11_plan 89 = .ok (.istore 4, 2) := by decide +kernel
theorem dX11_plan_91 : decode cX11_plan 91 = .ok (.iload 4, 2) := by decide +kernel
theorem dX11_plan_93 : decode cX11_plan 93 = .ok (.iconst (-1), 1) := by decide +kernel
theorem dX11_plan_94 : decode cX11_plan 94 = .ok (.if_icmp .eq 47, 3) := by decide +kernel
theorem dX11_plan_97 : decode cX11_plan 97 = .ok (.iload_n 2, 1) := by decide +kernel
theorem dX11_plan_98 : decode cX11_plan 98 = .ok (.iconst (-1), 1) := by decide +kernel
theorem dX11_plan_99 : decode cX11_plan 99 = .ok (.if_icmp .eq 9, 3) := by decide +kernel
theorem dX11_plan_102 : decode cX11_plan 102 = .ok (.iload 4, 2) := by decide +kernel
theorem dX11_plan_104 : decode cX11_plan 104 = .ok (.iload_n 2, 1) := by decide +kernel
theorem dX11_plan_105 : decode cX11_plan 105 = .ok (.if_icmp .ge 36, 3) := by decide +kernel
theorem dX11_plan_108 : decode cX11_plan 108 = .ok (.iload 4, 2) := by decide +kernel
theorem dX11_plan_110 : decode cX11_plan 110 = .ok (.istore_n 2, 1) := by decide +kernel
theorem dX11_plan_111 : decode cX11_plan 111 = .ok (.iconst 0, 1) := by decide +kernel
theorem dX11_plan_112 : decode cX11_plan 112 = .ok (.istore 5, 2) := by decide +kernel
theorem dX11_plan_114 : decode cX11_plan 114 = .ok (.iload 5, 2) := by decide +kernel
theorem dX11_plan_116 : decode cX11_plan 116 = .ok (.bipush 8, 2) := by decide +kernel
theorem dX11_plan_118 : decode cX11_plan 118 = .ok (.if_icmp .ge 23, 3) := by decide +kernel
theorem dX11_plan_121 : decode cX11_plan 121 = .ok (.aload_n 0, 1) := by decide +kernel
theorem dX11_plan_122 : decode cX11_plan 122 = .ok (.getfield 60, 3) := by decide +kernel
theorem dX11_plan_125 : decode cX11_plan 125 = .ok (.iload 5, 2) := by decide +kernel
theorem dX11_plan_127 : decode cX11_plan 127 = .ok (.aload_n 0, 1) := by decide +kernel
theorem dX11_plan_128 : decode cX11_plan 128 = .ok (.getfield 57, 3) := by decide +kernel
theorem dX11_plan_131 : decode cX11_plan 131 = .ok (.iload 5, 2) := by decide +kernel
theorem dX11_plan_133 : decode cX11_plan 133 = .ok (.iaload, 1) := by decide +kernel
theorem dX11_plan_134 : decode cX11_plan 134 = .ok (.iastore, 1) := by decide +kernel
theorem dX11_plan_135 : decode cX11_plan 135 = .ok (.iinc 5 1, 3) := by decide +kernel
theorem dX11_plan_138 : decode cX11_plan 138 = .ok (.goto (-24), 3) := by decide +kernel
theorem dX11_plan_141 : decode cX11_plan 141 = .ok (.aload_n 0, 1) := by decide +kernel
theorem dX11_plan_142 : decode cX11_plan 142 = .ok (.invokevirtual 161, 3) := by decide +kernel
theorem dX11_plan_145 : decode cX11_plan 145 = .ok (.istore_n 3, 1) := by decide +kernel
theorem dX11_plan_146 : decode cX11_plan 146 = .ok (.goto (-83), 3) := by decide +kernel
theorem dX11_plan_149 : decode cX11_plan 149 = .ok (.iconst 0, 1) := by decide +kernel
theorem dX11_plan_150 : decode cX11_plan 150 = .ok (.istore 4, 2) := by decide +kernel
theorem dX11_plan_152 : decode cX11_plan 152 = .ok (.iload 4, 2) := by decide +kernel
theorem dX11_plan_154 : decode cX11_plan 154 = .ok (.bipush 8, 2) := by decide +kernel
theorem dX11_plan_156 : decode cX11_plan 156 = .ok (.if_icmp .ge 23, 3) := by decide +kernel
theorem dX11_plan_159 : decode cX11_plan 159 = .ok (.aload_n 0, 1) := by decide +kernel
theorem dX11_plan_160 : decode cX11_plan 160 = .ok (.getfield 57, 3) := by decide +kernel
theorem dX11_plan_163 : decode cX11_plan 163 = .ok (.iload 4, 2) := by decide +kernel
theorem dX11_plan_165 : decode cX11_plan 165 = .ok (.aload_n 0, 1) := by decide +kernel
theorem dX11_plan_166 : decode cX11_plan 166 = .ok (.getfield 60, 3) := by decide +kernel
theorem dX11_plan_169 : decode cX11_plan 169 = .ok (.iload 4, 2) := by decide +kernel
theorem dX11_plan_171 : decode cX11_plan 171 = .ok (.iaload, 1) := by decide +kernel
theorem dX11_plan_172 : decode cX11_plan 172 = .ok (.iastore, 1) := by decide +kernel
theorem dX11_plan_173 : decode cX11_plan 173 = .ok (.iinc 4 1, 3) := by decide +kernel
theorem dX11_plan_176 : decode cX11_plan 176 = .ok (.goto (-24), 3) := by decide +kernel
theorem dX11_plan_179 : decode cX11_plan 179 = .ok (.aload_n 0, 1) := by decide +kernel
theorem dX11_plan_180 : decode cX11_plan 180 = .ok (.aload_n 0, 1) := by decide +kernel
theorem dX11_plan_181 : decode cX11_plan 181 = .ok (.invokevirtual 157, 3) := by decide +kernel
theorem dX11_plan_184 : decode cX11_plan 184 = .ok (.invokevirtual 164, 3) := by decide +kernel
theorem dX11_plan_187 : decode cX11_plan 187 = .ok (.iload_n 2, 1) := by decide +kernel
theorem dX11_plan_188 : decode cX11_plan 188 = .ok (.ireturn, 1) := by decide +kernel
theorem dX11_room_0 : decode cX11_room 0 = .ok (.aload_n 0, 1) := by decide +kernel
theorem dX11_room_1 : decode cX11_room 1 = .ok (.iconst 0, 1) := by decide +kernel
theorem dX11_room_2 : decode cX11_room 2 = .ok (.putfield 93, 3) := by decide +kernel
theorem dX11_room_5 : decode cX11_room 5 = .ok (.aload_n 0, 1) := by decide +kernel
theorem dX11_room_6 : decode cX11_room 6 = .ok (.iload_n 1, 1) := by decide +kernel
theorem dX11_room_7 : decode cX11_room 7 = .ok (.invokevirtual 99, 3) := by decide +kernel
theorem dX11_room_10 : decode cX11_room 10 = .ok (.ifCond .eq 12, 3) := by decide +kernel
theorem dX11_room_13 : decode cX11_room 13 = .ok (.aload_n 0, 1) := by decide +kernel
theorem dX11_room_14 : decode cX11_room 14 = .ok (.getfield 13, 3) := by decide +kernel
theorem dX11_room_17 : decode cX11_room 17 = .ok (.iload_n 1, 1) := by decide +kernel
theorem dX11_room_18 : decode cX11_room 18 = .ok (.iaload, 1) := by decide +kernel
theorem dX11_room_19 : decode cX11_room 19 = .ok (.goto 4, 3) := by decide +kernel
theorem dX11_room_22 : decode cX11_room 22 = .ok (.iconst (-1), 1) := by decide +kernel
theorem dX11_room_23 : decode cX11_room 23 = .ok (.ireturn, 1) := by decide +kernel
theorem dX11_roomMany_0 : decode cX11_roomMany 0 = .ok (.iconst 0, 1) := by decide +kernel
theorem dX11_roomMany_1 : decode cX11_roomMany 1 = .ok (.istore_n 1, 1) := by decide +kernel
theorem dX11_roomMany_2 : decode cX11_roomMany 2 = .ok (.iconst 0, 1) := by decide +kernel
theorem dX11_roomMany_3 : decode cX11_roomMany 3 = .ok (.istore_n 2, 1) := by decide +kernel
theorem dX11_roomMany_4 : decode cX11_roomMany 4 = .ok (.iload_n 2, 1) := by decide +kernel
theorem dX11_roomMany_5 : decode cX11_roomMany 5 = .ok (.bipush 8, 2) := by decide +kernel
theorem dX11_roomMany_7 : decode cX11_roomMany 7 = .ok (.if_icmp .ge 22, 3) := by decide +kernel
theorem dX11_roomMany_10 : decode cX11_roomMany 10 = .ok (.iload_n 1, 1) := by decide +kernel
theorem dX11_roomMany_11 : decode cX11_roomMany 11 = .ok (.aload_n 0, 1) := by decide +kernel
theorem dX11_roomMany_12 : decode cX11_roomMany 12 = .ok (.getfield 13, 3) := by decide +kernel
theorem dX11_roomMany_15 : decode cX11_roomMany 15 = .ok (.iload_n 2, 1) := by decide +kernel
theorem dX11_roomMany_16 : decode cX11_roomMany 16 = .ok (.iaload, 1) := by decide +kernel
theorem dX11_roomMany_17 : decode cX11_roomMany 17 = .ok (.iconst 1, 1) := by decide +kernel
theorem dX11_roomMany_18 : decode cX11_roomMany 18 = .ok (.iadd, 1) := by decide +kernel
theorem dX11_roomMany_19 : decode cX11_roomMany 19 = .ok (.invokestatic 135, 3) := by decide +kernel
theorem dX11_roomMany_22 : decode cX11_roomMany 22 = .ok (.istore_n 1, 1) := by decide +kernel
theorem dX11_roomMany_23 : decode cX11_roomMany 23 = .ok (.iinc 2 1, 3) := by decide +kernel
theorem dX11_roomMany_26 : decode cX11_roomMany 26 = .ok (.goto (-22), 3) := by decide +kernel
theorem dX11_roomMany_29 : decode cX11_roomMany 29 = .ok (.iload_n 1, 1) := by decide +kernel
theorem dX11_roomMany_30 : decode cX11_roomMany 30 = .ok (.ireturn, 1) := by decide +kernel
theorem dX11_ruleAt_0 : decode cX11_ruleAt 0 = .ok (.iload_n 1, 1) := by decide +kernel
theorem dX11_ruleAt_1 : decode cX11_ruleAt 1 = .ok (.istore_n 2, 1) := by decide +kernel
theorem dX11_ruleAt_2 : decode cX11_ruleAt 2 = .ok (.iconst 0, 1) := by decide +kernel
theorem dX11_ruleAt_3 : decode cX11_ruleAt 3 = .ok (.istore_n 3, 1) := by decide +kernel
theorem dX11_ruleAt_4 : decode cX11_ruleAt 4 = .ok (.iload_n 3, 1) := by decide +kernel
theorem dX11_ruleAt_5 : decode cX11_ruleAt 5 = .ok (.sipush 256, 3) := by decide +kernel
theorem dX11_ruleAt_8 : decode cX11_ruleAt 8 = .ok (.if_icmp .ge 34, 3) := by decide +kernel
theorem dX11_ruleAt_11 : decode cX11_ruleAt 11 = .ok (.iload_n 1, 1) := by decide +kernel
theorem dX11_ruleAt_12 : decode cX11_ruleAt 12 = .ok (.ifCond .lt 30, 3) := by decide +kernel
theorem dX11_ruleAt_15 : decode cX11_ruleAt 15 = .ok (.aload_n 0, 1) := by decide +kernel
theorem dX11_ruleAt_16 : decode cX11_ruleAt 16 = .ok (.getfield 66, 3) := by decide +kernel
theorem dX11_ruleAt_19 : decode cX11_ruleAt 19 = .ok (.iload_n 3, 1) := by decide +kernel
theorem dX11_ruleAt_20 : decode cX11_ruleAt 20 = .ok (.baload, 1) := by decide +kernel
theorem dX11_ruleAt_21 : decode cX11_ruleAt 21 = .ok (.ifCond .ne 6, 3) := by decide +kernel
theorem dX11_ruleAt_24 : decode cX11_ruleAt 24 = .ok (.goto 12, 3) := by decide +kernel
theorem dX11_ruleAt_27 : decode cX11_ruleAt 27 = .ok (.iload_n 2, 1) := by decide +kernel
theorem dX11_ruleAt_28 : decode cX11_ruleAt 28 = .ok (.ifCond .ne 5, 3) := by decide +kernel
theorem dX11_ruleAt_31 : decode cX11_ruleAt 31 = .ok (.iload_n 3, 1) := by decide +kernel
theorem dX11_ruleAt_32 : decode cX11_ruleAt 32 = .ok (.ireturn, 1) := by decide +kernel
theorem dX11_ruleAt_33 : decode cX11_ruleAt 33 = .ok (.iinc 2 (-1), 3) := by decide +kernel
theorem dX11_ruleAt_36 : decode cX11_ruleAt 36 = .ok (.iinc 3 1, 3) := by decide +kernel
theorem dX11_ruleAt_39 : decode cX11_ruleAt 39 = .ok (.goto (-35), 3) := by decide +kernel
theorem dX11_ruleAt_42 : decode cX11_ruleAt 42 = .ok (.iconst (-1), 1) := by decide +kernel
theorem dX11_ruleAt_43 : decode cX11_ruleAt 43 = .ok (.ireturn, 1) := by decide +kernel
theorem dX11_isBy_0 : decode cX11_isBy 0 = .ok (.aload_n 0, 1) := by decide +kernel
theorem dX11_isBy_1 : decode cX11_isBy 1 = .ok (.getfield 13, 3) := by decide +kernel
theorem dX11_isBy_4 : decode cX11_isBy 4 = .ok (.iload_n 1, 1) := by decide +kernel
theorem dX11_isBy_5 : decode cX11_isBy 5 = .ok (.bipush 32, 2) := by decide +kernel
theorem dX11_isBy_7 : decode cX11_isBy 7 = .ok (.idiv, 1) := by decide +kernel
theorem dX11_isBy_8 : decode cX11_isBy 8 = .ok (.iaload, 1) := by decide +kernel
theorem dX11_isBy_9 : decode cX11_isBy 9 = .ok (.istore_n 3, 1) := by decide +kernel
theorem dX11_isBy_10 : decode cX11_isBy 10 = .ok (.aload_n 0, 1) := by decide +kernel
theorem dX11_isBy_11 : decode cX11_isBy 11 = .ok (.getfield 13, 3) := by decide +kernel
theorem dX11_isBy_14 : decode cX11_isBy 14 = .ok (.iload_n 1, 1) := by decide +kernel
theorem dX11_isBy_15 : decode cX11_isBy 15 = .ok (.iconst 4, 1) := by decide +kernel
theorem dX11_isBy_16 : decode cX11_isBy 16 = .ok (.idiv, 1) := by decide +kernel
theorem dX11_isBy_17 : decode cX11_isBy 17 = .ok (.bipush 8, 2) := by decide +kernel
theorem dX11_isBy_19 : decode cX11_isBy 19 = .ok (.irem, 1) := by decide +kernel
theorem dX11_isBy_20 : decode cX11_isBy 20 = .ok (.iaload, 1) := by decide +kernel
theorem dX11_isBy_21 : decode cX11_isBy 21 = .ok (.istore 4, 2) := by decide +kernel
theorem dX11_isBy_23 : decode cX11_isBy 23 = .ok (.iload_n 3, 1) := by decide +kernel
theorem dX11_isBy_24 : decode cX11_isBy 24 = .ok (.iconst (-1), 1) := by decide +kernel
theorem dX11_isBy_25 : decode cX11_isBy 25 = .ok (.if_icmp .eq 36, 3) := by decide +kernel
theorem dX11_isBy_28 : decode cX11_isBy 28 = .ok (.iload 4, 2) := by decide +kernel
theorem dX11_isBy_30 : decode cX11_isBy 30 = .ok (.iconst (-1), 1) := by decide +kernel
theorem dX11_isBy_31 : decode cX11_isBy 31 = .ok (.if_icmp .eq 30, 3) := by decide +kernel
theorem dX11_isBy_34 : decode cX11_isBy 34 = .ok (.iload_n 3, 1) := by decide +kernel
theorem dX11_isBy_35 : decode cX11_isBy 35 = .ok (.iload 4, 2) := by decide +kernel
theorem dX11_isBy_37 : decode cX11_isBy 37 = .ok (.if_icmp .eq 24, 3) := by decide +kernel
theorem dX11_isBy_40 : decode cX11_isBy 40 = .ok (.bipush 32, 2) := by decide +kernel
theorem dX11_isBy_42 : decode cX11_isBy 42 = .ok (.iload_n 3, 1) := by decide +kernel
theorem dX11_isBy_43 : decode cX11_isBy 43 = .ok (.imul, 1) := by decide +kernel
theorem dX11_isBy_44 : decode cX11_isBy 44 = .ok (.iconst 4, 1) := by decide +kernel
theorem dX11_isBy_45 : decode cX11_isBy 45 = .ok (.iload 4, 2) := by decide +kernel
theorem dX11_isBy_47 : decode cX11_isBy 47 = .ok (.imul, 1) := by decide +kernel
theorem dX11_isBy_48 : decode cX11_isBy 48 = .ok (.iadd, 1) := by decide +kernel
theorem dX11_isBy_49 : decode cX11_isBy 49 = .ok (.iload_n 1, 1) := by decide +kernel
theorem dX11_isBy_50 : decode cX11_isBy 50 = .ok (.iconst 4, 1) := by decide +kernel
theorem dX11_isBy_51 : decode cX11_isBy 51 = .ok (.irem, 1) := by decide +kernel
theorem dX11_isBy_52 : decode cX11_isBy 52 = .ok (.iadd, 1) := by decide +kernel
theorem dX11_isBy_53 : decode cX11_isBy 53 = .ok (.iload_n 2, 1) := by decide +kernel
theorem dX11_isBy_54 : decode cX11_isBy 54 = .ok (.if_icmp .ne 7, 3) := by decide +kernel
theorem dX11_isBy_57 : decode cX11_isBy 57 = .ok (.iconst 1, 1) := by decide +kernel
theorem dX11_isBy_58 : decode cX11_isBy 58 = .ok (.goto 4, 3) := by decide +kernel
theorem dX11_isBy_61 : decode cX11_isBy 61 = .ok (.iconst 0, 1) := by decide +kernel
theorem dX11_isBy_62 : decode cX11_isBy 62 = .ok (.ireturn, 1) := by decide +kernel
theorem dX11_canShut_0 : decode cX11_canShut 0 = .ok (.iconst 0, 1) := by decide +kernel
theorem dX11_canShut_1 : decode cX11_canShut 1 = .ok (.istore_n 2, 1) := by decide +kernel
theorem dX11_canShut_2 : decode cX11_canShut 2 = .ok (.iload_n 2, 1) := by decide +kernel
theorem dX11_canShut_3 : decode cX11_canShut 3 = .ok (.sipush 256, 3) := by decide +kernel
theorem dX11_canShut_6 : decode cX11_canShut 6 = .ok (.if_icmp .ge 29, 3) := by decide +kernel
theorem dX11_canShut_9 : decode cX11_canShut 9 = .ok (.aload_n 0, 1) := by decide +kernel
theorem dX11_canShut_10 : decode cX11_canShut 10 = .ok (.getfield 25, 3) := by decide +kernel
theorem dX11_canShut_13 : decode cX11_canShut 13 = .ok (.iload_n 2, 1) := by decide +kernel
theorem dX11_canShut_14 : decode cX11_canShut 14 = .ok (.baload, 1) := by decide +kernel
theorem dX11_canShut_15 : decode cX11_canShut 15 = .ok (.ifCond .eq 14, 3) := by decide +kernel
theorem dX11_canShut_18 : decode cX11_canShut 18 = .ok (.aload_n 0, 1) := by decide +kernel
theorem dX11_canShut_19 : decode cX11_canShut 19 = .ok (.iload_n 2, 1) := by decide +kernel
theorem dX11_canShut_20 : decode cX11_canShut 20 = .ok (.iload_n 1, 1) := by decide +kernel
theorem dX11_canShut_21 : decode cX11_canShut 21 = .ok (.invokevirtual 167, 3) := by decide +kernel
theorem dX11_canShut_24 : decode cX11_canShut 24 = .ok (.ifCond .eq 5, 3) := by decide +kernel
theorem dX11_canShut_27 : decode cX11_canShut 27 = .ok (.iconst 0, 1) := by decide +kernel
theorem dX11_canShut_28 : decode cX11_canShut 28 = .ok (.ireturn, 1) := by decide +kernel
theorem dX11_canShut_29 : decode cX11_canShut 29 = .ok (.iinc 2 1, 3) := by decide +kernel
theorem dX11_canShut_32 : decode cX11_canShut 32 = .ok (.goto (-30), 3) := by decide +kernel
theorem dX11_canShut_35 : decode cX11_canShut 35 = .ok (.iconst 1, 1) := by decide +kernel
theorem dX11_canShut_36 : decode cX11_canShut 36 = .ok (.ireturn, 1) := by decide +kernel
theorem dX11_rule_0 : decode cX11_rule 0 = .ok (.aload_n 0, 1) := by decide +kernel
theorem dX11_rule_1 : decode cX11_rule 1 = .ok (.iconst 0, 1) := by decide +kernel
theorem dX11_rule_2 : decode cX11_rule 2 = .ok (.putfield 93, 3) := by decide +kernel
theorem dX11_rule_5 : decode cX11_rule 5 = .ok (.aload_n 0, 1) := by decide +kernel
theorem dX11_rule_6 : decode cX11_rule 6 = .ok (.iload_n 1, 1) := by decide +kernel
theorem dX11_rule_7 : decode cX11_rule 7 = .ok (.invokevirtual 170, 3) := by decide +kernel
theorem dX11_rule_10 : decode cX11_rule 10 = .ok (.istore_n 3, 1) := by decide +kernel
theorem dX11_rule_11 : decode cX11_rule 11 = .ok (.iload_n 3, 1) := by decide +kernel
theorem dX11_rule_12 : decode cX11_rule 12 = .ok (.iconst (-1), 1) := by decide +kernel
theorem dX11_rule_13 : decode cX11_rule 13 = .ok (.if_icmp .ne 5, 3) := by decide +kernel
theorem dX11_rule_16 : decode cX11_rule 16 = .ok (.iconst (-1), 1) := by decide +kernel
theorem dX11_rule_17 : decode cX11_rule 17 = .ok (.ireturn, 1) := by decide +kernel
theorem dX11_rule_18 : decode cX11_rule 18 = .ok (.iconst 0, 1) := by decide +kernel
theorem dX11_rule_19 : decode cX11_rule 19 = .ok (.istore 4, 2) := by decide +kernel
theorem dX11_rule_21 : decode cX11_rule 21 = .ok (.iconst 0, 1) := by decide +kernel
theorem dX11_rule_22 : decode cX11_rule 22 = .ok (.istore 5, 2) := by decide +kernel
theorem dX11_rule_24 : decode cX11_rule 24 = .ok (.iconst 0, 1) := by decide +kernel
theorem dX11_rule_25 : decode cX11_rule 25 = .ok (.istore 6, 2) := by decide +kernel
theorem dX11_rule_27 : decode cX11_rule 27 = .ok (.iload 6, 2) := by decide +kernel
theorem dX11_rule_29 : decode cX11_rule 29 = .ok (.sipush 256, 3) := by decide +kernel
theorem dX11_rule_32 : decode cX11_rule 32 = .ok (.if_icmp .ge 47, 3) := by decide +kernel
theorem dX11_rule_35 : decode cX11_rule 35 = .ok (.aload_n 0, 1) := by decide +kernel
end
section
theorem dX11_rule_36 : decode cX11_rule 36 = .ok (.getfield 51, 3) := by decide +kernel
theorem dX11_rule_39 : decode cX11_rule 39 = .ok (.iload 6, 2) := by decide +kernel
theorem dX11_rule_41 : decode cX11_rule 41 = .ok (.baload, 1) := by decide +kernel
theorem dX11_rule_42 : decode cX11_rule 42 = .ok (.ifCond .eq 31, 3) := by decide +kernel
theorem dX11_rule_45 : decode cX11_rule 45 = .ok (.aload_n 0, 1) := by decide +kernel
theorem dX11_rule_46 : decode cX11_rule 46 = .ok (.iload 6, 2) := by decide +kernel
theorem dX11_rule_48 : decode cX11_rule 48 = .ok (.iload_n 3, 1) := by decide +kernel
theorem dX11_rule_49 : decode cX11_rule 49 = .ok (.invokevirtual 167, 3) := by decide +kernel
theorem dX11_rule_52 : decode cX11_rule 52 = .ok (.ifCond .ne 6, 3) := by decide +kernel
theorem dX11_rule_55 : decode cX11_rule 55 = .ok (.goto 18, 3) := by decide +kernel
theorem dX11_rule_58 : decode cX11_rule 58 = .ok (.iinc 4 1, 3) := by decide +kernel
theorem dX11_rule_61 : decode cX11_rule 61 = .ok (.iload 5, 2) := by decide +kernel
theorem dX11_rule_63 : decode cX11_rule 63 = .ok (.aload_n 0, 1) := by decide +kernel
theorem dX11_rule_64 : decode cX11_rule 64 = .ok (.getfield 54, 3) := by decide +kernel
theorem dX11_rule_67 : decode cX11_rule 67 = .ok (.iload 6, 2) := by decide +kernel
theorem dX11_rule_69 : decode cX11_rule 69 = .ok (.iaload, 1) := by decide +kernel
theorem dX11_rule_70 : decode cX11_rule 70 = .ok (.iadd, 1) := by decide +kernel
theorem dX11_rule_71 : decode cX11_rule 71 = .ok (.istore 5, 2) := by decide +kernel
theorem dX11_rule_73 : decode cX11_rule 73 = .ok (.iinc 6 1, 3) := by decide +kernel
theorem dX11_rule_76 : decode cX11_rule 76 = .ok (.goto (-49), 3) := by decide +kernel
theorem dX11_rule_79 : decode cX11_rule 79 = .ok (.iload_n 2, 1) := by decide +kernel
theorem dX11_rule_80 : decode cX11_rule 80 = .ok (.tableswitch 76 0 5 #[40, 45, 52, 56, 59, 62], 40) := by decide +kernel
theorem dX11_rule_120 : decode cX11_rule 120 = .ok (.iload_n 3, 1) := by decide +kernel
theorem dX11_rule_121 : decode cX11_rule 121 = .ok (.bipush 32, 2) := by decide +kernel
theorem dX11_rule_123 : decode cX11_rule 123 = .ok (.idiv, 1) := by decide +kernel
theorem dX11_rule_124 : decode cX11_rule 124 = .ok (.ireturn, 1) := by decide +kernel
theorem dX11_rule_125 : decode cX11_rule 125 = .ok (.iload_n 3, 1) := by decide +kernel
theorem dX11_rule_126 : decode cX11_rule 126 = .ok (.iconst 4, 1) := by decide +kernel
theorem dX11_rule_127 : decode cX11_rule 127 = .ok (.idiv, 1) := by decide +kernel
theorem dX11_rule_128 : decode cX11_rule 128 = .ok (.bipush 8, 2) := by decide +kernel
theorem dX11_rule_130 : decode cX11_rule 130 = .ok (.irem, 1) := by decide +kernel
theorem dX11_rule_131 : decode cX11_rule 131 = .ok (.ireturn, 1) := by decide +kernel
theorem dX11_rule_132 : decode cX11_rule 132 = .ok (.iload_n 3, 1) := by decide +kernel
theorem dX11_rule_133 : decode cX11_rule 133 = .ok (.iconst 4, 1) := by decide +kernel
theorem dX11_rule_134 : decode cX11_rule 134 = .ok (.irem, 1) := by decide +kernel
theorem dX11_rule_135 : decode cX11_rule 135 = .ok (.ireturn, 1) := by decide +kernel
theorem dX11_rule_136 : decode cX11_rule 136 = .ok (.iload 4, 2) := by decide +kernel
theorem dX11_rule_138 : decode cX11_rule 138 = .ok (.ireturn, 1) := by decide +kernel
theorem dX11_rule_139 : decode cX11_rule 139 = .ok (.iload 5, 2) := by decide +kernel
theorem dX11_rule_141 : decode cX11_rule 141 = .ok (.ireturn, 1) := by decide +kernel
theorem dX11_rule_142 : decode cX11_rule 142 = .ok (.aload_n 0, 1) := by decide +kernel
theorem dX11_rule_143 : decode cX11_rule 143 = .ok (.iload_n 3, 1) := by decide +kernel
theorem dX11_rule_144 : decode cX11_rule 144 = .ok (.invokevirtual 173, 3) := by decide +kernel
theorem dX11_rule_147 : decode cX11_rule 147 = .ok (.ifCond .eq 7, 3) := by decide +kernel
theorem dX11_rule_150 : decode cX11_rule 150 = .ok (.iconst 1, 1) := by decide +kernel
theorem dX11_rule_151 : decode cX11_rule 151 = .ok (.goto 4, 3) := by decide +kernel
theorem dX11_rule_154 : decode cX11_rule 154 = .ok (.iconst 0, 1) := by decide +kernel
theorem dX11_rule_155 : decode cX11_rule 155 = .ok (.ireturn, 1) := by decide +kernel
theorem dX11_rule_156 : decode cX11_rule 156 = .ok (.iconst (-1), 1) := by decide +kernel
theorem dX11_rule_157 : decode cX11_rule 157 = .ok (.ireturn, 1) := by decide +kernel
theorem dX11_letsBy_0 : decode cX11_letsBy 0 = .ok (.aload_n 0, 1) := by decide +kernel
theorem dX11_letsBy_1 : decode cX11_letsBy 1 = .ok (.getfield 13, 3) := by decide +kernel
theorem dX11_letsBy_4 : decode cX11_letsBy 4 = .ok (.iload_n 1, 1) := by decide +kernel
theorem dX11_letsBy_5 : decode cX11_letsBy 5 = .ok (.bipush 32, 2) := by decide +kernel
theorem dX11_letsBy_7 : decode cX11_letsBy 7 = .ok (.idiv, 1) := by decide +kernel
theorem dX11_letsBy_8 : decode cX11_letsBy 8 = .ok (.iaload, 1) := by decide +kernel
theorem dX11_letsBy_9 : decode cX11_letsBy 9 = .ok (.istore_n 2, 1) := by decide +kernel
theorem dX11_letsBy_10 : decode cX11_letsBy 10 = .ok (.aload_n 0, 1) := by decide +kernel
theorem dX11_letsBy_11 : decode cX11_letsBy 11 = .ok (.getfield 13, 3) := by decide +kernel
theorem dX11_letsBy_14 : decode cX11_letsBy 14 = .ok (.iload_n 1, 1) := by decide +kernel
theorem dX11_letsBy_15 : decode cX11_letsBy 15 = .ok (.iconst 4, 1) := by decide +kernel
theorem dX11_letsBy_16 : decode cX11_letsBy 16 = .ok (.idiv, 1) := by decide +kernel
theorem dX11_letsBy_17 : decode cX11_letsBy 17 = .ok (.bipush 8, 2) := by decide +kernel
theorem dX11_letsBy_19 : decode cX11_letsBy 19 = .ok (.irem, 1) := by decide +kernel
theorem dX11_letsBy_20 : decode cX11_letsBy 20 = .ok (.iaload, 1) := by decide +kernel
theorem dX11_letsBy_21 : decode cX11_letsBy 21 = .ok (.istore_n 3, 1) := by decide +kernel
theorem dX11_letsBy_22 : decode cX11_letsBy 22 = .ok (.iload_n 2, 1) := by decide +kernel
theorem dX11_letsBy_23 : decode cX11_letsBy 23 = .ok (.iload_n 3, 1) := by decide +kernel
theorem dX11_letsBy_24 : decode cX11_letsBy 24 = .ok (.if_icmp .ne 7, 3) := by decide +kernel
theorem dX11_letsBy_27 : decode cX11_letsBy 27 = .ok (.iconst 1, 1) := by decide +kernel
theorem dX11_letsBy_28 : decode cX11_letsBy 28 = .ok (.goto 28, 3) := by decide +kernel
theorem dX11_letsBy_31 : decode cX11_letsBy 31 = .ok (.aload_n 0, 1) := by decide +kernel
theorem dX11_letsBy_32 : decode cX11_letsBy 32 = .ok (.getfield 66, 3) := by decide +kernel
theorem dX11_letsBy_35 : decode cX11_letsBy 35 = .ok (.bipush 32, 2) := by decide +kernel
theorem dX11_letsBy_37 : decode cX11_letsBy 37 = .ok (.iload_n 2, 1) := by decide +kernel
theorem dX11_letsBy_38 : decode cX11_letsBy 38 = .ok (.imul, 1) := by decide +kernel
theorem dX11_letsBy_39 : decode cX11_letsBy 39 = .ok (.iconst 4, 1) := by decide +kernel
theorem dX11_letsBy_40 : decode cX11_letsBy 40 = .ok (.iload_n 3, 1) := by decide +kernel
theorem dX11_letsBy_41 : decode cX11_letsBy 41 = .ok (.imul, 1) := by decide +kernel
theorem dX11_letsBy_42 : decode cX11_letsBy 42 = .ok (.iadd, 1) := by decide +kernel
theorem dX11_letsBy_43 : decode cX11_letsBy 43 = .ok (.iload_n 1, 1) := by decide +kernel
theorem dX11_letsBy_44 : decode cX11_letsBy 44 = .ok (.iconst 4, 1) := by decide +kernel
theorem dX11_letsBy_45 : decode cX11_letsBy 45 = .ok (.irem, 1) := by decide +kernel
theorem dX11_letsBy_46 : decode cX11_letsBy 46 = .ok (.iadd, 1) := by decide +kernel
theorem dX11_letsBy_47 : decode cX11_letsBy 47 = .ok (.baload, 1) := by decide +kernel
theorem dX11_letsBy_48 : decode cX11_letsBy 48 = .ok (.ifCond .eq 7, 3) := by decide +kernel
theorem dX11_letsBy_51 : decode cX11_letsBy 51 = .ok (.iconst 2, 1) := by decide +kernel
theorem dX11_letsBy_52 : decode cX11_letsBy 52 = .ok (.goto 4, 3) := by decide +kernel
theorem dX11_letsBy_55 : decode cX11_letsBy 55 = .ok (.iconst 0, 1) := by decide +kernel
theorem dX11_letsBy_56 : decode cX11_letsBy 56 = .ok (.ireturn, 1) := by decide +kernel
theorem dX11_lets_0 : decode cX11_lets 0 = .ok (.aload_n 0, 1) := by decide +kernel
theorem dX11_lets_1 : decode cX11_lets 1 = .ok (.iconst 0, 1) := by decide +kernel
theorem dX11_lets_2 : decode cX11_lets 2 = .ok (.putfield 93, 3) := by decide +kernel
theorem dX11_lets_5 : decode cX11_lets 5 = .ok (.aload_n 0, 1) := by decide +kernel
theorem dX11_lets_6 : decode cX11_lets 6 = .ok (.iload_n 1, 1) := by decide +kernel
theorem dX11_lets_7 : decode cX11_lets 7 = .ok (.iload_n 2, 1) := by decide +kernel
theorem dX11_lets_8 : decode cX11_lets 8 = .ok (.iload_n 3, 1) := by decide +kernel
theorem dX11_lets_9 : decode cX11_lets 9 = .ok (.invokevirtual 103, 3) := by decide +kernel
theorem dX11_lets_12 : decode cX11_lets 12 = .ok (.istore 4, 2) := by decide +kernel
theorem dX11_lets_14 : decode cX11_lets 14 = .ok (.iload 4, 2) := by decide +kernel
theorem dX11_lets_16 : decode cX11_lets 16 = .ok (.iconst (-1), 1) := by decide +kernel
theorem dX11_lets_17 : decode cX11_lets 17 = .ok (.if_icmp .eq 23, 3) := by decide +kernel
theorem dX11_lets_20 : decode cX11_lets 20 = .ok (.aload_n 0, 1) := by decide +kernel
theorem dX11_lets_21 : decode cX11_lets 21 = .ok (.getfield 13, 3) := by decide +kernel
theorem dX11_lets_24 : decode cX11_lets 24 = .ok (.iload_n 1, 1) := by decide +kernel
theorem dX11_lets_25 : decode cX11_lets 25 = .ok (.iaload, 1) := by decide +kernel
theorem dX11_lets_26 : decode cX11_lets 26 = .ok (.iconst (-1), 1) := by decide +kernel
theorem dX11_lets_27 : decode cX11_lets 27 = .ok (.if_icmp .eq 13, 3) := by decide +kernel
theorem dX11_lets_30 : decode cX11_lets 30 = .ok (.aload_n 0, 1) := by decide +kernel
theorem dX11_lets_31 : decode cX11_lets 31 = .ok (.getfield 13, 3) := by decide +kernel
theorem dX11_lets_34 : decode cX11_lets 34 = .ok (.iload_n 2, 1) := by decide +kernel
theorem dX11_lets_35 : decode cX11_lets 35 = .ok (.iaload, 1) := by decide +kernel
theorem dX11_lets_36 : decode cX11_lets 36 = .ok (.iconst (-1), 1) := by decide +kernel
theorem dX11_lets_37 : decode cX11_lets 37 = .ok (.if_icmp .ne 7, 3) := by decide +kernel
theorem dX11_lets_40 : decode cX11_lets 40 = .ok (.iconst (-1), 1) := by decide +kernel
theorem dX11_lets_41 : decode cX11_lets 41 = .ok (.goto 9, 3) := by decide +kernel
theorem dX11_lets_44 : decode cX11_lets 44 = .ok (.aload_n 0, 1) := by decide +kernel
theorem dX11_lets_45 : decode cX11_lets 45 = .ok (.iload 4, 2) := by decide +kernel
theorem dX11_lets_47 : decode cX11_lets 47 = .ok (.invokevirtual 176, 3) := by decide +kernel
theorem dX11_lets_50 : decode cX11_lets 50 = .ok (.ireturn, 1) := by decide +kernel
theorem dX11_reachOf_0 : decode cX11_reachOf 0 = .ok (.iconst 1, 1) := by decide +kernel
theorem dX11_reachOf_1 : decode cX11_reachOf 1 = .ok (.aload_n 0, 1) := by decide +kernel
theorem dX11_reachOf_2 : decode cX11_reachOf 2 = .ok (.getfield 13, 3) := by decide +kernel
theorem dX11_reachOf_5 : decode cX11_reachOf 5 = .ok (.iload_n 1, 1) := by decide +kernel
theorem dX11_reachOf_6 : decode cX11_reachOf 6 = .ok (.iaload, 1) := by decide +kernel
theorem dX11_reachOf_7 : decode cX11_reachOf 7 = .ok (.ishl, 1) := by decide +kernel
theorem dX11_reachOf_8 : decode cX11_reachOf 8 = .ok (.istore_n 2, 1) := by decide +kernel
theorem dX11_reachOf_9 : decode cX11_reachOf 9 = .ok (.iconst 1, 1) := by decide +kernel
theorem dX11_reachOf_10 : decode cX11_reachOf 10 = .ok (.istore_n 3, 1) := by decide +kernel
theorem dX11_reachOf_11 : decode cX11_reachOf 11 = .ok (.iload_n 3, 1) := by decide +kernel
theorem dX11_reachOf_12 : decode cX11_reachOf 12 = .ok (.ifCond .eq 83, 3) := by decide +kernel
theorem dX11_reachOf_15 : decode cX11_reachOf 15 = .ok (.iload_n 2, 1) := by decide +kernel
theorem dX11_reachOf_16 : decode cX11_reachOf 16 = .ok (.istore 4, 2) := by decide +kernel
theorem dX11_reachOf_18 : decode cX11_reachOf 18 = .ok (.iconst 0, 1) := by decide +kernel
theorem dX11_reachOf_19 : decode cX11_reachOf 19 = .ok (.istore 5, 2) := by decide +kernel
theorem dX11_reachOf_21 : decode cX11_reachOf 21 = .ok (.iload 5, 2) := by decide +kernel
theorem dX11_reachOf_23 : decode cX11_reachOf 23 = .ok (.sipush 256, 3) := by decide +kernel
theorem dX11_reachOf_26 : decode cX11_reachOf 26 = .ok (.if_icmp .ge 54, 3) := by decide +kernel
theorem dX11_reachOf_29 : decode cX11_reachOf 29 = .ok (.aload_n 0, 1) := by decide +kernel
theorem dX11_reachOf_30 : decode cX11_reachOf 30 = .ok (.getfield 66, 3) := by decide +kernel
theorem dX11_reachOf_33 : decode cX11_reachOf 33 = .ok (.iload 5, 2) := by decide +kernel
theorem dX11_reachOf_35 : decode cX11_reachOf 35 = .ok (.baload, 1) := by decide +kernel
theorem dX11_reachOf_36 : decode cX11_reachOf 36 = .ok (.ifCond .eq 38, 3) := by decide +kernel
theorem dX11_reachOf_39 : decode cX11_reachOf 39 = .ok (.aload_n 0, 1) := by decide +kernel
theorem dX11_reachOf_40 : decode cX11_reachOf 40 = .ok (.getfield 69, 3) := by decide +kernel
theorem dX11_reachOf_43 : decode cX11_reachOf 43 = .ok (.iload 5, 2) := by decide +kernel
theorem dX11_reachOf_45 : decode cX11_reachOf 45 = .ok (.baload, 1) := by decide +kernel
theorem dX11_reachOf_46 : decode cX11_reachOf 46 = .ok (.ifCond .ne 28, 3) := by decide +kernel
theorem dX11_reachOf_49 : decode cX11_reachOf 49 = .ok (.iload_n 2, 1) := by decide +kernel
theorem dX11_reachOf_50 : decode cX11_reachOf 50 = .ok (.iload 5, 2) := by decide +kernel
theorem dX11_reachOf_52 : decode cX11_reachOf 52 = .ok (.bipush 32, 2) := by decide +kernel
theorem dX11_reachOf_54 : decode cX11_reachOf 54 = .ok (.idiv, 1) := by decide +kernel
theorem dX11_reachOf_55 : decode cX11_reachOf 55 = .ok (.ishr, 1) := by decide +kernel
theorem dX11_reachOf_56 : decode cX11_reachOf 56 = .ok (.iconst 1, 1) := by decide +kernel
theorem dX11_reachOf_57 : decode cX11_reachOf 57 = .ok (.iand, 1) := by decide +kernel
theorem dX11_reachOf_58 : decode cX11_reachOf 58 = .ok (.iconst 1, 1) := by decide +kernel
theorem dX11_reachOf_59 : decode cX11_reachOf 59 = .ok (.if_icmp .ne 15, 3) := by decide +kernel
theorem dX11_reachOf_62 : decode cX11_reachOf 62 = .ok (.iload_n 2, 1) := by decide +kernel
theorem dX11_reachOf_63 : decode cX11_reachOf 63 = .ok (.iconst 1, 1) := by decide +kernel
theorem dX11_reachOf_64 : decode cX11_reachOf 64 = .ok (.iload 5, 2) := by decide +kernel
theorem dX11_reachOf_66 : decode cX11_reachOf 66 = .ok (.iconst 4, 1) := by decide +kernel
theorem dX11_reachOf_67 : decode cX11_reachOf 67 = .ok (.idiv, 1) := by decide +kernel
theorem dX11_reachOf_68 : decode cX11_reachOf 68 = .ok (.bipush 8, 2) := by decide +kernel
theorem dX11_reachOf_70 : decode cX11_reachOf 70 = .ok (.irem, 1) := by decide +kernel
theorem dX11_reachOf_71 : decode cX11_reachOf 71 = .ok (.ishl, 1) := by decide +kernel
theorem dX11_reachOf_72 : decode cX11_reachOf 72 = .ok (.ior, 1) := by decide +kernel
theorem dX11_reachOf_73 : decode cX11_reachOf 73 = .ok (.istore_n 2, 1) := by decide +kernel
theorem dX11_reachOf_74 : decode cX11_reachOf 74 = .ok (.iinc 5 1, 3) := by decide +kernel
theorem dX11_reachOf_77 : decode cX11_reachOf 77 = .ok (.goto (-56), 3) := by decide +kernel
theorem dX11_reachOf_80 : decode cX11_reachOf 80 = .ok (.iload_n 2, 1) := by decide +kernel
theorem dX11_reachOf_81 : decode cX11_reachOf 81 = .ok (.iload 4, 2) := by decide +kernel
theorem dX11_reachOf_83 : decode cX11_reachOf 83 = .ok (.if_icmp .eq 7, 3) := by decide +kernel
theorem dX11_reachOf_86 : decode cX11_reachOf 86 = .ok (.iconst 1, 1) := by decide +kernel
theorem dX11_reachOf_87 : decode cX11_reachOf 87 = .ok (.goto 4, 3) := by decide +kernel
theorem dX11_reachOf_90 : decode cX11_reachOf 90 = .ok (.iconst 0, 1) := by decide +kernel
theorem dX11_reachOf_91 : decode cX11_reachOf 91 = .ok (.istore_n 3, 1) := by decide +kernel
theorem dX11_reachOf_92 : decode cX11_reachOf 92 = .ok (.goto (-81), 3) := by decide +kernel
theorem dX11_reachOf_95 : decode cX11_reachOf 95 = .ok (.iconst 0, 1) := by decide +kernel
theorem dX11_reachOf_96 : decode cX11_reachOf 96 = .ok (.istore 4, 2) := by decide +kernel
theorem dX11_reachOf_98 : decode cX11_reachOf 98 = .ok (.iconst 0, 1) := by decide +kernel
theorem dX11_reachOf_99 : decode cX11_reachOf 99 = .ok (.istore 5, 2) := by decide +kernel
theorem dX11_reachOf_101 : decode cX11_reachOf 101 = .ok (.iload 5, 2) := by decide +kernel
theorem dX11_reachOf_103 : decode cX11_reachOf 103 = .ok (.aload_n 0, 1) := by decide +kernel
theorem dX11_reachOf_104 : decode cX11_reachOf 104 = .ok (.getfield 96, 3) := by decide +kernel
theorem dX11_reachOf_107 : decode cX11_reachOf 107 = .ok (.if_icmp .ge 51, 3) := by decide +kernel
theorem dX11_reachOf_110 : decode cX11_reachOf 110 = .ok (.iload 4, 2) := by decide +kernel
theorem dX11_reachOf_112 : decode cX11_reachOf 112 = .ok (.iload 5, 2) := by decide +kernel
theorem dX11_reachOf_114 : decode cX11_reachOf 114 = .ok (.iload_n 1, 1) := by decide +kernel
theorem dX11_reachOf_115 : decode cX11_reachOf 115 = .ok (.if_icmp .eq 33, 3) := by decide +kernel
theorem dX11_reachOf_118 : decode cX11_reachOf 118 = .ok (.aload_n 0, 1) := by decide +kernel
theorem dX11_reachOf_119 : decode cX11_reachOf 119 = .ok (.getfield 13, 3) := by decide +kernel
theorem dX11_reachOf_122 : decode cX11_reachOf 122 = .ok (.iload 5, 2) := by decide +kernel
theorem dX11_reachOf_124 : decode cX11_reachOf 124 = .ok (.iaload, 1) := by decide +kernel
theorem dX11_reachOf_125 : decode cX11_reachOf 125 = .ok (.iconst (-1), 1) := by decide +kernel
theorem dX11_reachOf_126 : decode cX11_reachOf 126 = .ok (.if_icmp .eq 22, 3) := by decide +kernel
theorem dX11_reachOf_129 : decode cX11_reachOf 129 = .ok (.iload_n 2, 1) := by decide +kernel
theorem dX11_reachOf_130 : decode cX11_reachOf 130 = .ok (.aload_n 0, 1) := by decide +kernel
theorem dX11_reachOf_131 : decode cX11_reachOf 131 = .ok (.getfield 13, 3) := by decide +kernel
theorem dX11_reachOf_134 : decode cX11_reachOf 134 = .ok (.iload 5, 2) := by decide +kernel
theorem dX11_reachOf_136 : decode cX11_reachOf 136 = .ok (.iaload, 1) := by decide +kernel
theorem dX11_reachOf_137 : decode cX11_reachOf 137 = .ok (.ishr, 1) := by decide +kernel
theorem dX11_reachOf_138 : decode cX11_reachOf 138 = .ok (.iconst 1, 1) := by decide +kernel
theorem dX11_reachOf_139 : decode cX11_reachOf 139 = .ok (.iand, 1) := by decide +kernel
theorem dX11_reachOf_140 : decode cX11_reachOf 140 = .ok (.iconst 1, 1) := by decide +kernel
theorem dX11_reachOf_141 : decode cX11_reachOf 141 = .ok (.if_icmp .ne 7, 3) := by decide +kernel
theorem dX11_reachOf_144 : decode cX11_reachOf 144 = .ok (.iconst 1, 1) := by decide +kernel
theorem dX11_reachOf_145 : decode cX11_reachOf 145 = .ok (.goto 4, 3) := by decide +kernel
theorem dX11_reachOf_148 : decode cX11_reachOf 148 = .ok (.iconst 0, 1) := by decide +kernel
theorem dX11_reachOf_149 : decode cX11_reachOf 149 = .ok (.iadd, 1) := by decide +kernel
theorem dX11_reachOf_150 : decode cX11_reachOf 150 = .ok (.istore 4, 2) := by decide +kernel
theorem dX11_reachOf_152 : decode cX11_reachOf 152 = .ok (.iinc 5 1, 3) := by decide +kernel
theorem dX11_reachOf_155 : decode cX11_reachOf 155 = .ok (.goto (-54), 3) := by decide +kernel
theorem dX11_reachOf_158 : decode cX11_reachOf 158 = .ok (.iload 4, 2) := by decide +kernel
theorem dX11_reachOf_160 : decode cX11_reachOf 160 = .ok (.ireturn, 1) := by decide +kernel
theorem dX11_opens_0 : decode cX11_opens 0 = .ok (.iconst 0, 1) := by decide +kernel
theorem dX11_opens_1 : decode cX11_opens 1 = .ok (.istore_n 1, 1) := by decide +kernel
theorem dX11_opens_2 : decode cX11_opens 2 = .ok (.iload_n 1, 1) := by decide +kernel
theorem dX11_opens_3 : decode cX11_opens 3 = .ok (.sipush 256, 3) := by decide +kernel
theorem dX11_opens_6 : decode cX11_opens 6 = .ok (.if_icmp .ge 16, 3) := by decide +kernel
theorem dX11_opens_9 : decode cX11_opens 9 = .ok (.aload_n 0, 1) := by decide +kernel
theorem dX11_opens_10 : decode cX11_opens 10 = .ok (.getfield 69, 3) := by decide +kernel
theorem dX11_opens_13 : decode cX11_opens 13 = .ok (.iload_n 1, 1) := by decide +kernel
theorem dX11_opens_14 : decode cX11_opens 14 = .ok (.iconst 0, 1) := by decide +kernel
theorem dX11_opens_15 : decode cX11_opens 15 = .ok (.bastore, 1) := by decide +kernel
theorem dX11_opens_16 : decode cX11_opens 16 = .ok (.iinc 1 1, 3) := by decide +kernel
theorem dX11_opens_19 : decode cX11_opens 19 = .ok (.goto (-17), 3) := by decide +kernel
theorem dX11_opens_22 : decode cX11_opens 22 = .ok (.return_, 1) := by decide +kernel
theorem dX11_reach_0 : decode cX11_reach 0 = .ok (.aload_n 0, 1) := by decide +kernel
theorem dX11_reach_1 : decode cX11_reach 1 = .ok (.iconst 0, 1) := by decide +kernel
theorem dX11_reach_2 : decode cX11_reach 2 = .ok (.putfield 93, 3) := by decide +kernel
theorem dX11_reach_5 : decode cX11_reach 5 = .ok (.aload_n 0, 1) := by decide +kernel
theorem dX11_reach_6 : decode cX11_reach 6 = .ok (.iload_n 1, 1) := by decide +kernel
theorem dX11_reach_7 : decode cX11_reach 7 = .ok (.invokevirtual 99, 3) := by decide +kernel
theorem dX11_reach_10 : decode cX11_reach 10 = .ok (.ifCond .eq 13, 3) := by decide +kernel
theorem dX11_reach_13 : decode cX11_reach 13 = .ok (.aload_n 0, 1) := by decide +kernel
theorem dX11_reach_14 : decode cX11_reach 14 = .ok (.getfield 13, 3) := by decide +kernel
theorem dX11_reach_17 : decode cX11_reach 17 = .ok (.iload_n 1, 1) := by decide +kernel
theorem dX11_reach_18 : decode cX11_reach 18 = .ok (.iaload, 1) := by decide +kernel
theorem dX11_reach_19 : decode cX11_reach 19 = .ok (.iconst (-1), 1) := by decide +kernel
theorem dX11_reach_20 : decode cX11_reach 20 = .ok (.if_icmp .ne 5, 3) := by decide +kernel
theorem dX11_reach_23 : decode cX11_reach 23 = .ok (.iconst (-1), 1) := by decide +kernel
theorem dX11_reach_24 : decode cX11_reach 24 = .ok (.ireturn, 1) := by decide +kernel
theorem dX11_reach_25 : decode cX11_reach 25 = .ok (.aload_n 0, 1) := by decide +kernel
theorem dX11_reach_26 : decode cX11_reach 26 = .ok (.invokevirtual 179, 3) := by decide +kernel
theorem dX11_reach_29 : decode cX11_reach 29 = .ok (.aload_n 0, 1) := by decide +kernel
theorem dX11_reach_30 : decode cX11_reach 30 = .ok (.iload_n 1, 1) := by decide +kernel
theorem dX11_reach_31 : decode cX11_reach 31 = .ok (.invokevirtual 182, 3) := by decide +kernel
theorem dX11_reach_34 : decode cX11_reach 34 = .ok (.ireturn, 1) := by decide +kernel
theorem dX11_spreads_0 : decode cX11_spreads 0 = .ok (.iconst (-1), 1) := by decide +kernel
theorem dX11_spreads_1 : decode cX11_spreads 1 = .ok (.istore_n 1, 1) := by decide +kernel
theorem dX11_spreads_2 : decode cX11_spreads 2 = .ok (.aload_n 0, 1) := by decide +kernel
theorem dX11_spreads_3 : decode cX11_spreads 3 = .ok (.iconst (-1), 1) := by decide +kernel
theorem dX11_spreads_4 : decode cX11_spreads 4 = .ok (.putfield 185, 3) := by decide +kernel
theorem dX11_spreads_7 : decode cX11_spreads 7 = .ok (.iconst 0, 1) := by decide +kernel
theorem dX11_spreads_8 : decode cX11_spreads 8 = .ok (.istore_n 2, 1) := by decide +kernel
theorem dX11_spreads_9 : decode cX11_spreads 9 = .ok (.iload_n 2, 1) := by decide +kernel
theorem dX11_spreads_10 : decode cX11_spreads 10 = .ok (.aload_n 0, 1) := by decide +kernel
theorem dX11_spreads_11 : decode cX11_spreads 11 = .ok (.getfield 96, 3) := by decide +kernel
theorem dX11_spreads_14 : decode cX11_spreads 14 = .ok (.if_icmp .ge 43, 3) := by decide +kernel
theorem dX11_spreads_17 : decode cX11_spreads 17 = .ok (.aload_n 0, 1) := by decide +kernel
theorem dX11_spreads_18 : decode cX11_spreads 18 = .ok (.getfield 13, 3) := by decide +kernel
theorem dX11_spreads_21 : decode cX11_spreads 21 = .ok (.iload_n 2, 1) := by decide +kernel
theorem dX11_spreads_22 : decode cX11_spreads 22 = .ok (.iaload, 1) := by decide +kernel
theorem dX11_spreads_23 : decode cX11_spreads 23 = .ok (.iconst (-1), 1) := by decide +kernel
theorem dX11_spreads_24 : decode cX11_spreads 24 = .ok (.if_icmp .ne 6, 3) := by decide +kernel
theorem dX11_spreads_27 : decode cX11_spreads 27 = .ok (.goto 24, 3) := by decide +kernel
theorem dX11_spreads_30 : decode cX11_spreads 30 = .ok (.aload_n 0, 1) := by decide +kernel
theorem dX11_spreads_31 : decode cX11_spreads 31 = .ok (.iload_n 2, 1) := by decide +kernel
theorem dX11_spreads_32 : decode cX11_spreads 32 = .ok (.invokevirtual 182, 3) := by decide +kernel
theorem dX11_spreads_35 : decode cX11_spreads 35 = .ok (.istore_n 3, 1) := by decide +kernel
theorem dX11_spreads_36 : decode cX11_spreads 36 = .ok (.iload_n 3, 1) := by decide +kernel
theorem dX11_spreads_37 : decode cX11_spreads 37 = .ok (.iload_n 1, 1) := by decide +kernel
theorem dX11_spreads_38 : decode cX11_spreads 38 = .ok (.if_icmp .gt 6, 3) := by decide +kernel
theorem dX11_spreads_41 : decode cX11_spreads 41 = .ok (.goto 10, 3) := by decide +kernel
theorem dX11_spreads_44 : decode cX11_spreads 44 = .ok (.iload_n 3, 1) := by decide +kernel
theorem dX11_spreads_45 : decode cX11_spreads 45 = .ok (.istore_n 1, 1) := by decide +kernel
theorem dX11_spreads_46 : decode cX11_spreads 46 = .ok (.aload_n 0, 1) := by decide +kernel
theorem dX11_spreads_47 : decode cX11_spreads 47 = .ok (.iload_n 2, 1) := by decide +kernel
theorem dX11_spreads_48 : decode cX11_spreads 48 = .ok (.putfield 185, 3) := by decide +kernel
theorem dX11_spreads_51 : decode cX11_spreads 51 = .ok (.iinc 2 1, 3) := by decide +kernel
theorem dX11_spreads_54 : decode cX11_spreads 54 = .ok (.goto (-45), 3) := by decide +kernel
theorem dX11_spreads_57 : decode cX11_spreads 57 = .ok (.iload_n 1, 1) := by decide +kernel
theorem dX11_spreads_58 : decode cX11_spreads 58 = .ok (.ireturn, 1) := by decide +kernel
theorem dX11_spread_0 : decode cX11_spread 0 = .ok (.aload_n 0, 1) := by decide +kernel
theorem dX11_spread_1 : decode cX11_spread 1 = .ok (.iconst 0, 1) := by decide +kernel
theorem dX11_spread_2 : decode cX11_spread 2 = .ok (.putfield 93, 3) := by decide +kernel
theorem dX11_spread_5 : decode cX11_spread 5 = .ok (.aload_n 0, 1) := by decide +kernel
theorem dX11_spread_6 : decode cX11_spread 6 = .ok (.invokevirtual 179, 3) := by decide +kernel
theorem dX11_spread_9 : decode cX11_spread 9 = .ok (.aload_n 0, 1) := by decide +kernel
theorem dX11_spread_10 : decode cX11_spread 10 = .ok (.invokevirtual 188, 3) := by decide +kernel
theorem dX11_spread_13 : decode cX11_spread 13 = .ok (.istore_n 2, 1) := by decide +kernel
theorem dX11_spread_14 : decode cX11_spread 14 = .ok (.iload_n 1, 1) := by decide +kernel
theorem dX11_spread_15 : decode cX11_spread 15 = .ok (.ifCond .ne 7, 3) := by decide +kernel
theorem dX11_spread_18 : decode cX11_spread 18 = .ok (.iload_n 2, 1) := by decide +kernel
theorem dX11_spread_19 : decode cX11_spread 19 = .ok (.goto 16, 3) := by decide +kernel
theorem dX11_spread_22 : decode cX11_spread 22 = .ok (.iload_n 1, 1) := by decide +kernel
theorem dX11_spread_23 : decode cX11_spread 23 = .ok (.iconst 1, 1) := by decide +kernel
theorem dX11_spread_24 : decode cX11_spread 24 = .ok (.if_icmp .ne 10, 3) := by decide +kernel
theorem dX11_spread_27 : decode cX11_spread 27 = .ok (.aload_n 0, 1) := by decide +kernel
theorem dX11_spread_28 : decode cX11_spread 28 = .ok (.getfield 185, 3) := by decide +kernel
theorem dX11_spread_31 : decode cX11_spread 31 = .ok (.goto 4, 3) := by decide +kernel
theorem dX11_spread_34 : decode cX11_spread 34 = .ok (.iconst (-1), 1) := by decide +kernel
theorem dX11_spread_35 : decode cX11_spread 35 = .ok (.ireturn, 1) := by decide +kernel
theorem dX11_shut_0 : decode cX11_shut 0 = .ok (.aload_n 0, 1) := by decide +kernel
theorem dX11_shut_1 : decode cX11_shut 1 = .ok (.iconst 0, 1) := by decide +kernel
theorem dX11_shut_2 : decode cX11_shut 2 = .ok (.putfield 93, 3) := by decide +kernel
theorem dX11_shut_5 : decode cX11_shut 5 = .ok (.iload_n 1, 1) := by decide +kernel
theorem dX11_shut_6 : decode cX11_shut 6 = .ok (.ifCond .lt 16, 3) := by decide +kernel
theorem dX11_shut_9 : decode cX11_shut 9 = .ok (.iload_n 1, 1) := by decide +kernel
theorem dX11_shut_10 : decode cX11_shut 10 = .ok (.bipush 8, 2) := by decide +kernel
theorem dX11_shut_12 : decode cX11_shut 12 = .ok (.if_icmp .gt 10, 3) := by decide +kernel
theorem dX11_shut_15 : decode cX11_shut 15 = .ok (.aload_n 0, 1) := by decide +kernel
theorem dX11_shut_16 : decode cX11_shut 16 = .ok (.getfield 140, 3) := by decide +kernel
theorem dX11_shut_19 : decode cX11_shut 19 = .ok (.ifCond .ne 5, 3) := by decide +kernel
theorem dX11_shut_22 : decode cX11_shut 22 = .ok (.iconst (-1), 1) := by decide +kernel
theorem dX11_shut_23 : decode cX11_shut 23 = .ok (.ireturn, 1) := by decide +kernel
theorem dX11_shut_24 : decode cX11_shut 24 = .ok (.iconst 0, 1) := by decide +kernel
theorem dX11_shut_25 : decode cX11_shut 25 = .ok (.istore_n 2, 1) := by decide +kernel
theorem dX11_shut_26 : decode cX11_shut 26 = .ok (.iconst 0, 1) := by decide +kernel
theorem dX11_shut_27 : decode cX11_shut 27 = .ok (.istore_n 3, 1) := by decide +kernel
theorem dX11_shut_28 : decode cX11_shut 28 = .ok (.iconst 0, 1) := by decide +kernel
theorem dX11_shut_29 : decode cX11_shut 29 = .ok (.istore 4, 2) := by decide +kernel
theorem dX11_shut_31 : decode cX11_shut 31 = .ok (.iload 4, 2) := by decide +kernel
theorem dX11_shut_33 : decode cX11_shut 33 = .ok (.sipush 256, 3) := by decide +kernel
theorem dX11_shut_36 : decode cX11_shut 36 = .ok (.if_icmp .ge 126, 3) := by decide +kernel
theorem dX11_shut_39 : decode cX11_shut 39 = .ok (.aload_n 0, 1) := by decide +kernel
theorem dX11_shut_40 : decode cX11_shut 40 = .ok (.getfield 66, 3) := by decide +kernel
theorem dX11_shut_43 : decode cX11_shut 43 = .ok (.iload 4, 2) := by decide +kernel
theorem dX11_shut_45 : decode cX11_shut 45 = .ok (.baload, 1) := by decide +kernel
theorem dX11_shut_46 : decode cX11_shut 46 = .ok (.ifCond .ne 6, 3) := by decide +kernel
theorem dX11_shut_49 : decode cX11_shut 49 = .ok (.goto 107, 3) := by decide +kernel
theorem dX11_shut_52 : decode cX11_shut 52 = .ok (.aload_n 0, 1) := by decide +kernel
theorem dX11_shut_53 : decode cX11_shut 53 = .ok (.iload 4, 2) := by decide +kernel
theorem dX11_shut_55 : decode cX11_shut 55 = .ok (.invokevirtual 173, 3) := by decide +kernel
theorem dX11_shut_58 : decode cX11_shut 58 = .ok (.ifCond .eq 95, 3) := by decide +kernel
theorem dX11_shut_61 : decode cX11_shut 61 = .ok (.iload_n 2, 1) := by decide +kernel
theorem dX11_shut_62 : decode cX11_shut 62 = .ok (.bipush 12, 2) := by decide +kernel
theorem dX11_shut_64 : decode cX11_shut 64 = .ok (.if_icmp .ne 6, 3) := by decide +kernel
theorem dX11_shut_67 : decode cX11_shut 67 = .ok (.bipush (-2), 2) := by decide +kernel
theorem dX11_shut_69 : decode cX11_shut 69 = .ok (.ireturn, 1) := by decide +kernel
theorem dX11_shut_70 : decode cX11_shut 70 = .ok (.aload_n 0, 1) := by decide +kernel
theorem dX11_shut_71 : decode cX11_shut 71 = .ok (.getfield 72, 3) := by decide +kernel
theorem dX11_shut_74 : decode cX11_shut 74 = .ok (.iload_n 2, 1) := by decide +kernel
theorem dX11_shut_75 : decode cX11_shut 75 = .ok (.iload 4, 2) := by decide +kernel
theorem dX11_shut_77 : decode cX11_shut 77 = .ok (.iastore, 1) := by decide +kernel
theorem dX11_shut_78 : decode cX11_shut 78 = .ok (.aload_n 0, 1) := by decide +kernel
theorem dX11_shut_79 : decode cX11_shut 79 = .ok (.getfield 78, 3) := by decide +kernel
theorem dX11_shut_82 : decode cX11_shut 82 = .ok (.iload_n 2, 1) := by decide +kernel
theorem dX11_shut_83 : decode cX11_shut 83 = .ok (.iload_n 3, 1) := by decide +kernel
theorem dX11_shut_84 : decode cX11_shut 84 = .ok (.iastore, 1) := by decide +kernel
theorem dX11_shut_85 : decode cX11_shut 85 = .ok (.aload_n 0, 1) := by decide +kernel
theorem dX11_shut_86 : decode cX11_shut 86 = .ok (.getfield 75, 3) := by decide +kernel
theorem dX11_shut_89 : decode cX11_shut 89 = .ok (.iload_n 2, 1) := by decide +kernel
theorem dX11_shut_90 : decode cX11_shut 90 = .ok (.iconst 0, 1) := by decide +kernel
theorem dX11_shut_91 : decode cX11_shut 91 = .ok (.iastore, 1) := by decide +kernel
theorem dX11_shut_92 : decode cX11_shut 92 = .ok (.iconst 0, 1) := by decide +kernel
theorem dX11_shut_93 : decode cX11_shut 93 = .ok (.istore 5, 2) := by decide +kernel
theorem dX11_shut_95 : decode cX11_shut 95 = .ok (.iload 5, 2) := by decide +kernel
theorem dX11_shut_97 : decode cX11_shut 97 = .ok (.sipush 256, 3) := by decide +kernel
theorem dX11_shut_100 : decode cX11_shut 100 = .ok (.if_icmp .ge 50, 3) := by decide +kernel
theorem dX11_shut_103 : decode cX11_shut 103 = .ok (.aload_n 0, 1) := by decide +kernel
theorem dX11_shut_104 : decode cX11_shut 104 = .ok (.getfield 51, 3) := by decide +kernel
theorem dX11_shut_107 : decode cX11_shut 107 = .ok (.iload 5, 2) := by decide +kernel
theorem dX11_shut_109 : decode cX11_shut 109 = .ok (.baload, 1) := by decide +kernel
theorem dX11_shut_110 : decode cX11_shut 110 = .ok (.ifCond .eq 34, 3) := by decide +kernel
theorem dX11_shut_113 : decode cX11_shut 113 = .ok (.aload_n 0, 1) := by decide +kernel
theorem dX11_shut_114 : decode cX11_shut 114 = .ok (.iload 5, 2) := by decide +kernel
theorem dX11_shut_116 : decode cX11_shut 116 = .ok (.iload 4, 2) := by decide +kernel
theorem dX11_shut_118 : decode cX11_shut 118 = .ok (.invokevirtual 167, 3) := by decide +kernel
theorem dX11_shut_121 : decode cX11_shut 121 = .ok (.ifCond .eq 23, 3) := by decide +kernel
theorem dX11_shut_124 : decode cX11_shut 124 = .ok (.aload_n 0, 1) := by decide +kernel
theorem dX11_shut_125 : decode cX11_shut 125 = .ok (.getfield 75, 3) := by decide +kernel
theorem dX11_shut_128 : decode cX11_shut 128 = .ok (.iload_n 2, 1) := by decide +kernel
theorem dX11_shut_129 : decode cX11_shut 129 = .ok (.dup2, 1) := by decide +kernel
theorem dX11_shut_130 : decode cX11_shut 130 = .ok (.iaload, 1) := by decide +kernel
theorem dX11_shut_131 : decode cX11_shut 131 = .ok (.iconst 1, 1) := by decide +kernel
theorem dX11_shut_132 : decode cX11_shut 132 = .ok (.aload_n 0, 1) := by decide +kernel
theorem dX11_shut_133 : decode cX11_shut 133 = .ok (.getfield 54, 3) := by decide +kernel
theorem dX11_shut_136 : decode cX11_shut 136 = .ok (.iload 5, 2) := by decide +kernel
theorem dX11_shut_138 : decode cX11_shut 138 = .ok (.iaload, 1) := by decide +kernel
theorem dX11_shut_139 : decode cX11_shut 139 = .ok (.invokestatic 135, 3) := by decide +kernel
theorem dX11_shut_142 : decode cX11_shut 142 = .ok (.iadd, 1) := by decide +kernel
theorem dX11_shut_143 : decode cX11_shut 143 = .ok (.iastore, 1) := by decide +kernel
theorem dX11_shut_144 : decode cX11_shut 144 = .ok (.iinc 5 1, 3) := by decide +kernel
theorem dX11_shut_147 : decode cX11_shut 147 = .ok (.goto (-52), 3) := by decide +kernel
theorem dX11_shut_150 : decode cX11_shut 150 = .ok (.iinc 2 1, 3) := by decide +kernel
theorem dX11_shut_153 : decode cX11_shut 153 = .ok (.iinc 3 1, 3) := by decide +kernel
theorem dX11_shut_156 : decode cX11_shut 156 = .ok (.iinc 4 1, 3) := by decide +kernel
theorem dX11_shut_159 : decode cX11_shut 159 = .ok (.goto (-128), 3) := by decide +kernel
theorem dX11_shut_162 : decode cX11_shut 162 = .ok (.iconst (-1), 1) := by decide +kernel
theorem dX11_shut_163 : decode cX11_shut 163 = .ok (.istore 4, 2) := by decide +kernel
theorem dX11_shut_165 : decode cX11_shut 165 = .ok (.iconst 0, 1) := by decide +kernel
theorem dX11_shut_166 : decode cX11_shut 166 = .ok (.istore 5, 2) := by decide +kernel
theorem dX11_shut_168 : decode cX11_shut 168 = .ok (.iload 5, 2) := by decide +kernel
theorem dX11_shut_170 : decode cX11_shut 170 = .ok (.iconst 1, 1) := by decide +kernel
theorem dX11_shut_171 : decode cX11_shut 171 = .ok (.iload_n 2, 1) := by decide +kernel
theorem dX11_shut_172 : decode cX11_shut 172 = .ok (.ishl, 1) := by decide +kernel
theorem dX11_shut_173 : decode cX11_shut 173 = .ok (.if_icmp .ge 103, 3) := by decide +kernel
theorem dX11_shut_176 : decode cX11_shut 176 = .ok (.aload_n 0, 1) := by decide +kernel
theorem dX11_shut_177 : decode cX11_shut 177 = .ok (.invokevirtual 179, 3) := by decide +kernel
theorem dX11_shut_180 : decode cX11_shut 180 = .ok (.iconst 0, 1) := by decide +kernel
theorem dX11_shut_181 : decode cX11_shut 181 = .ok (.istore 6, 2) := by decide +kernel
theorem dX11_shut_183 : decode cX11_shut 183 = .ok (.iconst 0, 1) := by decide +kernel
theorem dX11_shut_184 : decode cX11_shut 184 = .ok (.istore 7, 2) := by decide +kernel
theorem dX11_shut_186 : decode cX11_shut 186 = .ok (.iload 7, 2) := by decide +kernel
theorem dX11_shut_188 : decode cX11_shut 188 = .ok (.iload_n 2, 1) := by decide +kernel
theorem dX11_shut_189 : decode cX11_shut 189 = .ok (.if_icmp .ge 47, 3) := by decide +kernel
theorem dX11_shut_192 : decode cX11_shut 192 = .ok (.iload 5, 2) := by decide +kernel
theorem dX11_shut_194 : decode cX11_shut 194 = .ok (.iload 7, 2) := by decide +kernel
theorem dX11_shut_196 : decode cX11_shut 196 = .ok (.ishr, 1) := by decide +kernel
theorem dX11_shut_197 : decode cX11_shut 197 = .ok (.iconst 1, 1) := by decide +kernel
theorem dX11_shut_198 : decode cX11_shut 198 = .ok (.iand, 1) := by decide +kernel
theorem dX11_shut_199 : decode cX11_shut 199 = .ok (.ifCond .ne 6, 3) := by decide +kernel
theorem dX11_shut_202 : decode cX11_shut 202 = .ok (.goto 28, 3) := by decide +kernel
theorem dX11_shut_205 : decode cX11_shut 205 = .ok (.aload_n 0, 1) := by decide +kernel
theorem dX11_shut_206 : decode cX11_shut 206 = .ok (.getfield 69, 3) := by decide +kernel
theorem dX11_shut_209 : decode cX11_shut 209 = .ok (.aload_n 0, 1) := by decide +kernel
theorem dX11_shut_210 : decode cX11_shut 210 = .ok (.getfield 72, 3) := by decide +kernel
theorem dX11_shut_213 : decode cX11_shut 213 = .ok (.iload 7, 2) := by decide +kernel
theorem dX11_shut_215 : decode cX11_shut 215 = .ok (.iaload, 1) := by decide +kernel
theorem dX11_shut_216 : decode cX11_shut 216 = .ok (.iconst 1, 1) := by decide +kernel
theorem dX11_shut_217 : decode cX11_shut 217 = .ok (.bastore, 1) := by decide +kernel
theorem dX11_shut_218 : decode cX11_shut 218 = .ok (.iload 6, 2) := by decide +kernel
theorem dX11_shut_220 : decode cX11_shut 220 = .ok (.aload_n 0, 1) := by decide +kernel
theorem dX11_shut_221 : decode cX11_shut 221 = .ok (.getfield 75, 3) := by decide +kernel
theorem dX11_shut_224 : decode cX11_shut 224 = .ok (.iload 7, 2) := by decide +kernel
theorem dX11_shut_226 : decode cX11_shut 226 = .ok (.iaload, 1) := by decide +kernel
theorem dX11_shut_227 : decode cX11_shut 227 = .ok (.iadd, 1) := by decide +kernel
theorem dX11_shut_228 : decode cX11_shut 228 = .ok (.istore 6, 2) := by decide +kernel
theorem dX11_shut_230 : decode cX11_shut 230 = .ok (.iinc 7 1, 3) := by decide +kernel
theorem dX11_shut_233 : decode cX11_shut 233 = .ok (.goto (-47), 3) := by decide +kernel
theorem dX11_shut_236 : decode cX11_shut 236 = .ok (.iload 4, 2) := by decide +kernel
theorem dX11_shut_238 : decode cX11_shut 238 = .ok (.iconst (-1), 1) := by decide +kernel
theorem dX11_shut_239 : decode cX11_shut 239 = .ok (.if_icmp .eq 10, 3) := by decide +kernel
theorem dX11_shut_242 : decode cX11_shut 242 = .ok (.iload 6, 2) := by decide +kernel
theorem dX11_shut_244 : decode cX11_shut 244 = .ok (.iload 4, 2) := by decide +kernel
theorem dX11_shut_246 : decode cX11_shut 246 = .ok (.if_icmp .ge 24, 3) := by decide +kernel
theorem dX11_shut_249 : decode cX11_shut 249 = .ok (.aload_n 0, 1) := by decide +kernel
theorem dX11_shut_250 : decode cX11_shut 250 = .ok (.invokevirtual 188, 3) := by decide +kernel
theorem dX11_shut_253 : decode cX11_shut 253 = .ok (.iload_n 1, 1) := by decide +kernel
theorem dX11_shut_254 : decode cX11_shut 254 = .ok (.if_icmp .le 6, 3) := by decide +kernel
theorem dX11_shut_257 : decode cX11_shut 257 = .ok (.goto 13, 3) := by decide +kernel
theorem dX11_shut_260 : decode cX11_shut 260 = .ok (.iload 6, 2) := by decide +kernel
theorem dX11_shut_262 : decode cX11_shut 262 = .ok (.istore 4, 2) := by decide +kernel
theorem dX11_shut_264 : decode cX11_shut 264 = .ok (.aload_n 0, 1) := by decide +kernel
theorem dX11_shut_265 : decode cX11_shut 265 = .ok (.iload 5, 2) := by decide +kernel
theorem dX11_shut_267 : decode cX11_shut 267 = .ok (.putfield 191, 3) := by decide +kernel
theorem dX11_shut_270 : decode cX11_shut 270 = .ok (.iinc 5 1, 3) := by decide +kernel
theorem dX11_shut_273 : decode cX11_shut 273 = .ok (.goto (-105), 3) := by decide +kernel
theorem dX11_shut_276 : decode cX11_shut 276 = .ok (.iload 4, 2) := by decide +kernel
theorem dX11_shut_278 : decode cX11_shut 278 = .ok (.iconst (-1), 1) := by decide +kernel
theorem dX11_shut_279 : decode cX11_shut 279 = .ok (.if_icmp .ne 5, 3) := by decide +kernel
theorem dX11_shut_282 : decode cX11_shut 282 = .ok (.iconst (-1), 1) := by decide +kernel
theorem dX11_shut_283 : decode cX11_shut 283 = .ok (.ireturn, 1) := by decide +kernel
theorem dX11_shut_284 : decode cX11_shut 284 = .ok (.aload_n 0, 1) := by decide +kernel
theorem dX11_shut_285 : decode cX11_shut 285 = .ok (.iconst 0, 1) := by decide +kernel
theorem dX11_shut_286 : decode cX11_shut 286 = .ok (.putfield 194, 3) := by decide +kernel
theorem dX11_shut_289 : decode cX11_shut 289 = .ok (.iconst 0, 1) := by decide +kernel
theorem dX11_shut_290 : decode cX11_shut 290 = .ok (.istore 5, 2) := by decide +kernel
theorem dX11_shut_292 : decode cX11_shut 292 = .ok (.iload 5, 2) := by decide +kernel
theorem dX11_shut_294 : decode cX11_shut 294 = .ok (.iload_n 2, 1) := by decide +kernel
theorem dX11_shut_295 : decode cX11_shut 295 = .ok (.if_icmp .ge 50, 3) := by decide +kernel
theorem dX11_shut_298 : decode cX11_shut 298 = .ok (.aload_n 0, 1) := by decide +kernel
theorem dX11_shut_299 : decode cX11_shut 299 = .ok (.getfield 191, 3) := by decide +kernel
theorem dX11_shut_302 : decode cX11_shut 302 = .ok (.iload 5, 2) := by decide +kernel
theorem dX11_shut_304 : decode cX11_shut 304 = .ok (.ishr, 1) := by decide +kernel
theorem dX11_shut_305 : decode cX11_shut 305 = .ok (.iconst 1, 1) := by decide +kernel
theorem dX11_shut_306 : decode cX11_shut 306 = .ok (.iand, 1) := by decide +kernel
theorem dX11_shut_307 : decode cX11_shut 307 = .ok (.ifCond .ne 6, 3) := by decide +kernel
theorem dX11_shut_310 : decode cX11_shut 310 = .ok (.goto 29, 3) := by decide +kernel
theorem dX11_shut_313 : decode cX11_shut 313 = .ok (.aload_n 0, 1) := by decide +kernel
theorem dX11_shut_314 : decode cX11_shut 314 = .ok (.getfield 81, 3) := by decide +kernel
theorem dX11_shut_317 : decode cX11_shut 317 = .ok (.aload_n 0, 1) := by decide +kernel
theorem dX11_shut_318 : decode cX11_shut 318 = .ok (.getfield 194, 3) := by decide +kernel
theorem dX11_shut_321 : decode cX11_shut 321 = .ok (.aload_n 0, 1) := by decide +kernel
theorem dX11_shut_322 : decode cX11_shut 322 = .ok (.getfield 78, 3) := by decide +kernel
theorem dX11_shut_325 : decode cX11_shut 325 = .ok (.iload 5, 2) := by decide +kernel
theorem dX11_shut_327 : decode cX11_shut 327 = .ok (.iaload, 1) := by decide +kernel
theorem dX11_shut_328 : decode cX11_shut 328 = .ok (.iastore, 1) := by decide +kernel
theorem dX11_shut_329 : decode cX11_shut 329 = .ok (.aload_n 0, 1) := by decide +kernel
theorem dX11_shut_330 : decode cX11_shut 330 = .ok (.dup, 1) := by decide +kernel
theorem dX11_shut_331 : decode cX11_shut 331 = .ok (.getfield 194, 3) := by decide +kernel
theorem dX11_shut_334 : decode cX11_shut 334 = .ok (.iconst 1, 1) := by decide +kernel
theorem dX11_shut_335 : decode cX11_shut 335 = .ok (.iadd, 1) := by decide +kernel
theorem dX11_shut_336 : decode cX11_shut 336 = .ok (.putfield 194, 3) := by decide +kernel
theorem dX11_shut_339 : decode cX11_shut 339 = .ok (.iinc 5 1, 3) := by decide +kernel
theorem dX11_shut_342 : decode cX11_shut 342 = .ok (.goto (-50), 3) := by decide +kernel
theorem dX11_shut_345 : decode cX11_shut 345 = .ok (.iload 4, 2) := by decide +kernel
theorem dX11_shut_347 : decode cX11_shut 347 = .ok (.ireturn, 1) := by decide +kernel
theorem dX11_shutting_0 : decode cX11_shutting 0 = .ok (.aload_n 0, 1) := by decide +kernel
theorem dX11_shutting_1 : decode cX11_shutting 1 = .ok (.iconst 0, 1) := by decide +kernel
theorem dX11_shutting_2 : decode cX11_shutting 2 = .ok (.putfield 93, 3) := by decide +kernel
theorem dX11_shutting_5 : decode cX11_shutting 5 = .ok (.iload_n 1, 1) := by decide +kernel
theorem dX11_shutting_6 : decode cX11_shutting 6 = .ok (.ifCond .lt 11, 3) := by decide +kernel
theorem dX11_shutting_9 : decode cX11_shutting 9 = .ok (.iload_n 1, 1) := by decide +kernel
theorem dX11_shutting_10 : decode cX11_shutting 10 = .ok (.aload_n 0, 1) := by decide +kernel
theorem dX11_shutting_11 : decode cX11_shutting 11 = .ok (.getfield 194, 3) := by decide +kernel
theorem dX11_shutting_14 : decode cX11_shutting 14 = .ok (.if_icmp .lt 7, 3) := by decide +kernel
theorem dX11_shutting_17 : decode cX11_shutting 17 = .ok (.iconst (-1), 1) := by decide +kernel
theorem dX11_shutting_18 : decode cX11_shutting 18 = .ok (.goto 9, 3) := by decide +kernel
theorem dX11_shutting_21 : decode cX11_shutting 21 = .ok (.aload_n 0, 1) := by decide +kernel
theorem dX11_shutting_22 : decode cX11_shutting 22 = .ok (.getfield 81, 3) := by decide +kernel
theorem dX11_shutting_25 : decode cX11_shutting 25 = .ok (.iload_n 1, 1) := by decide +kernel
theorem dX11_shutting_26 : decode cX11_shutting 26 = .ok (.iaload, 1) := by decide +kernel
theorem dX11_shutting_27 : decode cX11_shutting 27 = .ok (.ireturn, 1) := by decide +kernel
theorem dX11_odd_0 : decode cX11_odd 0 = .ok (.aload_n 0, 1) := by decide +kernel
theorem dX11_odd_1 : decode cX11_odd 1 = .ok (.iconst 0, 1) := by decide +kernel
theorem dX11_odd_2 : decode cX11_odd 2 = .ok (.putfield 93, 3) := by decide +kernel
theorem dX11_odd_5 : decode cX11_odd 5 = .ok (.iload_n 1, 1) := by decide +kernel
theorem dX11_odd_6 : decode cX11_odd 6 = .ok (.invokestatic 107, 3) := by decide +kernel
theorem dX11_odd_9 : decode cX11_odd 9 = .ok (.ifCond .eq 10, 3) := by decide +kernel
theorem dX11_odd_12 : decode cX11_odd 12 = .ok (.aload_n 0, 1) := by decide +kernel
theorem dX11_odd_13 : decode cX11_odd 13 = .ok (.getfield 140, 3) := by decide +kernel
theorem dX11_odd_16 : decode cX11_odd 16 = .ok (.ifCond .ne 5, 3) := by decide +kernel
theorem dX11_odd_19 : decode cX11_odd 19 = .ok (.iconst (-1), 1) := by decide +kernel
theorem dX11_odd_20 : decode cX11_odd 20 = .ok (.ireturn, 1) := by decide +kernel
theorem dX11_odd_21 : decode cX11_odd 21 = .ok (.aload_n 0, 1) := by decide +kernel
theorem dX11_odd_22 : decode cX11_odd 22 = .ok (.iconst 0, 1) := by decide +kernel
theorem dX11_odd_23 : decode cX11_odd 23 = .ok (.putfield 197, 3) := by decide +kernel
theorem dX11_odd_26 : decode cX11_odd 26 = .ok (.iconst 0, 1) := by decide +kernel
theorem dX11_odd_27 : decode cX11_odd 27 = .ok (.istore_n 2, 1) := by decide +kernel
theorem dX11_odd_28 : decode cX11_odd 28 = .ok (.iload_n 2, 1) := by decide +kernel
theorem dX11_odd_29 : decode cX11_odd 29 = .ok (.aload_n 0, 1) := by decide +kernel
theorem dX11_odd_30 : decode cX11_odd 30 = .ok (.getfield 110, 3) := by decide +kernel
theorem dX11_odd_33 : decode cX11_odd 33 = .ok (.if_icmp .ge 138, 3) := by decide +kernel
theorem dX11_odd_36 : decode cX11_odd 36 = .ok (.aload_n 0, 1) := by decide +kernel
theorem dX11_odd_37 : decode cX11_odd 37 = .ok (.getfield 19, 3) := by decide +kernel
theorem dX11_odd_40 : decode cX11_odd 40 = .ok (.iload_n 2, 1) := by decide +kernel
theorem dX11_odd_41 : decode cX11_odd 41 = .ok (.iaload, 1) := by decide +kernel
theorem dX11_odd_42 : decode cX11_odd 42 = .ok (.iload_n 1, 1) := by decide +kernel
theorem dX11_odd_43 : decode cX11_odd 43 = .ok (.if_icmp .eq 6, 3) := by decide +kernel
theorem dX11_odd_46 : decode cX11_odd 46 = .ok (.goto 119, 3) := by decide +kernel
theorem dX11_odd_49 : decode cX11_odd 49 = .ok (.aload_n 0, 1) := by decide +kernel
theorem dX11_odd_50 : decode cX11_odd 50 = .ok (.getfield 16, 3) := by decide +kernel
theorem dX11_odd_53 : decode cX11_odd 53 = .ok (.iload_n 2, 1) := by decide +kernel
theorem dX11_odd_54 : decode cX11_odd 54 = .ok (.iaload, 1) := by decide +kernel
theorem dX11_odd_55 : decode cX11_odd 55 = .ok (.istore_n 3, 1) := by decide +kernel
theorem dX11_odd_56 : decode cX11_odd 56 = .ok (.aload_n 0, 1) := by decide +kernel
theorem dX11_odd_57 : decode cX11_odd 57 = .ok (.getfield 13, 3) := by decide +kernel
theorem dX11_odd_60 : decode cX11_odd 60 = .ok (.iload_n 3, 1) := by decide +kernel
theorem dX11_odd_61 : decode cX11_odd 61 = .ok (.bipush 32, 2) := by decide +kernel
theorem dX11_odd_63 : decode cX11_odd 63 = .ok (.idiv, 1) := by decide +kernel
theorem dX11_odd_64 : decode cX11_odd 64 = .ok (.iaload, 1) := by decide +kernel
theorem dX11_odd_65 : decode cX11_odd 65 = .ok (.iconst (-1), 1) := by decide +kernel
theorem dX11_odd_66 : decode cX11_odd 66 = .ok (.if_icmp .eq 22, 3) := by decide +kernel
theorem dX11_odd_69 : decode cX11_odd 69 = .ok (.aload_n 0, 1) := by decide +kernel
theorem dX11_odd_70 : decode cX11_odd 70 = .ok (.getfield 13, 3) := by decide +kernel
theorem dX11_odd_73 : decode cX11_odd 73 = .ok (.iload_n 3, 1) := by decide +kernel
theorem dX11_odd_74 : decode cX11_odd 74 = .ok (.iconst 4, 1) := by decide +kernel
theorem dX11_odd_75 : decode cX11_odd 75 = .ok (.idiv, 1) := by decide +kernel
theorem dX11_odd_76 : decode cX11_odd 76 = .ok (.bipush 8, 2) := by decide +kernel
theorem dX11_odd_78 : decode cX11_odd 78 = .ok (.irem, 1) := by decide +kernel
theorem dX11_odd_79 : decode cX11_odd 79 = .ok (.iaload, 1) := by decide +kernel
theorem dX11_odd_80 : decode cX11_odd 80 = .ok (.iconst (-1), 1) := by decide +kernel
theorem dX11_odd_81 : decode cX11_odd 81 = .ok (.if_icmp .eq 7, 3) := by decide +kernel
theorem dX11_odd_84 : decode cX11_odd 84 = .ok (.iconst 1, 1) := by decide +kernel
theorem dX11_odd_85 : decode cX11_odd 85 = .ok (.goto 4, 3) := by decide +kernel
theorem dX11_odd_88 : decode cX11_odd 88 = .ok (.iconst 0, 1) := by decide +kernel
theorem dX11_odd_89 : decode cX11_odd 89 = .ok (.istore 4, 2) := by decide +kernel
theorem dX11_odd_91 : decode cX11_odd 91 = .ok (.iload 4, 2) := by decide +kernel
theorem dX11_odd_93 : decode cX11_odd 93 = .ok (.ifCond .eq 14, 3) := by decide +kernel
theorem dX11_odd_96 : decode cX11_odd 96 = .ok (.aload_n 0, 1) := by decide +kernel
theorem dX11_odd_97 : decode cX11_odd 97 = .ok (.iload_n 3, 1) := by decide +kernel
theorem dX11_odd_98 : decode cX11_odd 98 = .ok (.invokevirtual 176, 3) := by decide +kernel
theorem dX11_odd_101 : decode cX11_odd 101 = .ok (.ifCond .le 6, 3) := by decide +kernel
theorem dX11_odd_104 : decode cX11_odd 104 = .ok (.goto 61, 3) := by decide +kernel
theorem dX11_odd_107 : decode cX11_odd 107 = .ok (.aload_n 0, 1) := by decide +kernel
theorem dX11_odd_108 : decode cX11_odd 108 = .ok (.getfield 84, 3) := by decide +kernel
theorem dX11_odd_111 : decode cX11_odd 111 = .ok (.aload_n 0, 1) := by decide +kernel
theorem dX11_odd_112 : decode cX11_odd 112 = .ok (.getfield 197, 3) := by decide +kernel
theorem dX11_odd_115 : decode cX11_odd 115 = .ok (.iload_n 3, 1) := by decide +kernel
theorem dX11_odd_116 : decode cX11_odd 116 = .ok (.iastore, 1) := by decide +kernel
theorem dX11_odd_117 : decode cX11_odd 117 = .ok (.aload_n 0, 1) := by decide +kernel
theorem dX11_odd_118 : decode cX11_odd 118 = .ok (.getfield 87, 3) := by decide +kernel
theorem dX11_odd_121 : decode cX11_odd 121 = .ok (.aload_n 0, 1) := by decide +kernel
theorem dX11_odd_122 : decode cX11_odd 122 = .ok (.getfield 197, 3) := by decide +kernel
theorem dX11_odd_125 : decode cX11_odd 125 = .ok (.aload_n 0, 1) := by decide +kernel
theorem dX11_odd_126 : decode cX11_odd 126 = .ok (.getfield 22, 3) := by decide +kernel
theorem dX11_odd_129 : decode cX11_odd 129 = .ok (.iload_n 2, 1) := by decide +kernel
theorem dX11_odd_130 : decode cX11_odd 130 = .ok (.iaload, 1) := by decide +kernel
theorem dX11_odd_131 : decode cX11_odd 131 = .ok (.iastore, 1) := by decide +kernel
theorem dX11_odd_132 : decode cX11_odd 132 = .ok (.aload_n 0, 1) := by decide +kernel
theorem dX11_odd_133 : decode cX11_odd 133 = .ok (.getfield 90, 3) := by decide +kernel
theorem dX11_odd_136 : decode cX11_odd 136 = .ok (.aload_n 0, 1) := by decide +kernel
theorem dX11_odd_137 : decode cX11_odd 137 = .ok (.getfield 197, 3) := by decide +kernel
theorem dX11_odd_140 : decode cX11_odd 140 = .ok (.iload 4, 2) := by decide +kernel
theorem dX11_odd_142 : decode cX11_odd 142 = .ok (.ifCond .eq 11, 3) := by decide +kernel
theorem dX11_odd_145 : decode cX11_odd 145 = .ok (.aload_n 0, 1) := by decide +kernel
theorem dX11_odd_146 : decode cX11_odd 146 = .ok (.iload_n 3, 1) := by decide +kernel
theorem dX11_odd_147 : decode cX11_odd 147 = .ok (.invokevirtual 200, 3) := by decide +kernel
theorem dX11_odd_150 : decode cX11_odd 150 = .ok (.goto 4, 3) := by decide +kernel
theorem dX11_odd_153 : decode cX11_odd 153 = .ok (.iconst 0, 1) := by decide +kernel
theorem dX11_odd_154 : decode cX11_odd 154 = .ok (.iastore, 1) := by decide +kernel
theorem dX11_odd_155 : decode cX11_odd 155 = .ok (.aload_n 0, 1) := by decide +kernel
theorem dX11_odd_156 : decode cX11_odd 156 = .ok (.dup, 1) := by decide +kernel
theorem dX11_odd_157 : decode cX11_odd 157 = .ok (.getfield 197, 3) := by decide +kernel
theorem dX11_odd_160 : decode cX11_odd 160 = .ok (.iconst 1, 1) := by decide +kernel
theorem dX11_odd_161 : decode cX11_odd 161 = .ok (.iadd, 1) := by decide +kernel
theorem dX11_odd_162 : decode cX11_odd 162 = .ok (.putfield 197, 3) := by decide +kernel
theorem dX11_odd_165 : decode cX11_odd 165 = .ok (.iinc 2 1, 3) := by decide +kernel
theorem dX11_odd_168 : decode cX11_odd 168 = .ok (.goto (-140), 3) := by decide +kernel
theorem dX11_odd_171 : decode cX11_odd 171 = .ok (.aload_n 0, 1) := by decide +kernel
theorem dX11_odd_172 : decode cX11_odd 172 = .ok (.getfield 197, 3) := by decide +kernel
theorem dX11_odd_175 : decode cX11_odd 175 = .ok (.ireturn, 1) := by decide +kernel
theorem dX11_nearOf_0 : decode cX11_nearOf 0 = .ok (.aload_n 0, 1) := by decide +kernel
theorem dX11_nearOf_1 : decode cX11_nearOf 1 = .ok (.getfield 13, 3) := by decide +kernel
theorem dX11_nearOf_4 : decode cX11_nearOf 4 = .ok (.iload_n 1, 1) := by decide +kernel
theorem dX11_nearOf_5 : decode cX11_nearOf 5 = .ok (.bipush 32, 2) := by decide +kernel
theorem dX11_nearOf_7 : decode cX11_nearOf 7 = .ok (.idiv, 1) := by decide +kernel
theorem dX11_nearOf_8 : decode cX11_nearOf 8 = .ok (.iaload, 1) := by decide +kernel
theorem dX11_nearOf_9 : decode cX11_nearOf 9 = .ok (.istore_n 2, 1) := by decide +kernel
theorem dX11_nearOf_10 : decode cX11_nearOf 10 = .ok (.aload_n 0, 1) := by decide +kernel
theorem dX11_nearOf_11 : decode cX11_nearOf 11 = .ok (.getfield 13, 3) := by decide +kernel
theorem dX11_nearOf_14 : decode cX11_nearOf 14 = .ok (.iload_n 1, 1) := by decide +kernel
theorem dX11_nearOf_15 : decode cX11_nearOf 15 = .ok (.iconst 4, 1) := by decide +kernel
theorem dX11_nearOf_16 : decode cX11_nearOf 16 = .ok (.idiv, 1) := by decide +kernel
theorem dX11_nearOf_17 : decode cX11_nearOf 17 = .ok (.bipush 8, 2) := by decide +kernel
theorem dX11_nearOf_19 : decode cX11_nearOf 19 = .ok (.irem, 1) := by decide +kernel
theorem dX11_nearOf_20 : decode cX11_nearOf 20 = .ok (.iaload, 1) := by decide +kernel
theorem dX11_nearOf_21 : decode cX11_nearOf 21 = .ok (.istore_n 3, 1) := by decide +kernel
theorem dX11_nearOf_22 : decode cX11_nearOf 22 = .ok (.iconst 0, 1) := by decide +kernel
theorem dX11_nearOf_23 : decode cX11_nearOf 23 = .ok (.istore 4, 2) := by decide +kernel
theorem dX11_nearOf_25 : decode cX11_nearOf 25 = .ok (.iconst 0, 1) := by decide +kernel
theorem dX11_nearOf_26 : decode cX11_nearOf 26 = .ok (.istore 5, 2) := by decide +kernel
theorem dX11_nearOf_28 : decode cX11_nearOf 28 = .ok (.iload 5, 2) := by decide +kernel
theorem dX11_nearOf_30 : decode cX11_nearOf 30 = .ok (.iconst 4, 1) := by decide +kernel
theorem dX11_nearOf_31 : decode cX11_nearOf 31 = .ok (.if_icmp .ge 39, 3) := by decide +kernel
theorem dX11_nearOf_34 : decode cX11_nearOf 34 = .ok (.iload 5, 2) := by decide +kernel
theorem dX11_nearOf_36 : decode cX11_nearOf 36 = .ok (.iload_n 1, 1) := by decide +kernel
theorem dX11_nearOf_37 : decode cX11_nearOf 37 = .ok (.iconst 4, 1) := by decide +kernel
theorem dX11_nearOf_38 : decode cX11_nearOf 38 = .ok (.irem, 1) := by decide +kernel
theorem dX11_nearOf_39 : decode cX11_nearOf 39 = .ok (.if_icmp .eq 25, 3) := by decide +kernel
theorem dX11_nearOf_42 : decode cX11_nearOf 42 = .ok (.aload_n 0, 1) := by decide +kernel
theorem dX11_nearOf_43 : decode cX11_nearOf 43 = .ok (.getfield 66, 3) := by decide +kernel
theorem dX11_nearOf_46 : decode cX11_nearOf 46 = .ok (.bipush 32, 2) := by decide +kernel
theorem dX11_nearOf_48 : decode cX11_nearOf 48 = .ok (.iload_n 2, 1) := by decide +kernel
theorem dX11_nearOf_49 : decode cX11_nearOf 49 = .ok (.imul, 1) := by decide +kernel
theorem dX11_nearOf_50 : decode cX11_nearOf 50 = .ok (.iconst 4, 1) := by decide +kernel
theorem dX11_nearOf_51 : decode cX11_nearOf 51 = .ok (.iload_n 3, 1) := by decide +kernel
theorem dX11_nearOf_52 : decode cX11_nearOf 52 = .ok (.imul, 1) := by decide +kernel
theorem dX11_nearOf_53 : decode cX11_nearOf 53 = .ok (.iadd, 1) := by decide +kernel
theorem dX11_nearOf_54 : decode cX11_nearOf 54 = .ok (.iload 5, 2) := by decide +kernel
theorem dX11_nearOf_56 : decode cX11_nearOf 56 = .ok (.iadd, 1) := by decide +kernel
theorem dX11_nearOf_57 : decode cX11_nearOf 57 = .ok (.baload, 1) := by decide +kernel
theorem dX11_nearOf_58 : decode cX11_nearOf 58 = .ok (.ifCond .eq 6, 3) := by decide +kernel
theorem dX11_nearOf_61 : decode cX11_nearOf 61 = .ok (.iconst 1, 1) := by decide +kernel
theorem dX11_nearOf_62 : decode cX11_nearOf 62 = .ok (.istore 4, 2) := by decide +kernel
theorem dX11_nearOf_64 : decode cX11_nearOf 64 = .ok (.iinc 5 1, 3) := by decide +kernel
theorem dX11_nearOf_67 : decode cX11_nearOf 67 = .ok (.goto (-39), 3) := by decide +kernel
theorem dX11_nearOf_70 : decode cX11_nearOf 70 = .ok (.iload 4, 2) := by decide +kernel
theorem dX11_nearOf_72 : decode cX11_nearOf 72 = .ok (.aload_n 0, 1) := by decide +kernel
theorem dX11_nearOf_73 : decode cX11_nearOf 73 = .ok (.getfield 66, 3) := by decide +kernel
theorem dX11_nearOf_76 : decode cX11_nearOf 76 = .ok (.bipush 32, 2) := by decide +kernel
theorem dX11_nearOf_78 : decode cX11_nearOf 78 = .ok (.iload_n 3, 1) := by decide +kernel
theorem dX11_nearOf_79 : decode cX11_nearOf 79 = .ok (.imul, 1) := by decide +kernel
theorem dX11_nearOf_80 : decode cX11_nearOf 80 = .ok (.iconst 4, 1) := by decide +kernel
theorem dX11_nearOf_81 : decode cX11_nearOf 81 = .ok (.iload_n 2, 1) := by decide +kernel
theorem dX11_nearOf_82 : decode cX11_nearOf 82 = .ok (.imul, 1) := by decide +kernel
theorem dX11_nearOf_83 : decode cX11_nearOf 83 = .ok (.iadd, 1) := by decide +kernel
theorem dX11_nearOf_84 : decode cX11_nearOf 84 = .ok (.iload_n 1, 1) := by decide +kernel
theorem dX11_nearOf_85 : decode cX11_nearOf 85 = .ok (.iconst 4, 1) := by decide +kernel
theorem dX11_nearOf_86 : decode cX11_nearOf 86 = .ok (.irem, 1) := by decide +kernel
theorem dX11_nearOf_87 : decode cX11_nearOf 87 = .ok (.iadd, 1) := by decide +kernel
theorem dX11_nearOf_88 : decode cX11_nearOf 88 = .ok (.baload, 1) := by decide +kernel
theorem dX11_nearOf_89 : decode cX11_nearOf 89 = .ok (.ifCond .eq 7, 3) := by decide +kernel
theorem dX11_nearOf_92 : decode cX11_nearOf 92 = .ok (.iconst 2, 1) := by decide +kernel
theorem dX11_nearOf_93 : decode cX11_nearOf 93 = .ok (.goto 4, 3) := by decide +kernel
theorem dX11_nearOf_96 : decode cX11_nearOf 96 = .ok (.iconst 0, 1) := by decide +kernel
theorem dX11_nearOf_97 : decode cX11_nearOf 97 = .ok (.iadd, 1) := by decide +kernel
theorem dX11_nearOf_98 : decode cX11_nearOf 98 = .ok (.ireturn, 1) := by decide +kernel
theorem dX11_oddTalk_0 : decode cX11_oddTalk 0 = .ok (.aload_n 0, 1) := by decide +kernel
theorem dX11_oddTalk_1 : decode cX11_oddTalk 1 = .ok (.iconst 0, 1) := by decide +kernel
theorem dX11_oddTalk_2 : decode cX11_oddTalk 2 = .ok (.putfield 93, 3) := by decide +kernel
theorem dX11_oddTalk_5 : decode cX11_oddTalk 5 = .ok (.iload_n 1, 1) := by decide +kernel
theorem dX11_oddTalk_6 : decode cX11_oddTalk 6 = .ok (.ifCond .lt 11, 3) := by decide +kernel
theorem dX11_oddTalk_9 : decode cX11_oddTalk 9 = .ok (.iload_n 1, 1) := by decide +kernel
theorem dX11_oddTalk_10 : decode cX11_oddTalk 10 = .ok (.aload_n 0, 1) := by decide +kernel
theorem dX11_oddTalk_11 : decode cX11_oddTalk 11 = .ok (.getfield 197, 3) := by decide +kernel
theorem dX11_oddTalk_14 : decode cX11_oddTalk 14 = .ok (.if_icmp .lt 5, 3) := by decide +kernel
theorem dX11_oddTalk_17 : decode cX11_oddTalk 17 = .ok (.iconst (-1), 1) := by decide +kernel
theorem dX11_oddTalk_18 : decode cX11_oddTalk 18 = .ok (.ireturn, 1) := by decide +kernel
theorem dX11_oddTalk_19 : decode cX11_oddTalk 19 = .ok (.iload_n 2, 1) := by decide +kernel
theorem dX11_oddTalk_20 : decode cX11_oddTalk 20 = .ok (.tableswitch 81 0 4 #[36, 46, 58, 67, 74], 36) := by decide +kernel
theorem dX11_oddTalk_56 : decode cX11_oddTalk 56 = .ok (.aload_n 0, 1) := by decide +kernel
theorem dX11_oddTalk_57 : decode cX11_oddTalk 57 = .ok (.getfield 84, 3) := by decide +kernel
theorem dX11_oddTalk_60 : decode cX11_oddTalk 60 = .ok (.iload_n 1, 1) := by decide +kernel
theorem dX11_oddTalk_61 : decode cX11_oddTalk 61 = .ok (.iaload, 1) := by decide +kernel
theorem dX11_oddTalk_62 : decode cX11_oddTalk 62 = .ok (.bipush 32, 2) := by decide +kernel
theorem dX11_oddTalk_64 : decode cX11_oddTalk 64 = .ok (.idiv, 1) := by decide +kernel
theorem dX11_oddTalk_65 : decode cX11_oddTalk 65 = .ok (.ireturn, 1) := by decide +kernel
theorem dX11_oddTalk_66 : decode cX11_oddTalk 66 = .ok (.aload_n 0, 1) := by decide +kernel
theorem dX11_oddTalk_67 : decode cX11_oddTalk 67 = .ok (.getfield 84, 3) := by decide +kernel
theorem dX11_oddTalk_70 : decode cX11_oddTalk 70 = .ok (.iload_n 1, 1) := by decide +kernel
theorem dX11_oddTalk_71 : decode cX11_oddTalk 71 = .ok (.iaload, 1) := by decide +kernel
theorem dX11_oddTalk_72 : decode cX11_oddTalk 72 = .ok (.iconst 4, 1) := by decide +kernel
theorem dX11_oddTalk_73 : decode cX11_oddTalk 73 = .ok (.idiv, 1) := by decide +kernel
theorem dX11_oddTalk_74 : decode cX11_oddTalk 74 = .ok (.bipush 8, 2) := by decide +kernel
theorem dX11_oddTalk_76 : decode cX11_oddTalk 76 = .ok (.irem, 1) := by decide +kernel
theorem dX11_oddTalk_77 : decode cX11_oddTalk 77 = .ok (.ireturn, 1) := by decide +kernel
theorem dX11_oddTalk_78 : decode cX11_oddTalk 78 = .ok (.aload_n 0, 1) := by decide +kernel
theorem dX11_oddTalk_79 : decode cX11_oddTalk 79 = .ok (.getfield 84, 3) := by decide +kernel
theorem dX11_oddTalk_82 : decode cX11_oddTalk 82 = .ok (.iload_n 1, 1) := by decide +kernel
theorem dX11_oddTalk_83 : decode cX11_oddTalk 83 = .ok (.iaload, 1) := by decide +kernel
theorem dX11_oddTalk_84 : decode cX11_oddTalk 84 = .ok (.iconst 4, 1) := by decide +kernel
theorem dX11_oddTalk_85 : decode cX11_oddTalk 85 = .ok (.irem, 1) := by decide +kernel
theorem dX11_oddTalk_86 : decode cX11_oddTalk 86 = .ok (.ireturn, 1) := by decide +kernel
theorem dX11_oddTalk_87 : decode cX11_oddTalk 87 = .ok (.aload_n 0, 1) := by decide +kernel
theorem dX11_oddTalk_88 : decode cX11_oddTalk 88 = .ok (.getfield 87, 3) := by decide +kernel
theorem dX11_oddTalk_91 : decode cX11_oddTalk 91 = .ok (.iload_n 1, 1) := by decide +kernel
theorem dX11_oddTalk_92 : decode cX11_oddTalk 92 = .ok (.iaload, 1) := by decide +kernel
theorem dX11_oddTalk_93 : decode cX11_oddTalk 93 = .ok (.ireturn, 1) := by decide +kernel
theorem dX11_oddTalk_94 : decode cX11_oddTalk 94 = .ok (.aload_n 0, 1) := by decide +kernel
theorem dX11_oddTalk_95 : decode cX11_oddTalk 95 = .ok (.getfield 90, 3) := by decide +kernel
theorem dX11_oddTalk_98 : decode cX11_oddTalk 98 = .ok (.iload_n 1, 1) := by decide +kernel
theorem dX11_oddTalk_99 : decode cX11_oddTalk 99 = .ok (.iaload, 1) := by decide +kernel
theorem dX11_oddTalk_100 : decode cX11_oddTalk 100 = .ok (.ireturn, 1) := by decide +kernel
theorem dX11_oddTalk_101 : decode cX11_oddTalk 101 = .ok (.iconst (-1), 1) := by decide +kernel
theorem dX11_oddTalk_102 : decode cX11_oddTalk 102 = .ok (.ireturn, 1) := by decide +kernel
theorem dX11_place_0 : decode cX11_place 0 = .ok (.aload_n 0, 1) := by decide +kernel
theorem dX11_place_1 : decode cX11_place 1 = .ok (.iconst 0, 1) := by decide +kernel
theorem dX11_place_2 : decode cX11_place 2 = .ok (.putfield 93, 3) := by decide +kernel
theorem dX11_place_5 : decode cX11_place 5 = .ok (.aload_n 0, 1) := by decide +kernel
theorem dX11_place_6 : decode cX11_place 6 = .ok (.iload_n 1, 1) := by decide +kernel
theorem dX11_place_7 : decode cX11_place 7 = .ok (.invokevirtual 99, 3) := by decide +kernel
theorem dX11_place_10 : decode cX11_place 10 = .ok (.ifCond .eq 27, 3) := by decide +kernel
theorem dX11_place_13 : decode cX11_place 13 = .ok (.iload_n 2, 1) := by decide +kernel
theorem dX11_place_14 : decode cX11_place 14 = .ok (.invokestatic 107, 3) := by decide +kernel
theorem dX11_place_17 : decode cX11_place 17 = .ok (.ifCond .eq 20, 3) := by decide +kernel
theorem dX11_place_20 : decode cX11_place 20 = .ok (.aload_n 0, 1) := by decide +kernel
theorem dX11_place_21 : decode cX11_place 21 = .ok (.getfield 13, 3) := by decide +kernel
theorem dX11_place_24 : decode cX11_place 24 = .ok (.iload_n 1, 1) := by decide +kernel
theorem dX11_place_25 : decode cX11_place 25 = .ok (.iaload, 1) := by decide +kernel
theorem dX11_place_26 : decode cX11_place 26 = .ok (.iconst (-1), 1) := by decide +kernel
theorem dX11_place_27 : decode cX11_place 27 = .ok (.if_icmp .ne 10, 3) := by decide +kernel
theorem dX11_place_30 : decode cX11_place 30 = .ok (.aload_n 0, 1) := by decide +kernel
theorem dX11_place_31 : decode cX11_place 31 = .ok (.getfield 140, 3) := by decide +kernel
theorem dX11_place_34 : decode cX11_place 34 = .ok (.ifCond .ne 5, 3) := by decide +kernel
theorem dX11_place_37 : decode cX11_place 37 = .ok (.iconst (-1), 1) := by decide +kernel
theorem dX11_place_38 : decode cX11_place 38 = .ok (.ireturn, 1) := by decide +kernel
theorem dX11_place_39 : decode cX11_place 39 = .ok (.aload_n 0, 1) := by decide +kernel
theorem dX11_place_40 : decode cX11_place 40 = .ok (.iload_n 2, 1) := by decide +kernel
theorem dX11_place_41 : decode cX11_place 41 = .ok (.invokevirtual 149, 3) := by decide +kernel
theorem dX11_place_44 : decode cX11_place 44 = .ok (.aload_n 0, 1) := by decide +kernel
theorem dX11_place_45 : decode cX11_place 45 = .ok (.invokevirtual 203, 3) := by decide +kernel
theorem dX11_place_48 : decode cX11_place 48 = .ok (.istore_n 3, 1) := by decide +kernel
theorem dX11_place_49 : decode cX11_place 49 = .ok (.iconst (-1), 1) := by decide +kernel
theorem dX11_place_50 : decode cX11_place 50 = .ok (.istore 4, 2) := by decide +kernel
theorem dX11_place_52 : decode cX11_place 52 = .ok (.iconst (-1), 1) := by decide +kernel
theorem dX11_place_53 : decode cX11_place 53 = .ok (.istore 5, 2) := by decide +kernel
theorem dX11_place_55 : decode cX11_place 55 = .ok (.iconst 0, 1) := by decide +kernel
theorem dX11_place_56 : decode cX11_place 56 = .ok (.istore 6, 2) := by decide +kernel
theorem dX11_place_58 : decode cX11_place 58 = .ok (.iload 6, 2) := by decide +kernel
theorem dX11_place_60 : decode cX11_place 60 = .ok (.iload_n 3, 1) := by decide +kernel
theorem dX11_place_61 : decode cX11_place 61 = .ok (.if_icmp .gt 79, 3) := by decide +kernel
theorem dX11_place_64 : decode cX11_place 64 = .ok (.iload 6, 2) := by decide +kernel
theorem dX11_place_66 : decode cX11_place 66 = .ok (.bipush 8, 2) := by decide +kernel
theorem dX11_place_68 : decode cX11_place 68 = .ok (.if_icmp .ge 72, 3) := by decide +kernel
theorem dX11_place_71 : decode cX11_place 71 = .ok (.aload_n 0, 1) := by decide +kernel
theorem dX11_place_72 : decode cX11_place 72 = .ok (.iload_n 1, 1) := by decide +kernel
theorem dX11_place_73 : decode cX11_place 73 = .ok (.iload 6, 2) := by decide +kernel
theorem dX11_place_75 : decode cX11_place 75 = .ok (.invokevirtual 206, 3) := by decide +kernel
theorem dX11_place_78 : decode cX11_place 78 = .ok (.aload_n 0, 1) := by decide +kernel
theorem dX11_place_79 : decode cX11_place 79 = .ok (.getfield 113, 3) := by decide +kernel
theorem dX11_place_82 : decode cX11_place 82 = .ok (.ifCond .eq 16, 3) := by decide +kernel
theorem dX11_place_85 : decode cX11_place 85 = .ok (.aload_n 0, 1) := by decide +kernel
theorem dX11_place_86 : decode cX11_place 86 = .ok (.iload_n 1, 1) := by decide +kernel
theorem dX11_place_87 : decode cX11_place 87 = .ok (.iload 6, 2) := by decide +kernel
theorem dX11_place_89 : decode cX11_place 89 = .ok (.invokevirtual 210, 3) := by decide +kernel
theorem dX11_place_92 : decode cX11_place 92 = .ok (.ifCond .eq 6, 3) := by decide +kernel
theorem dX11_place_95 : decode cX11_place 95 = .ok (.goto 39, 3) := by decide +kernel
theorem dX11_place_98 : decode cX11_place 98 = .ok (.aload_n 0, 1) := by decide +kernel
theorem dX11_place_99 : decode cX11_place 99 = .ok (.invokevirtual 157, 3) := by decide +kernel
theorem dX11_place_102 : decode cX11_place 102 = .ok (.istore 7, 2) := by decide +kernel
theorem dX11_place_104 : decode cX11_place 104 = .ok (.iload 7, 2) := by decide +kernel
theorem dX11_place_106 : decode cX11_place 106 = .ok (.iconst (-1), 1) := by decide +kernel
theorem dX11_place_107 : decode cX11_place 107 = .ok (.if_icmp .eq 27, 3) := by decide +kernel
theorem dX11_place_110 : decode cX11_place 110 = .ok (.iload 4, 2) := by decide +kernel
theorem dX11_place_112 : decode cX11_place 112 = .ok (.iconst (-1), 1) := by decide +kernel
theorem dX11_place_113 : decode cX11_place 113 = .ok (.if_icmp .eq 13, 3) := by decide +kernel
theorem dX11_place_116 : decode cX11_place 116 = .ok (.iload 7, 2) := by decide +kernel
theorem dX11_place_118 : decode cX11_place 118 = .ok (.iload 4, 2) := by decide +kernel
theorem dX11_place_120 : decode cX11_place 120 = .ok (.if_icmp .lt 6, 3) := by decide +kernel
theorem dX11_place_123 : decode cX11_place 123 = .ok (.goto 11, 3) := by decide +kernel
theorem dX11_place_126 : decode cX11_place 126 = .ok (.iload 7, 2) := by decide +kernel
theorem dX11_place_128 : decode cX11_place 128 = .ok (.istore 4, 2) := by decide +kernel
theorem dX11_place_130 : decode cX11_place 130 = .ok (.iload 6, 2) := by decide +kernel
theorem dX11_place_132 : decode cX11_place 132 = .ok (.istore 5, 2) := by decide +kernel
theorem dX11_place_134 : decode cX11_place 134 = .ok (.iinc 6 1, 3) := by decide +kernel
theorem dX11_place_137 : decode cX11_place 137 = .ok (.goto (-79), 3) := by decide +kernel
theorem dX11_place_140 : decode cX11_place 140 = .ok (.iload 5, 2) := by decide +kernel
theorem dX11_place_142 : decode cX11_place 142 = .ok (.iconst (-1), 1) := by decide +kernel
theorem dX11_place_143 : decode cX11_place 143 = .ok (.if_icmp .ne 5, 3) := by decide +kernel
theorem dX11_place_146 : decode cX11_place 146 = .ok (.iconst (-1), 1) := by decide +kernel
theorem dX11_place_147 : decode cX11_place 147 = .ok (.ireturn, 1) := by decide +kernel
theorem dX11_place_148 : decode cX11_place 148 = .ok (.aload_n 0, 1) := by decide +kernel
theorem dX11_place_149 : decode cX11_place 149 = .ok (.iload_n 1, 1) := by decide +kernel
theorem dX11_place_150 : decode cX11_place 150 = .ok (.iload 5, 2) := by decide +kernel
theorem dX11_place_152 : decode cX11_place 152 = .ok (.invokevirtual 206, 3) := by decide +kernel
theorem dX11_place_155 : decode cX11_place 155 = .ok (.aload_n 0, 1) := by decide +kernel
theorem dX11_place_156 : decode cX11_place 156 = .ok (.aload_n 0, 1) := by decide +kernel
theorem dX11_place_157 : decode cX11_place 157 = .ok (.invokevirtual 157, 3) := by decide +kernel
theorem dX11_place_160 : decode cX11_place 160 = .ok (.invokevirtual 164, 3) := by decide +kernel
theorem dX11_place_163 : decode cX11_place 163 = .ok (.iload 5, 2) := by decide +kernel
theorem dX11_place_165 : decode cX11_place 165 = .ok (.ireturn, 1) := by decide +kernel
theorem dX11_putsIn_0 : decode cX11_putsIn 0 = .ok (.iconst 0, 1) := by decide +kernel
theorem dX11_putsIn_1 : decode cX11_putsIn 1 = .ok (.istore_n 3, 1) := by decide +kernel
theorem dX11_putsIn_2 : decode cX11_putsIn 2 = .ok (.iload_n 3, 1) := by decide +kernel
theorem dX11_putsIn_3 : decode cX11_putsIn 3 = .ok (.bipush 8, 2) := by decide +kernel
theorem dX11_putsIn_5 : decode cX11_putsIn 5 = .ok (.if_icmp .ge 30, 3) := by decide +kernel
theorem dX11_putsIn_8 : decode cX11_putsIn 8 = .ok (.aload_n 0, 1) := by decide +kernel
theorem dX11_putsIn_9 : decode cX11_putsIn 9 = .ok (.getfield 57, 3) := by decide +kernel
theorem dX11_putsIn_12 : decode cX11_putsIn 12 = .ok (.iload_n 3, 1) := by decide +kernel
theorem dX11_putsIn_13 : decode cX11_putsIn 13 = .ok (.iload_n 3, 1) := by decide +kernel
theorem dX11_putsIn_14 : decode cX11_putsIn 14 = .ok (.iload_n 1, 1) := by decide +kernel
theorem dX11_putsIn_15 : decode cX11_putsIn 15 = .ok (.if_icmp .ne 7, 3) := by decide +kernel
theorem dX11_putsIn_18 : decode cX11_putsIn 18 = .ok (.iload_n 2, 1) := by decide +kernel
theorem dX11_putsIn_19 : decode cX11_putsIn 19 = .ok (.goto 9, 3) := by decide +kernel
theorem dX11_putsIn_22 : decode cX11_putsIn 22 = .ok (.aload_n 0, 1) := by decide +kernel
theorem dX11_putsIn_23 : decode cX11_putsIn 23 = .ok (.getfield 13, 3) := by decide +kernel
theorem dX11_putsIn_26 : decode cX11_putsIn 26 = .ok (.iload_n 3, 1) := by decide +kernel
theorem dX11_putsIn_27 : decode cX11_putsIn 27 = .ok (.iaload, 1) := by decide +kernel
theorem dX11_putsIn_28 : decode cX11_putsIn 28 = .ok (.iastore, 1) := by decide +kernel
theorem dX11_putsIn_29 : decode cX11_putsIn 29 = .ok (.iinc 3 1, 3) := by decide +kernel
theorem dX11_putsIn_32 : decode cX11_putsIn 32 = .ok (.goto (-30), 3) := by decide +kernel
theorem dX11_putsIn_35 : decode cX11_putsIn 35 = .ok (.return_, 1) := by decide +kernel
theorem dX11_isUnlike_0 : decode cX11_isUnlike 0 = .ok (.iconst 0, 1) := by decide +kernel
theorem dX11_isUnlike_1 : decode cX11_isUnlike 1 = .ok (.istore_n 3, 1) := by decide +kernel
theorem dX11_isUnlike_2 : decode cX11_isUnlike 2 = .ok (.iload_n 3, 1) := by decide +kernel
theorem dX11_isUnlike_3 : decode cX11_isUnlike 3 = .ok (.aload_n 0, 1) := by decide +kernel
theorem dX11_isUnlike_4 : decode cX11_isUnlike 4 = .ok (.getfield 96, 3) := by decide +kernel
theorem dX11_isUnlike_7 : decode cX11_isUnlike 7 = .ok (.if_icmp .ge 41, 3) := by decide +kernel
theorem dX11_isUnlike_10 : decode cX11_isUnlike 10 = .ok (.iload_n 3, 1) := by decide +kernel
theorem dX11_isUnlike_11 : decode cX11_isUnlike 11 = .ok (.iload_n 1, 1) := by decide +kernel
theorem dX11_isUnlike_12 : decode cX11_isUnlike 12 = .ok (.if_icmp .eq 30, 3) := by decide +kernel
theorem dX11_isUnlike_15 : decode cX11_isUnlike 15 = .ok (.aload_n 0, 1) := by decide +kernel
theorem dX11_isUnlike_16 : decode cX11_isUnlike 16 = .ok (.getfield 13, 3) := by decide +kernel
theorem dX11_isUnlike_19 : decode cX11_isUnlike 19 = .ok (.iload_n 3, 1) := by decide +kernel
theorem dX11_isUnlike_20 : decode cX11_isUnlike 20 = .ok (.iaload, 1) := by decide +kernel
theorem dX11_isUnlike_21 : decode cX11_isUnlike 21 = .ok (.iload_n 2, 1) := by decide +kernel
theorem dX11_isUnlike_22 : decode cX11_isUnlike 22 = .ok (.if_icmp .ne 20, 3) := by decide +kernel
theorem dX11_isUnlike_25 : decode cX11_isUnlike 25 = .ok (.aload_n 0, 1) := by decide +kernel
theorem dX11_isUnlike_26 : decode cX11_isUnlike 26 = .ok (.getfield 7, 3) := by decide +kernel
theorem dX11_isUnlike_29 : decode cX11_isUnlike 29 = .ok (.iload_n 3, 1) := by decide +kernel
theorem dX11_isUnlike_30 : decode cX11_isUnlike 30 = .ok (.iaload, 1) := by decide +kernel
theorem dX11_isUnlike_31 : decode cX11_isUnlike 31 = .ok (.aload_n 0, 1) := by decide +kernel
theorem dX11_isUnlike_32 : decode cX11_isUnlike 32 = .ok (.getfield 7, 3) := by decide +kernel
theorem dX11_isUnlike_35 : decode cX11_isUnlike 35 = .ok (.iload_n 1, 1) := by decide +kernel
theorem dX11_isUnlike_36 : decode cX11_isUnlike 36 = .ok (.iaload, 1) := by decide +kernel
theorem dX11_isUnlike_37 : decode cX11_isUnlike 37 = .ok (.if_icmp .eq 5, 3) := by decide +kernel
theorem dX11_isUnlike_40 : decode cX11_isUnlike 40 = .ok (.iconst 1, 1) := by decide +kernel
theorem dX11_isUnlike_41 : decode cX11_isUnlike 41 = .ok (.ireturn, 1) := by decide +kernel
theorem dX11_isUnlike_42 : decode cX11_isUnlike 42 = .ok (.iinc 3 1, 3) := by decide +kernel
theorem dX11_isUnlike_45 : decode cX11_isUnlike 45 = .ok (.goto (-43), 3) := by decide +kernel
theorem dX11_isUnlike_48 : decode cX11_isUnlike 48 = .ok (.iconst 0, 1) := by decide +kernel
theorem dX11_isUnlike_49 : decode cX11_isUnlike 49 = .ok (.ireturn, 1) := by decide +kernel
theorem dX11_count_0 : decode cX11_count 0 = .ok (.aload_n 0, 1) := by decide +kernel
theorem dX11_count_1 : decode cX11_count 1 = .ok (.iconst 0, 1) := by decide +kernel
theorem dX11_count_2 : decode cX11_count 2 = .ok (.putfield 93, 3) := by decide +kernel
theorem dX11_count_5 : decode cX11_count 5 = .ok (.iconst 0, 1) := by decide +kernel
theorem dX11_count_6 : decode cX11_count 6 = .ok (.istore_n 2, 1) := by decide +kernel
theorem dX11_count_7 : decode cX11_count 7 = .ok (.iconst 0, 1) := by decide +kernel
theorem dX11_count_8 : decode cX11_count 8 = .ok (.istore_n 3, 1) := by decide +kernel
theorem dX11_count_9 : decode cX11_count 9 = .ok (.iload_n 3, 1) := by decide +kernel
theorem dX11_count_10 : decode cX11_count 10 = .ok (.sipush 256, 3) := by decide +kernel
theorem dX11_count_13 : decode cX11_count 13 = .ok (.if_icmp .ge 26, 3) := by decide +kernel
theorem dX11_count_16 : decode cX11_count 16 = .ok (.iload_n 2, 1) := by decide +kernel
theorem dX11_count_17 : decode cX11_count 17 = .ok (.aload_n 0, 1) := by decide +kernel
theorem dX11_count_18 : decode cX11_count 18 = .ok (.getfield 66, 3) := by decide +kernel
theorem dX11_count_21 : decode cX11_count 21 = .ok (.iload_n 3, 1) := by decide +kernel
theorem dX11_count_22 : decode cX11_count 22 = .ok (.baload, 1) := by decide +kernel
theorem dX11_count_23 : decode cX11_count 23 = .ok (.ifCond .eq 7, 3) := by decide +kernel
theorem dX11_count_26 : decode cX11_count 26 = .ok (.iconst 1, 1) := by decide +kernel
theorem dX11_count_27 : decode cX11_count 27 = .ok (.goto 4, 3) := by decide +kernel
theorem dX11_count_30 : decode cX11_count 30 = .ok (.iconst 0, 1) := by decide +kernel
theorem dX11_count_31 : decode cX11_count 31 = .ok (.iadd, 1) := by decide +kernel
theorem dX11_count_32 : decode cX11_count 32 = .ok (.istore_n 2, 1) := by decide +kernel
theorem dX11_count_33 : decode cX11_count 33 = .ok (.iinc 3 1, 3) := by decide +kernel
theorem dX11_count_36 : decode cX11_count 36 = .ok (.goto (-27), 3) := by decide +kernel
theorem dX11_count_39 : decode cX11_count 39 = .ok (.iload_n 1, 1) := by decide +kernel
theorem dX11_count_40 : decode cX11_count 40 = .ok (.tableswitch 78 0 5 #[40, 45, 50, 55, 57, 62], 40) := by decide +kernel
theorem dX11_count_80 : decode cX11_count 80 = .ok (.aload_n 0, 1) := by decide +kernel
theorem dX11_count_81 : decode cX11_count 81 = .ok (.getfield 96, 3) := by decide +kernel
theorem dX11_count_84 : decode cX11_count 84 = .ok (.ireturn, 1) := by decide +kernel
theorem dX11_count_85 : decode cX11_count 85 = .ok (.aload_n 0, 1) := by decide +kernel
theorem dX11_count_86 : decode cX11_count 86 = .ok (.getfield 110, 3) := by decide +kernel
theorem dX11_count_89 : decode cX11_count 89 = .ok (.ireturn, 1) := by decide +kernel
theorem dX11_count_90 : decode cX11_count 90 = .ok (.aload_n 0, 1) := by decide +kernel
theorem dX11_count_91 : decode cX11_count 91 = .ok (.invokevirtual 203, 3) := by decide +kernel
theorem dX11_count_94 : decode cX11_count 94 = .ok (.ireturn, 1) := by decide +kernel
theorem dX11_count_95 : decode cX11_count 95 = .ok (.iload_n 2, 1) := by decide +kernel
theorem dX11_count_96 : decode cX11_count 96 = .ok (.ireturn, 1) := by decide +kernel
theorem dX11_count_97 : decode cX11_count 97 = .ok (.aload_n 0, 1) := by decide +kernel
theorem dX11_count_98 : decode cX11_count 98 = .ok (.getfield 146, 3) := by decide +kernel
theorem dX11_count_101 : decode cX11_count 101 = .ok (.ireturn, 1) := by decide +kernel
theorem dX11_count_102 : decode cX11_count 102 = .ok (.aload_n 0, 1) := by decide +kernel
theorem dX11_count_103 : decode cX11_count 103 = .ok (.getfield 140, 3) := by decide +kernel
theorem dX11_count_106 : decode cX11_count 106 = .ok (.ifCond .eq 10, 3) := by decide +kernel
theorem dX11_count_109 : decode cX11_count 109 = .ok (.aload_n 0, 1) := by decide +kernel
theorem dX11_count_110 : decode cX11_count 110 = .ok (.getfield 143, 3) := by decide +kernel
theorem dX11_count_113 : decode cX11_count 113 = .ok (.goto 4, 3) := by decide +kernel
end
section
theorem dX11_count_116 : decode cX11_count 116 = .ok (.iconst (-1), 1) := by decide +kernel
theorem dX11_count_117 : decode cX11_count 117 = .ok (.ireturn, 1) := by decide +kernel
theorem dX11_count_118 : decode cX11_count 118 = .ok (.iconst (-1), 1) := by decide +kernel
theorem dX11_count_119 : decode cX11_count 119 = .ok (.ireturn, 1) := by decide +kernel
theorem dJ6_bitCount_0f7a4_0 : decode cJ6_bitCount_0f7a4 0 = .ok (.iload_n 0, 1) := by decide +kernel
theorem dJ6_bitCount_0f7a4_1 : decode cJ6_bitCount_0f7a4 1 = .ok (.iload_n 0, 1) := by decide +kernel
theorem dJ6_bitCount_0f7a4_2 : decode cJ6_bitCount_0f7a4 2 = .ok (.iconst 1, 1) := by decide +kernel
theorem dJ6_bitCount_0f7a4_3 : decode cJ6_bitCount_0f7a4 3 = .ok (.iushr, 1) := by decide +kernel
theorem dJ6_bitCount_0f7a4_4 : decode cJ6_bitCount_0f7a4 4 = .ok (.ldc_w 265, 3) := by decide +kernel
theorem dJ6_bitCount_0f7a4_7 : decode cJ6_bitCount_0f7a4 7 = .ok (.iand, 1) := by decide +kernel
theorem dJ6_bitCount_0f7a4_8 : decode cJ6_bitCount_0f7a4 8 = .ok (.isub, 1) := by decide +kernel
theorem dJ6_bitCount_0f7a4_9 : decode cJ6_bitCount_0f7a4 9 = .ok (.istore_n 0, 1) := by decide +kernel
theorem dJ6_bitCount_0f7a4_10 : decode cJ6_bitCount_0f7a4 10 = .ok (.iload_n 0, 1) := by decide +kernel
theorem dJ6_bitCount_0f7a4_11 : decode cJ6_bitCount_0f7a4 11 = .ok (.ldc_w 266, 3) := by decide +kernel
theorem dJ6_bitCount_0f7a4_14 : decode cJ6_bitCount_0f7a4 14 = .ok (.iand, 1) := by decide +kernel
theorem dJ6_bitCount_0f7a4_15 : decode cJ6_bitCount_0f7a4 15 = .ok (.iload_n 0, 1) := by decide +kernel
theorem dJ6_bitCount_0f7a4_16 : decode cJ6_bitCount_0f7a4 16 = .ok (.iconst 2, 1) := by decide +kernel
theorem dJ6_bitCount_0f7a4_17 : decode cJ6_bitCount_0f7a4 17 = .ok (.iushr, 1) := by decide +kernel
theorem dJ6_bitCount_0f7a4_18 : decode cJ6_bitCount_0f7a4 18 = .ok (.ldc_w 266, 3) := by decide +kernel
theorem dJ6_bitCount_0f7a4_21 : decode cJ6_bitCount_0f7a4 21 = .ok (.iand, 1) := by decide +kernel
theorem dJ6_bitCount_0f7a4_22 : decode cJ6_bitCount_0f7a4 22 = .ok (.iadd, 1) := by decide +kernel
theorem dJ6_bitCount_0f7a4_23 : decode cJ6_bitCount_0f7a4 23 = .ok (.istore_n 0, 1) := by decide +kernel
theorem dJ6_bitCount_0f7a4_24 : decode cJ6_bitCount_0f7a4 24 = .ok (.iload_n 0, 1) := by decide +kernel
theorem dJ6_bitCount_0f7a4_25 : decode cJ6_bitCount_0f7a4 25 = .ok (.iload_n 0, 1) := by decide +kernel
theorem dJ6_bitCount_0f7a4_26 : decode cJ6_bitCount_0f7a4 26 = .ok (.iconst 4, 1) := by decide +kernel
theorem dJ6_bitCount_0f7a4_27 : decode cJ6_bitCount_0f7a4 27 = .ok (.iushr, 1) := by decide +kernel
theorem dJ6_bitCount_0f7a4_28 : decode cJ6_bitCount_0f7a4 28 = .ok (.iadd, 1) := by decide +kernel
theorem dJ6_bitCount_0f7a4_29 : decode cJ6_bitCount_0f7a4 29 = .ok (.ldc_w 267, 3) := by decide +kernel
theorem dJ6_bitCount_0f7a4_32 : decode cJ6_bitCount_0f7a4 32 = .ok (.iand, 1) := by decide +kernel
theorem dJ6_bitCount_0f7a4_33 : decode cJ6_bitCount_0f7a4 33 = .ok (.istore_n 0, 1) := by decide +kernel
theorem dJ6_bitCount_0f7a4_34 : decode cJ6_bitCount_0f7a4 34 = .ok (.iload_n 0, 1) := by decide +kernel
theorem dJ6_bitCount_0f7a4_35 : decode cJ6_bitCount_0f7a4 35 = .ok (.iload_n 0, 1) := by decide +kernel
theorem dJ6_bitCount_0f7a4_36 : decode cJ6_bitCount_0f7a4 36 = .ok (.bipush 8, 2) := by decide +kernel
theorem dJ6_bitCount_0f7a4_38 : decode cJ6_bitCount_0f7a4 38 = .ok (.iushr, 1) := by decide +kernel
theorem dJ6_bitCount_0f7a4_39 : decode cJ6_bitCount_0f7a4 39 = .ok (.iadd, 1) := by decide +kernel
theorem dJ6_bitCount_0f7a4_40 : decode cJ6_bitCount_0f7a4 40 = .ok (.istore_n 0, 1) := by decide +kernel
theorem dJ6_bitCount_0f7a4_41 : decode cJ6_bitCount_0f7a4 41 = .ok (.iload_n 0, 1) := by decide +kernel
theorem dJ6_bitCount_0f7a4_42 : decode cJ6_bitCount_0f7a4 42 = .ok (.iload_n 0, 1) := by decide +kernel
theorem dJ6_bitCount_0f7a4_43 : decode cJ6_bitCount_0f7a4 43 = .ok (.bipush 16, 2) := by decide +kernel
theorem dJ6_bitCount_0f7a4_45 : decode cJ6_bitCount_0f7a4 45 = .ok (.iushr, 1) := by decide +kernel
theorem dJ6_bitCount_0f7a4_46 : decode cJ6_bitCount_0f7a4 46 = .ok (.iadd, 1) := by decide +kernel
theorem dJ6_bitCount_0f7a4_47 : decode cJ6_bitCount_0f7a4 47 = .ok (.istore_n 0, 1) := by decide +kernel
theorem dJ6_bitCount_0f7a4_48 : decode cJ6_bitCount_0f7a4 48 = .ok (.iload_n 0, 1) := by decide +kernel
theorem dJ6_bitCount_0f7a4_49 : decode cJ6_bitCount_0f7a4 49 = .ok (.bipush 63, 2) := by decide +kernel
theorem dJ6_bitCount_0f7a4_51 : decode cJ6_bitCount_0f7a4 51 = .ok (.iand, 1) := by decide +kernel
theorem dJ6_bitCount_0f7a4_52 : decode cJ6_bitCount_0f7a4 52 = .ok (.ireturn, 1) := by decide +kernel
theorem dJ9_max_7cf53_0 : decode cJ9_max_7cf53 0 = .ok (.iload_n 0, 1) := by decide +kernel
theorem dJ9_max_7cf53_1 : decode cJ9_max_7cf53 1 = .ok (.iload_n 1, 1) := by decide +kernel
theorem dJ9_max_7cf53_2 : decode cJ9_max_7cf53 2 = .ok (.if_icmp .lt 7, 3) := by decide +kernel
theorem dJ9_max_7cf53_5 : decode cJ9_max_7cf53 5 = .ok (.iload_n 0, 1) := by decide +kernel
theorem dJ9_max_7cf53_6 : decode cJ9_max_7cf53 6 = .ok (.goto 4, 3) := by decide +kernel
theorem dJ9_max_7cf53_9 : decode cJ9_max_7cf53 9 = .ok (.iload_n 1, 1) := by decide +kernel
theorem dJ9_max_7cf53_10 : decode cJ9_max_7cf53 10 = .ok (.ireturn, 1) := by decide +kernel
theorem dJ7_fill_53178_0 : decode cJ7_fill_53178 0 = .ok (.iconst 0, 1) := by decide +kernel
theorem dJ7_fill_53178_1 : decode cJ7_fill_53178 1 = .ok (.istore_n 2, 1) := by decide +kernel
theorem dJ7_fill_53178_2 : decode cJ7_fill_53178 2 = .ok (.aload_n 0, 1) := by decide +kernel
theorem dJ7_fill_53178_3 : decode cJ7_fill_53178 3 = .ok (.arraylength, 1) := by decide +kernel
theorem dJ7_fill_53178_4 : decode cJ7_fill_53178 4 = .ok (.istore_n 3, 1) := by decide +kernel
theorem dJ7_fill_53178_5 : decode cJ7_fill_53178 5 = .ok (.iload_n 2, 1) := by decide +kernel
theorem dJ7_fill_53178_6 : decode cJ7_fill_53178 6 = .ok (.iload_n 3, 1) := by decide +kernel
theorem dJ7_fill_53178_7 : decode cJ7_fill_53178 7 = .ok (.if_icmp .ge 13, 3) := by decide +kernel
theorem dJ7_fill_53178_10 : decode cJ7_fill_53178 10 = .ok (.aload_n 0, 1) := by decide +kernel
theorem dJ7_fill_53178_11 : decode cJ7_fill_53178 11 = .ok (.iload_n 2, 1) := by decide +kernel
theorem dJ7_fill_53178_12 : decode cJ7_fill_53178 12 = .ok (.iload_n 1, 1) := by decide +kernel
theorem dJ7_fill_53178_13 : decode cJ7_fill_53178 13 = .ok (.iastore, 1) := by decide +kernel
theorem dJ7_fill_53178_14 : decode cJ7_fill_53178 14 = .ok (.iinc 2 1, 3) := by decide +kernel
theorem dJ7_fill_53178_17 : decode cJ7_fill_53178 17 = .ok (.goto (-12), 3) := by decide +kernel
theorem dJ7_fill_53178_20 : decode cJ7_fill_53178 20 = .ok (.return_, 1) := by decide +kernel
theorem dL_law_0 : decode cL_law 0 = .ok (.new 7, 3) := by decide +kernel
theorem dL_law_3 : decode cL_law 3 = .ok (.dup, 1) := by decide +kernel
theorem dL_law_4 : decode cL_law 4 = .ok (.invokespecial 9, 3) := by decide +kernel
theorem dL_law_7 : decode cL_law 7 = .ok (.astore_n 1, 1) := by decide +kernel
theorem dL_law_8 : decode cL_law 8 = .ok (.new 10, 3) := by decide +kernel
theorem dL_law_11 : decode cL_law 11 = .ok (.dup, 1) := by decide +kernel
theorem dL_law_12 : decode cL_law 12 = .ok (.invokespecial 12, 3) := by decide +kernel
theorem dL_law_15 : decode cL_law 15 = .ok (.astore_n 2, 1) := by decide +kernel
theorem dL_law_16 : decode cL_law 16 = .ok (.iconst 0, 1) := by decide +kernel
theorem dL_law_17 : decode cL_law 17 = .ok (.istore_n 3, 1) := by decide +kernel
theorem dL_law_18 : decode cL_law 18 = .ok (.iload_n 3, 1) := by decide +kernel
theorem dL_law_19 : decode cL_law 19 = .ok (.aload_n 0, 1) := by decide +kernel
theorem dL_law_20 : decode cL_law 20 = .ok (.arraylength, 1) := by decide +kernel
theorem dL_law_21 : decode cL_law 21 = .ok (.bipush 6, 2) := by decide +kernel
theorem dL_law_23 : decode cL_law 23 = .ok (.isub, 1) := by decide +kernel
theorem dL_law_24 : decode cL_law 24 = .ok (.if_icmp .gt 858, 3) := by decide +kernel
theorem dL_law_27 : decode cL_law 27 = .ok (.aload_n 0, 1) := by decide +kernel
theorem dL_law_28 : decode cL_law 28 = .ok (.iload_n 3, 1) := by decide +kernel
theorem dL_law_29 : decode cL_law 29 = .ok (.iaload, 1) := by decide +kernel
theorem dL_law_30 : decode cL_law 30 = .ok (.bipush 31, 2) := by decide +kernel
theorem dL_law_32 : decode cL_law 32 = .ok (.iand, 1) := by decide +kernel
theorem dL_law_33 : decode cL_law 33 = .ok (.tableswitch 843 0 19 #[95, 118, 181, 250, 319, 378, 411, 464, 517, 540, 563, 596, 639, 662, 685, 708, 731, 754, 787, 820], 95) := by decide +kernel
theorem dL_law_128 : decode cL_law 128 = .ok (.aload_n 1, 1) := by decide +kernel
theorem dL_law_129 : decode cL_law 129 = .ok (.aload_n 0, 1) := by decide +kernel
theorem dL_law_130 : decode cL_law 130 = .ok (.iload_n 3, 1) := by decide +kernel
theorem dL_law_131 : decode cL_law 131 = .ok (.iconst 1, 1) := by decide +kernel
theorem dL_law_132 : decode cL_law 132 = .ok (.iadd, 1) := by decide +kernel
theorem dL_law_133 : decode cL_law 133 = .ok (.iaload, 1) := by decide +kernel
theorem dL_law_134 : decode cL_law 134 = .ok (.invokevirtual 13, 3) := by decide +kernel
theorem dL_law_137 : decode cL_law 137 = .ok (.aload_n 2, 1) := by decide +kernel
theorem dL_law_138 : decode cL_law 138 = .ok (.aload_n 0, 1) := by decide +kernel
theorem dL_law_139 : decode cL_law 139 = .ok (.iload_n 3, 1) := by decide +kernel
theorem dL_law_140 : decode cL_law 140 = .ok (.iconst 1, 1) := by decide +kernel
theorem dL_law_141 : decode cL_law 141 = .ok (.iadd, 1) := by decide +kernel
theorem dL_law_142 : decode cL_law 142 = .ok (.iaload, 1) := by decide +kernel
theorem dL_law_143 : decode cL_law 143 = .ok (.invokevirtual 17, 3) := by decide +kernel
theorem dL_law_146 : decode cL_law 146 = .ok (.if_icmp .eq 730, 3) := by decide +kernel
theorem dL_law_149 : decode cL_law 149 = .ok (.iconst 0, 1) := by decide +kernel
theorem dL_law_150 : decode cL_law 150 = .ok (.ireturn, 1) := by decide +kernel
theorem dL_law_151 : decode cL_law 151 = .ok (.aload_n 1, 1) := by decide +kernel
theorem dL_law_152 : decode cL_law 152 = .ok (.aload_n 0, 1) := by decide +kernel
theorem dL_law_153 : decode cL_law 153 = .ok (.iload_n 3, 1) := by decide +kernel
theorem dL_law_154 : decode cL_law 154 = .ok (.iconst 1, 1) := by decide +kernel
theorem dL_law_155 : decode cL_law 155 = .ok (.iadd, 1) := by decide +kernel
theorem dL_law_156 : decode cL_law 156 = .ok (.iaload, 1) := by decide +kernel
theorem dL_law_157 : decode cL_law 157 = .ok (.aload_n 0, 1) := by decide +kernel
theorem dL_law_158 : decode cL_law 158 = .ok (.iload_n 3, 1) := by decide +kernel
theorem dL_law_159 : decode cL_law 159 = .ok (.iconst 2, 1) := by decide +kernel
theorem dL_law_160 : decode cL_law 160 = .ok (.iadd, 1) := by decide +kernel
theorem dL_law_161 : decode cL_law 161 = .ok (.iaload, 1) := by decide +kernel
theorem dL_law_162 : decode cL_law 162 = .ok (.aload_n 0, 1) := by decide +kernel
theorem dL_law_163 : decode cL_law 163 = .ok (.iload_n 3, 1) := by decide +kernel
theorem dL_law_164 : decode cL_law 164 = .ok (.iconst 3, 1) := by decide +kernel
theorem dL_law_165 : decode cL_law 165 = .ok (.iadd, 1) := by decide +kernel
theorem dL_law_166 : decode cL_law 166 = .ok (.iaload, 1) := by decide +kernel
theorem dL_law_167 : decode cL_law 167 = .ok (.aload_n 0, 1) := by decide +kernel
theorem dL_law_168 : decode cL_law 168 = .ok (.iload_n 3, 1) := by decide +kernel
theorem dL_law_169 : decode cL_law 169 = .ok (.iconst 4, 1) := by decide +kernel
theorem dL_law_170 : decode cL_law 170 = .ok (.iadd, 1) := by decide +kernel
theorem dL_law_171 : decode cL_law 171 = .ok (.iaload, 1) := by decide +kernel
theorem dL_law_172 : decode cL_law 172 = .ok (.aload_n 0, 1) := by decide +kernel
theorem dL_law_173 : decode cL_law 173 = .ok (.iload_n 3, 1) := by decide +kernel
theorem dL_law_174 : decode cL_law 174 = .ok (.iconst 5, 1) := by decide +kernel
theorem dL_law_175 : decode cL_law 175 = .ok (.iadd, 1) := by decide +kernel
theorem dL_law_176 : decode cL_law 176 = .ok (.iaload, 1) := by decide +kernel
theorem dL_law_177 : decode cL_law 177 = .ok (.invokevirtual 18, 3) := by decide +kernel
theorem dL_law_180 : decode cL_law 180 = .ok (.aload_n 2, 1) := by decide +kernel
theorem dL_law_181 : decode cL_law 181 = .ok (.aload_n 0, 1) := by decide +kernel
theorem dL_law_182 : decode cL_law 182 = .ok (.iload_n 3, 1) := by decide +kernel
theorem dL_law_183 : decode cL_law 183 = .ok (.iconst 1, 1) := by decide +kernel
theorem dL_law_184 : decode cL_law 184 = .ok (.iadd, 1) := by decide +kernel
theorem dL_law_185 : decode cL_law 185 = .ok (.iaload, 1) := by decide +kernel
theorem dL_law_186 : decode cL_law 186 = .ok (.aload_n 0, 1) := by decide +kernel
theorem dL_law_187 : decode cL_law 187 = .ok (.iload_n 3, 1) := by decide +kernel
theorem dL_law_188 : decode cL_law 188 = .ok (.iconst 2, 1) := by decide +kernel
theorem dL_law_189 : decode cL_law 189 = .ok (.iadd, 1) := by decide +kernel
theorem dL_law_190 : decode cL_law 190 = .ok (.iaload, 1) := by decide +kernel
theorem dL_law_191 : decode cL_law 191 = .ok (.aload_n 0, 1) := by decide +kernel
theorem dL_law_192 : decode cL_law 192 = .ok (.iload_n 3, 1) := by decide +kernel
theorem dL_law_193 : decode cL_law 193 = .ok (.iconst 3, 1) := by decide +kernel
theorem dL_law_194 : decode cL_law 194 = .ok (.iadd, 1) := by decide +kernel
theorem dL_law_195 : decode cL_law 195 = .ok (.iaload, 1) := by decide +kernel
theorem dL_law_196 : decode cL_law 196 = .ok (.aload_n 0, 1) := by decide +kernel
theorem dL_law_197 : decode cL_law 197 = .ok (.iload_n 3, 1) := by decide +kernel
theorem dL_law_198 : decode cL_law 198 = .ok (.iconst 4, 1) := by decide +kernel
theorem dL_law_199 : decode cL_law 199 = .ok (.iadd, 1) := by decide +kernel
theorem dL_law_200 : decode cL_law 200 = .ok (.iaload, 1) := by decide +kernel
theorem dL_law_201 : decode cL_law 201 = .ok (.aload_n 0, 1) := by decide +kernel
theorem dL_law_202 : decode cL_law 202 = .ok (.iload_n 3, 1) := by decide +kernel
theorem dL_law_203 : decode cL_law 203 = .ok (.iconst 5, 1) := by decide +kernel
theorem dL_law_204 : decode cL_law 204 = .ok (.iadd, 1) := by decide +kernel
theorem dL_law_205 : decode cL_law 205 = .ok (.iaload, 1) := by decide +kernel
theorem dL_law_206 : decode cL_law 206 = .ok (.invokevirtual 22, 3) := by decide +kernel
theorem dL_law_209 : decode cL_law 209 = .ok (.if_icmp .eq 667, 3) := by decide +kernel
theorem dL_law_212 : decode cL_law 212 = .ok (.iconst 0, 1) := by decide +kernel
theorem dL_law_213 : decode cL_law 213 = .ok (.ireturn, 1) := by decide +kernel
theorem dL_law_214 : decode cL_law 214 = .ok (.aload_n 1, 1) := by decide +kernel
theorem dL_law_215 : decode cL_law 215 = .ok (.aload_n 0, 1) := by decide +kernel
theorem dL_law_216 : decode cL_law 216 = .ok (.iload_n 3, 1) := by decide +kernel
theorem dL_law_217 : decode cL_law 217 = .ok (.iconst 1, 1) := by decide +kernel
theorem dL_law_218 : decode cL_law 218 = .ok (.iadd, 1) := by decide +kernel
theorem dL_law_219 : decode cL_law 219 = .ok (.iaload, 1) := by decide +kernel
theorem dL_law_220 : decode cL_law 220 = .ok (.aload_n 0, 1) := by decide +kernel
theorem dL_law_221 : decode cL_law 221 = .ok (.iload_n 3, 1) := by decide +kernel
theorem dL_law_222 : decode cL_law 222 = .ok (.iconst 2, 1) := by decide +kernel
theorem dL_law_223 : decode cL_law 223 = .ok (.iadd, 1) := by decide +kernel
theorem dL_law_224 : decode cL_law 224 = .ok (.iaload, 1) := by decide +kernel
theorem dL_law_225 : decode cL_law 225 = .ok (.aload_n 0, 1) := by decide +kernel
theorem dL_law_226 : decode cL_law 226 = .ok (.iload_n 3, 1) := by decide +kernel
theorem dL_law_227 : decode cL_law 227 = .ok (.iconst 3, 1) := by decide +kernel
theorem dL_law_228 : decode cL_law 228 = .ok (.iadd, 1) := by decide +kernel
theorem dL_law_229 : decode cL_law 229 = .ok (.iaload, 1) := by decide +kernel
theorem dL_law_230 : decode cL_law 230 = .ok (.aload_n 0, 1) := by decide +kernel
theorem dL_law_231 : decode cL_law 231 = .ok (.iload_n 3, 1) := by decide +kernel
theorem dL_law_232 : decode cL_law 232 = .ok (.iconst 4, 1) := by decide +kernel
theorem dL_law_233 : decode cL_law 233 = .ok (.iadd, 1) := by decide +kernel
theorem dL_law_234 : decode cL_law 234 = .ok (.iaload, 1) := by decide +kernel
theorem dL_law_235 : decode cL_law 235 = .ok (.ifCond .eq 7, 3) := by decide +kernel
theorem dL_law_238 : decode cL_law 238 = .ok (.iconst 1, 1) := by decide +kernel
theorem dL_law_239 : decode cL_law 239 = .ok (.goto 4, 3) := by decide +kernel
theorem dL_law_242 : decode cL_law 242 = .ok (.iconst 0, 1) := by decide +kernel
theorem dL_law_243 : decode cL_law 243 = .ok (.invokevirtual 23, 3) := by decide +kernel
theorem dL_law_246 : decode cL_law 246 = .ok (.aload_n 2, 1) := by decide +kernel
theorem dL_law_247 : decode cL_law 247 = .ok (.aload_n 0, 1) := by decide +kernel
theorem dL_law_248 : decode cL_law 248 = .ok (.iload_n 3, 1) := by decide +kernel
theorem dL_law_249 : decode cL_law 249 = .ok (.iconst 1, 1) := by decide +kernel
theorem dL_law_250 : decode cL_law 250 = .ok (.iadd, 1) := by decide +kernel
theorem dL_law_251 : decode cL_law 251 = .ok (.iaload, 1) := by decide +kernel
theorem dL_law_252 : decode cL_law 252 = .ok (.aload_n 0, 1) := by decide +kernel
theorem dL_law_253 : decode cL_law 253 = .ok (.iload_n 3, 1) := by decide +kernel
theorem dL_law_254 : decode cL_law 254 = .ok (.iconst 2, 1) := by decide +kernel
theorem dL_law_255 : decode cL_law 255 = .ok (.iadd, 1) := by decide +kernel
theorem dL_law_256 : decode cL_law 256 = .ok (.iaload, 1) := by decide +kernel
theorem dL_law_257 : decode cL_law 257 = .ok (.aload_n 0, 1) := by decide +kernel
theorem dL_law_258 : decode cL_law 258 = .ok (.iload_n 3, 1) := by decide +kernel
theorem dL_law_259 : decode cL_law 259 = .ok (.iconst 3, 1) := by decide +kernel
theorem dL_law_260 : decode cL_law 260 = .ok (.iadd, 1) := by decide +kernel
theorem dL_law_261 : decode cL_law 261 = .ok (.iaload, 1) := by decide +kernel
theorem dL_law_262 : decode cL_law 262 = .ok (.aload_n 0, 1) := by decide +kernel
theorem dL_law_263 : decode cL_law 263 = .ok (.iload_n 3, 1) := by decide +kernel
theorem dL_law_264 : decode cL_law 264 = .ok (.iconst 4, 1) := by decide +kernel
theorem dL_law_265 : decode cL_law 265 = .ok (.iadd, 1) := by decide +kernel
theorem dL_law_266 : decode cL_law 266 = .ok (.iaload, 1) := by decide +kernel
theorem dL_law_267 : decode cL_law 267 = .ok (.ifCond .eq 7, 3) := by decide +kernel
theorem dL_law_270 : decode cL_law 270 = .ok (.iconst 1, 1) := by decide +kernel
theorem dL_law_271 : decode cL_law 271 = .ok (.goto 4, 3) := by decide +kernel
theorem dL_law_274 : decode cL_law 274 = .ok (.iconst 0, 1) := by decide +kernel
theorem dL_law_275 : decode cL_law 275 = .ok (.invokevirtual 27, 3) := by decide +kernel
theorem dL_law_278 : decode cL_law 278 = .ok (.if_icmp .eq 598, 3) := by decide +kernel
theorem dL_law_281 : decode cL_law 281 = .ok (.iconst 0, 1) := by decide +kernel
theorem dL_law_282 : decode cL_law 282 = .ok (.ireturn, 1) := by decide +kernel
theorem dL_law_283 : decode cL_law 283 = .ok (.aload_n 1, 1) := by decide +kernel
theorem dL_law_284 : decode cL_law 284 = .ok (.aload_n 0, 1) := by decide +kernel
theorem dL_law_285 : decode cL_law 285 = .ok (.iload_n 3, 1) := by decide +kernel
theorem dL_law_286 : decode cL_law 286 = .ok (.iconst 1, 1) := by decide +kernel
theorem dL_law_287 : decode cL_law 287 = .ok (.iadd, 1) := by decide +kernel
theorem dL_law_288 : decode cL_law 288 = .ok (.iaload, 1) := by decide +kernel
theorem dL_law_289 : decode cL_law 289 = .ok (.aload_n 0, 1) := by decide +kernel
theorem dL_law_290 : decode cL_law 290 = .ok (.iload_n 3, 1) := by decide +kernel
theorem dL_law_291 : decode cL_law 291 = .ok (.iconst 2, 1) := by decide +kernel
theorem dL_law_292 : decode cL_law 292 = .ok (.iadd, 1) := by decide +kernel
theorem dL_law_293 : decode cL_law 293 = .ok (.iaload, 1) := by decide +kernel
theorem dL_law_294 : decode cL_law 294 = .ok (.aload_n 0, 1) := by decide +kernel
theorem dL_law_295 : decode cL_law 295 = .ok (.iload_n 3, 1) := by decide +kernel
theorem dL_law_296 : decode cL_law 296 = .ok (.iconst 3, 1) := by decide +kernel
theorem dL_law_297 : decode cL_law 297 = .ok (.iadd, 1) := by decide +kernel
theorem dL_law_298 : decode cL_law 298 = .ok (.iaload, 1) := by decide +kernel
theorem dL_law_299 : decode cL_law 299 = .ok (.aload_n 0, 1) := by decide +kernel
theorem dL_law_300 : decode cL_law 300 = .ok (.iload_n 3, 1) := by decide +kernel
theorem dL_law_301 : decode cL_law 301 = .ok (.iconst 4, 1) := by decide +kernel
theorem dL_law_302 : decode cL_law 302 = .ok (.iadd, 1) := by decide +kernel
theorem dL_law_303 : decode cL_law 303 = .ok (.iaload, 1) := by decide +kernel
theorem dL_law_304 : decode cL_law 304 = .ok (.ifCond .eq 7, 3) := by decide +kernel
theorem dL_law_307 : decode cL_law 307 = .ok (.iconst 1, 1) := by decide +kernel
theorem dL_law_308 : decode cL_law 308 = .ok (.goto 4, 3) := by decide +kernel
theorem dL_law_311 : decode cL_law 311 = .ok (.iconst 0, 1) := by decide +kernel
theorem dL_law_312 : decode cL_law 312 = .ok (.invokevirtual 28, 3) := by decide +kernel
theorem dL_law_315 : decode cL_law 315 = .ok (.aload_n 2, 1) := by decide +kernel
theorem dL_law_316 : decode cL_law 316 = .ok (.aload_n 0, 1) := by decide +kernel
theorem dL_law_317 : decode cL_law 317 = .ok (.iload_n 3, 1) := by decide +kernel
theorem dL_law_318 : decode cL_law 318 = .ok (.iconst 1, 1) := by decide +kernel
theorem dL_law_319 : decode cL_law 319 = .ok (.iadd, 1) := by decide +kernel
theorem dL_law_320 : decode cL_law 320 = .ok (.iaload, 1) := by decide +kernel
theorem dL_law_321 : decode cL_law 321 = .ok (.aload_n 0, 1) := by decide +kernel
theorem dL_law_322 : decode cL_law 322 = .ok (.iload_n 3, 1) := by decide +kernel
theorem dL_law_323 : decode cL_law 323 = .ok (.iconst 2, 1) := by decide +kernel
theorem dL_law_324 : decode cL_law 324 = .ok (.iadd, 1) := by decide +kernel
theorem dL_law_325 : decode cL_law 325 = .ok (.iaload, 1) := by decide +kernel
theorem dL_law_326 : decode cL_law 326 = .ok (.aload_n 0, 1) := by decide +kernel
theorem dL_law_327 : decode cL_law 327 = .ok (.iload_n 3, 1) := by decide +kernel
theorem dL_law_328 : decode cL_law 328 = .ok (.iconst 3, 1) := by decide +kernel
theorem dL_law_329 : decode cL_law 329 = .ok (.iadd, 1) := by decide +kernel
theorem dL_law_330 : decode cL_law 330 = .ok (.iaload, 1) := by decide +kernel
theorem dL_law_331 : decode cL_law 331 = .ok (.aload_n 0, 1) := by decide +kernel
theorem dL_law_332 : decode cL_law 332 = .ok (.iload_n 3, 1) := by decide +kernel
theorem dL_law_333 : decode cL_law 333 = .ok (.iconst 4, 1) := by decide +kernel
theorem dL_law_334 : decode cL_law 334 = .ok (.iadd, 1) := by decide +kernel
theorem dL_law_335 : decode cL_law 335 = .ok (.iaload, 1) := by decide +kernel
theorem dL_law_336 : decode cL_law 336 = .ok (.ifCond .eq 7, 3) := by decide +kernel
theorem dL_law_339 : decode cL_law 339 = .ok (.iconst 1, 1) := by decide +kernel
theorem dL_law_340 : decode cL_law 340 = .ok (.goto 4, 3) := by decide +kernel
theorem dL_law_343 : decode cL_law 343 = .ok (.iconst 0, 1) := by decide +kernel
theorem dL_law_344 : decode cL_law 344 = .ok (.invokevirtual 31, 3) := by decide +kernel
theorem dL_law_347 : decode cL_law 347 = .ok (.if_icmp .eq 529, 3) := by decide +kernel
theorem dL_law_350 : decode cL_law 350 = .ok (.iconst 0, 1) := by decide +kernel
theorem dL_law_351 : decode cL_law 351 = .ok (.ireturn, 1) := by decide +kernel
theorem dL_law_352 : decode cL_law 352 = .ok (.aload_n 1, 1) := by decide +kernel
theorem dL_law_353 : decode cL_law 353 = .ok (.aload_n 0, 1) := by decide +kernel
theorem dL_law_354 : decode cL_law 354 = .ok (.iload_n 3, 1) := by decide +kernel
theorem dL_law_355 : decode cL_law 355 = .ok (.iconst 1, 1) := by decide +kernel
theorem dL_law_356 : decode cL_law 356 = .ok (.iadd, 1) := by decide +kernel
theorem dL_law_357 : decode cL_law 357 = .ok (.iaload, 1) := by decide +kernel
theorem dL_law_358 : decode cL_law 358 = .ok (.aload_n 0, 1) := by decide +kernel
theorem dL_law_359 : decode cL_law 359 = .ok (.iload_n 3, 1) := by decide +kernel
theorem dL_law_360 : decode cL_law 360 = .ok (.iconst 2, 1) := by decide +kernel
theorem dL_law_361 : decode cL_law 361 = .ok (.iadd, 1) := by decide +kernel
theorem dL_law_362 : decode cL_law 362 = .ok (.iaload, 1) := by decide +kernel
theorem dL_law_363 : decode cL_law 363 = .ok (.aload_n 0, 1) := by decide +kernel
theorem dL_law_364 : decode cL_law 364 = .ok (.iload_n 3, 1) := by decide +kernel
theorem dL_law_365 : decode cL_law 365 = .ok (.iconst 3, 1) := by decide +kernel
theorem dL_law_366 : decode cL_law 366 = .ok (.iadd, 1) := by decide +kernel
theorem dL_law_367 : decode cL_law 367 = .ok (.iaload, 1) := by decide +kernel
theorem dL_law_368 : decode cL_law 368 = .ok (.ifCond .eq 7, 3) := by decide +kernel
theorem dL_law_371 : decode cL_law 371 = .ok (.iconst 1, 1) := by decide +kernel
theorem dL_law_372 : decode cL_law 372 = .ok (.goto 4, 3) := by decide +kernel
theorem dL_law_375 : decode cL_law 375 = .ok (.iconst 0, 1) := by decide +kernel
theorem dL_law_376 : decode cL_law 376 = .ok (.invokevirtual 32, 3) := by decide +kernel
theorem dL_law_379 : decode cL_law 379 = .ok (.aload_n 2, 1) := by decide +kernel
theorem dL_law_380 : decode cL_law 380 = .ok (.aload_n 0, 1) := by decide +kernel
theorem dL_law_381 : decode cL_law 381 = .ok (.iload_n 3, 1) := by decide +kernel
theorem dL_law_382 : decode cL_law 382 = .ok (.iconst 1, 1) := by decide +kernel
theorem dL_law_383 : decode cL_law 383 = .ok (.iadd, 1) := by decide +kernel
theorem dL_law_384 : decode cL_law 384 = .ok (.iaload, 1) := by decide +kernel
theorem dL_law_385 : decode cL_law 385 = .ok (.aload_n 0, 1) := by decide +kernel
theorem dL_law_386 : decode cL_law 386 = .ok (.iload_n 3, 1) := by decide +kernel
theorem dL_law_387 : decode cL_law 387 = .ok (.iconst 2, 1) := by decide +kernel
theorem dL_law_388 : decode cL_law 388 = .ok (.iadd, 1) := by decide +kernel
theorem dL_law_389 : decode cL_law 389 = .ok (.iaload, 1) := by decide +kernel
theorem dL_law_390 : decode cL_law 390 = .ok (.aload_n 0, 1) := by decide +kernel
theorem dL_law_391 : decode cL_law 391 = .ok (.iload_n 3, 1) := by decide +kernel
theorem dL_law_392 : decode cL_law 392 = .ok (.iconst 3, 1) := by decide +kernel
theorem dL_law_393 : decode cL_law 393 = .ok (.iadd, 1) := by decide +kernel
theorem dL_law_394 : decode cL_law 394 = .ok (.iaload, 1) := by decide +kernel
theorem dL_law_395 : decode cL_law 395 = .ok (.ifCond .eq 7, 3) := by decide +kernel
theorem dL_law_398 : decode cL_law 398 = .ok (.iconst 1, 1) := by decide +kernel
theorem dL_law_399 : decode cL_law 399 = .ok (.goto 4, 3) := by decide +kernel
theorem dL_law_402 : decode cL_law 402 = .ok (.iconst 0, 1) := by decide +kernel
theorem dL_law_403 : decode cL_law 403 = .ok (.invokevirtual 36, 3) := by decide +kernel
theorem dL_law_406 : decode cL_law 406 = .ok (.if_icmp .eq 470, 3) := by decide +kernel
theorem dL_law_409 : decode cL_law 409 = .ok (.iconst 0, 1) := by decide +kernel
theorem dL_law_410 : decode cL_law 410 = .ok (.ireturn, 1) := by decide +kernel
theorem dL_law_411 : decode cL_law 411 = .ok (.aload_n 1, 1) := by decide +kernel
theorem dL_law_412 : decode cL_law 412 = .ok (.aload_n 0, 1) := by decide +kernel
theorem dL_law_413 : decode cL_law 413 = .ok (.iload_n 3, 1) := by decide +kernel
theorem dL_law_414 : decode cL_law 414 = .ok (.iconst 1, 1) := by decide +kernel
theorem dL_law_415 : decode cL_law 415 = .ok (.iadd, 1) := by decide +kernel
theorem dL_law_416 : decode cL_law 416 = .ok (.iaload, 1) := by decide +kernel
theorem dL_law_417 : decode cL_law 417 = .ok (.aload_n 0, 1) := by decide +kernel
theorem dL_law_418 : decode cL_law 418 = .ok (.iload_n 3, 1) := by decide +kernel
theorem dL_law_419 : decode cL_law 419 = .ok (.iconst 2, 1) := by decide +kernel
theorem dL_law_420 : decode cL_law 420 = .ok (.iadd, 1) := by decide +kernel
theorem dL_law_421 : decode cL_law 421 = .ok (.iaload, 1) := by decide +kernel
theorem dL_law_422 : decode cL_law 422 = .ok (.invokevirtual 37, 3) := by decide +kernel
theorem dL_law_425 : decode cL_law 425 = .ok (.aload_n 2, 1) := by decide +kernel
theorem dL_law_426 : decode cL_law 426 = .ok (.aload_n 0, 1) := by decide +kernel
theorem dL_law_427 : decode cL_law 427 = .ok (.iload_n 3, 1) := by decide +kernel
theorem dL_law_428 : decode cL_law 428 = .ok (.iconst 1, 1) := by decide +kernel
theorem dL_law_429 : decode cL_law 429 = .ok (.iadd, 1) := by decide +kernel
theorem dL_law_430 : decode cL_law 430 = .ok (.iaload, 1) := by decide +kernel
theorem dL_law_431 : decode cL_law 431 = .ok (.aload_n 0, 1) := by decide +kernel
theorem dL_law_432 : decode cL_law 432 = .ok (.iload_n 3, 1) := by decide +kernel
theorem dL_law_433 : decode cL_law 433 = .ok (.iconst 2, 1) := by decide +kernel
theorem dL_law_434 : decode cL_law 434 = .ok (.iadd, 1) := by decide +kernel
theorem dL_law_435 : decode cL_law 435 = .ok (.iaload, 1) := by decide +kernel
theorem dL_law_436 : decode cL_law 436 = .ok (.invokevirtual 41, 3) := by decide +kernel
theorem dL_law_439 : decode cL_law 439 = .ok (.if_icmp .eq 437, 3) := by decide +kernel
theorem dL_law_442 : decode cL_law 442 = .ok (.iconst 0, 1) := by decide +kernel
theorem dL_law_443 : decode cL_law 443 = .ok (.ireturn, 1) := by decide +kernel
theorem dL_law_444 : decode cL_law 444 = .ok (.aload_n 1, 1) := by decide +kernel
theorem dL_law_445 : decode cL_law 445 = .ok (.aload_n 0, 1) := by decide +kernel
theorem dL_law_446 : decode cL_law 446 = .ok (.iload_n 3, 1) := by decide +kernel
theorem dL_law_447 : decode cL_law 447 = .ok (.iconst 1, 1) := by decide +kernel
theorem dL_law_448 : decode cL_law 448 = .ok (.iadd, 1) := by decide +kernel
theorem dL_law_449 : decode cL_law 449 = .ok (.iaload, 1) := by decide +kernel
theorem dL_law_450 : decode cL_law 450 = .ok (.aload_n 0, 1) := by decide +kernel
theorem dL_law_451 : decode cL_law 451 = .ok (.iload_n 3, 1) := by decide +kernel
theorem dL_law_452 : decode cL_law 452 = .ok (.iconst 2, 1) := by decide +kernel
theorem dL_law_453 : decode cL_law 453 = .ok (.iadd, 1) := by decide +kernel
theorem dL_law_454 : decode cL_law 454 = .ok (.iaload, 1) := by decide +kernel
theorem dL_law_455 : decode cL_law 455 = .ok (.aload_n 0, 1) := by decide +kernel
theorem dL_law_456 : decode cL_law 456 = .ok (.iload_n 3, 1) := by decide +kernel
theorem dL_law_457 : decode cL_law 457 = .ok (.iconst 3, 1) := by decide +kernel
theorem dL_law_458 : decode cL_law 458 = .ok (.iadd, 1) := by decide +kernel
theorem dL_law_459 : decode cL_law 459 = .ok (.iaload, 1) := by decide +kernel
theorem dL_law_460 : decode cL_law 460 = .ok (.aload_n 0, 1) := by decide +kernel
theorem dL_law_461 : decode cL_law 461 = .ok (.iload_n 3, 1) := by decide +kernel
theorem dL_law_462 : decode cL_law 462 = .ok (.iconst 4, 1) := by decide +kernel
theorem dL_law_463 : decode cL_law 463 = .ok (.iadd, 1) := by decide +kernel
theorem dL_law_464 : decode cL_law 464 = .ok (.iaload, 1) := by decide +kernel
theorem dL_law_465 : decode cL_law 465 = .ok (.invokevirtual 42, 3) := by decide +kernel
theorem dL_law_468 : decode cL_law 468 = .ok (.aload_n 2, 1) := by decide +kernel
theorem dL_law_469 : decode cL_law 469 = .ok (.aload_n 0, 1) := by decide +kernel
theorem dL_law_470 : decode cL_law 470 = .ok (.iload_n 3, 1) := by decide +kernel
theorem dL_law_471 : decode cL_law 471 = .ok (.iconst 1, 1) := by decide +kernel
theorem dL_law_472 : decode cL_law 472 = .ok (.iadd, 1) := by decide +kernel
theorem dL_law_473 : decode cL_law 473 = .ok (.iaload, 1) := by decide +kernel
theorem dL_law_474 : decode cL_law 474 = .ok (.aload_n 0, 1) := by decide +kernel
theorem dL_law_475 : decode cL_law 475 = .ok (.iload_n 3, 1) := by decide +kernel
theorem dL_law_476 : decode cL_law 476 = .ok (.iconst 2, 1) := by decide +kernel
theorem dL_law_477 : decode cL_law 477 = .ok (.iadd, 1) := by decide +kernel
theorem dL_law_478 : decode cL_law 478 = .ok (.iaload, 1) := by decide +kernel
theorem dL_law_479 : decode cL_law 479 = .ok (.aload_n 0, 1) := by decide +kernel
theorem dL_law_480 : decode cL_law 480 = .ok (.iload_n 3, 1) := by decide +kernel
theorem dL_law_481 : decode cL_law 481 = .ok (.iconst 3, 1) := by decide +kernel
theorem dL_law_482 : decode cL_law 482 = .ok (.iadd, 1) := by decide +kernel
theorem dL_law_483 : decode cL_law 483 = .ok (.iaload, 1) := by decide +kernel
theorem dL_law_484 : decode cL_law 484 = .ok (.aload_n 0, 1) := by decide +kernel
theorem dL_law_485 : decode cL_law 485 = .ok (.iload_n 3, 1) := by decide +kernel
theorem dL_law_486 : decode cL_law 486 = .ok (.iconst 4, 1) := by decide +kernel
theorem dL_law_487 : decode cL_law 487 = .ok (.iadd, 1) := by decide +kernel
theorem dL_law_488 : decode cL_law 488 = .ok (.iaload, 1) := by decide +kernel
theorem dL_law_489 : decode cL_law 489 = .ok (.invokevirtual 46, 3) := by decide +kernel
theorem dL_law_492 : decode cL_law 492 = .ok (.if_icmp .eq 384, 3) := by decide +kernel
theorem dL_law_495 : decode cL_law 495 = .ok (.iconst 0, 1) := by decide +kernel
theorem dL_law_496 : decode cL_law 496 = .ok (.ireturn, 1) := by decide +kernel
theorem dL_law_497 : decode cL_law 497 = .ok (.aload_n 1, 1) := by decide +kernel
theorem dL_law_498 : decode cL_law 498 = .ok (.aload_n 0, 1) := by decide +kernel
theorem dL_law_499 : decode cL_law 499 = .ok (.iload_n 3, 1) := by decide +kernel
theorem dL_law_500 : decode cL_law 500 = .ok (.iconst 1, 1) := by decide +kernel
theorem dL_law_501 : decode cL_law 501 = .ok (.iadd, 1) := by decide +kernel
theorem dL_law_502 : decode cL_law 502 = .ok (.iaload, 1) := by decide +kernel
theorem dL_law_503 : decode cL_law 503 = .ok (.aload_n 0, 1) := by decide +kernel
theorem dL_law_504 : decode cL_law 504 = .ok (.iload_n 3, 1) := by decide +kernel
theorem dL_law_505 : decode cL_law 505 = .ok (.iconst 2, 1) := by decide +kernel
theorem dL_law_506 : decode cL_law 506 = .ok (.iadd, 1) := by decide +kernel
theorem dL_law_507 : decode cL_law 507 = .ok (.iaload, 1) := by decide +kernel
theorem dL_law_508 : decode cL_law 508 = .ok (.aload_n 0, 1) := by decide +kernel
theorem dL_law_509 : decode cL_law 509 = .ok (.iload_n 3, 1) := by decide +kernel
theorem dL_law_510 : decode cL_law 510 = .ok (.iconst 3, 1) := by decide +kernel
theorem dL_law_511 : decode cL_law 511 = .ok (.iadd, 1) := by decide +kernel
theorem dL_law_512 : decode cL_law 512 = .ok (.iaload, 1) := by decide +kernel
theorem dL_law_513 : decode cL_law 513 = .ok (.aload_n 0, 1) := by decide +kernel
theorem dL_law_514 : decode cL_law 514 = .ok (.iload_n 3, 1) := by decide +kernel
theorem dL_law_515 : decode cL_law 515 = .ok (.iconst 4, 1) := by decide +kernel
theorem dL_law_516 : decode cL_law 516 = .ok (.iadd, 1) := by decide +kernel
theorem dL_law_517 : decode cL_law 517 = .ok (.iaload, 1) := by decide +kernel
theorem dL_law_518 : decode cL_law 518 = .ok (.invokevirtual 47, 3) := by decide +kernel
theorem dL_law_521 : decode cL_law 521 = .ok (.aload_n 2, 1) := by decide +kernel
theorem dL_law_522 : decode cL_law 522 = .ok (.aload_n 0, 1) := by decide +kernel
theorem dL_law_523 : decode cL_law 523 = .ok (.iload_n 3, 1) := by decide +kernel
theorem dL_law_524 : decode cL_law 524 = .ok (.iconst 1, 1) := by decide +kernel
theorem dL_law_525 : decode cL_law 525 = .ok (.iadd, 1) := by decide +kernel
theorem dL_law_526 : decode cL_law 526 = .ok (.iaload, 1) := by decide +kernel
theorem dL_law_527 : decode cL_law 527 = .ok (.aload_n 0, 1) := by decide +kernel
theorem dL_law_528 : decode cL_law 528 = .ok (.iload_n 3, 1) := by decide +kernel
theorem dL_law_529 : decode cL_law 529 = .ok (.iconst 2, 1) := by decide +kernel
theorem dL_law_530 : decode cL_law 530 = .ok (.iadd, 1) := by decide +kernel
theorem dL_law_531 : decode cL_law 531 = .ok (.iaload, 1) := by decide +kernel
theorem dL_law_532 : decode cL_law 532 = .ok (.aload_n 0, 1) := by decide +kernel
theorem dL_law_533 : decode cL_law 533 = .ok (.iload_n 3, 1) := by decide +kernel
theorem dL_law_534 : decode cL_law 534 = .ok (.iconst 3, 1) := by decide +kernel
theorem dL_law_535 : decode cL_law 535 = .ok (.iadd, 1) := by decide +kernel
theorem dL_law_536 : decode cL_law 536 = .ok (.iaload, 1) := by decide +kernel
theorem dL_law_537 : decode cL_law 537 = .ok (.aload_n 0, 1) := by decide +kernel
theorem dL_law_538 : decode cL_law 538 = .ok (.iload_n 3, 1) := by decide +kernel
theorem dL_law_539 : decode cL_law 539 = .ok (.iconst 4, 1) := by decide +kernel
theorem dL_law_540 : decode cL_law 540 = .ok (.iadd, 1) := by decide +kernel
theorem dL_law_541 : decode cL_law 541 = .ok (.iaload, 1) := by decide +kernel
theorem dL_law_542 : decode cL_law 542 = .ok (.invokevirtual 50, 3) := by decide +kernel
theorem dL_law_545 : decode cL_law 545 = .ok (.if_icmp .eq 331, 3) := by decide +kernel
theorem dL_law_548 : decode cL_law 548 = .ok (.iconst 0, 1) := by decide +kernel
theorem dL_law_549 : decode cL_law 549 = .ok (.ireturn, 1) := by decide +kernel
theorem dL_law_550 : decode cL_law 550 = .ok (.aload_n 1, 1) := by decide +kernel
theorem dL_law_551 : decode cL_law 551 = .ok (.aload_n 0, 1) := by decide +kernel
theorem dL_law_552 : decode cL_law 552 = .ok (.iload_n 3, 1) := by decide +kernel
theorem dL_law_553 : decode cL_law 553 = .ok (.iconst 1, 1) := by decide +kernel
theorem dL_law_554 : decode cL_law 554 = .ok (.iadd, 1) := by decide +kernel
theorem dL_law_555 : decode cL_law 555 = .ok (.iaload, 1) := by decide +kernel
theorem dL_law_556 : decode cL_law 556 = .ok (.invokevirtual 51, 3) := by decide +kernel
theorem dL_law_559 : decode cL_law 559 = .ok (.aload_n 2, 1) := by decide +kernel
theorem dL_law_560 : decode cL_law 560 = .ok (.aload_n 0, 1) := by decide +kernel
theorem dL_law_561 : decode cL_law 561 = .ok (.iload_n 3, 1) := by decide +kernel
theorem dL_law_562 : decode cL_law 562 = .ok (.iconst 1, 1) := by decide +kernel
theorem dL_law_563 : decode cL_law 563 = .ok (.iadd, 1) := by decide +kernel
theorem dL_law_564 : decode cL_law 564 = .ok (.iaload, 1) := by decide +kernel
theorem dL_law_565 : decode cL_law 565 = .ok (.invokevirtual 54, 3) := by decide +kernel
theorem dL_law_568 : decode cL_law 568 = .ok (.if_icmp .eq 308, 3) := by decide +kernel
theorem dL_law_571 : decode cL_law 571 = .ok (.iconst 0, 1) := by decide +kernel
theorem dL_law_572 : decode cL_law 572 = .ok (.ireturn, 1) := by decide +kernel
theorem dL_law_573 : decode cL_law 573 = .ok (.aload_n 1, 1) := by decide +kernel
theorem dL_law_574 : decode cL_law 574 = .ok (.aload_n 0, 1) := by decide +kernel
theorem dL_law_575 : decode cL_law 575 = .ok (.iload_n 3, 1) := by decide +kernel
theorem dL_law_576 : decode cL_law 576 = .ok (.iconst 1, 1) := by decide +kernel
theorem dL_law_577 : decode cL_law 577 = .ok (.iadd, 1) := by decide +kernel
theorem dL_law_578 : decode cL_law 578 = .ok (.iaload, 1) := by decide +kernel
theorem dL_law_579 : decode cL_law 579 = .ok (.invokevirtual 55, 3) := by decide +kernel
theorem dL_law_582 : decode cL_law 582 = .ok (.aload_n 2, 1) := by decide +kernel
theorem dL_law_583 : decode cL_law 583 = .ok (.aload_n 0, 1) := by decide +kernel
theorem dL_law_584 : decode cL_law 584 = .ok (.iload_n 3, 1) := by decide +kernel
theorem dL_law_585 : decode cL_law 585 = .ok (.iconst 1, 1) := by decide +kernel
theorem dL_law_586 : decode cL_law 586 = .ok (.iadd, 1) := by decide +kernel
theorem dL_law_587 : decode cL_law 587 = .ok (.iaload, 1) := by decide +kernel
theorem dL_law_588 : decode cL_law 588 = .ok (.invokevirtual 58, 3) := by decide +kernel
theorem dL_law_591 : decode cL_law 591 = .ok (.if_icmp .eq 285, 3) := by decide +kernel
theorem dL_law_594 : decode cL_law 594 = .ok (.iconst 0, 1) := by decide +kernel
theorem dL_law_595 : decode cL_law 595 = .ok (.ireturn, 1) := by decide +kernel
theorem dL_law_596 : decode cL_law 596 = .ok (.aload_n 1, 1) := by decide +kernel
theorem dL_law_597 : decode cL_law 597 = .ok (.aload_n 0, 1) := by decide +kernel
theorem dL_law_598 : decode cL_law 598 = .ok (.iload_n 3, 1) := by decide +kernel
theorem dL_law_599 : decode cL_law 599 = .ok (.iconst 1, 1) := by decide +kernel
theorem dL_law_600 : decode cL_law 600 = .ok (.iadd, 1) := by decide +kernel
theorem dL_law_601 : decode cL_law 601 = .ok (.iaload, 1) := by decide +kernel
theorem dL_law_602 : decode cL_law 602 = .ok (.aload_n 0, 1) := by decide +kernel
theorem dL_law_603 : decode cL_law 603 = .ok (.iload_n 3, 1) := by decide +kernel
theorem dL_law_604 : decode cL_law 604 = .ok (.iconst 2, 1) := by decide +kernel
theorem dL_law_605 : decode cL_law 605 = .ok (.iadd, 1) := by decide +kernel
theorem dL_law_606 : decode cL_law 606 = .ok (.iaload, 1) := by decide +kernel
theorem dL_law_607 : decode cL_law 607 = .ok (.invokevirtual 59, 3) := by decide +kernel
theorem dL_law_610 : decode cL_law 610 = .ok (.aload_n 2, 1) := by decide +kernel
theorem dL_law_611 : decode cL_law 611 = .ok (.aload_n 0, 1) := by decide +kernel
theorem dL_law_612 : decode cL_law 612 = .ok (.iload_n 3, 1) := by decide +kernel
theorem dL_law_613 : decode cL_law 613 = .ok (.iconst 1, 1) := by decide +kernel
theorem dL_law_614 : decode cL_law 614 = .ok (.iadd, 1) := by decide +kernel
theorem dL_law_615 : decode cL_law 615 = .ok (.iaload, 1) := by decide +kernel
theorem dL_law_616 : decode cL_law 616 = .ok (.aload_n 0, 1) := by decide +kernel
theorem dL_law_617 : decode cL_law 617 = .ok (.iload_n 3, 1) := by decide +kernel
theorem dL_law_618 : decode cL_law 618 = .ok (.iconst 2, 1) := by decide +kernel
theorem dL_law_619 : decode cL_law 619 = .ok (.iadd, 1) := by decide +kernel
theorem dL_law_620 : decode cL_law 620 = .ok (.iaload, 1) := by decide +kernel
theorem dL_law_621 : decode cL_law 621 = .ok (.invokevirtual 63, 3) := by decide +kernel
theorem dL_law_624 : decode cL_law 624 = .ok (.if_icmp .eq 252, 3) := by decide +kernel
theorem dL_law_627 : decode cL_law 627 = .ok (.iconst 0, 1) := by decide +kernel
theorem dL_law_628 : decode cL_law 628 = .ok (.ireturn, 1) := by decide +kernel
theorem dL_law_629 : decode cL_law 629 = .ok (.aload_n 1, 1) := by decide +kernel
theorem dL_law_630 : decode cL_law 630 = .ok (.aload_n 0, 1) := by decide +kernel
theorem dL_law_631 : decode cL_law 631 = .ok (.iload_n 3, 1) := by decide +kernel
theorem dL_law_632 : decode cL_law 632 = .ok (.iconst 1, 1) := by decide +kernel
theorem dL_law_633 : decode cL_law 633 = .ok (.iadd, 1) := by decide +kernel
theorem dL_law_634 : decode cL_law 634 = .ok (.iaload, 1) := by decide +kernel
theorem dL_law_635 : decode cL_law 635 = .ok (.aload_n 0, 1) := by decide +kernel
theorem dL_law_636 : decode cL_law 636 = .ok (.iload_n 3, 1) := by decide +kernel
theorem dL_law_637 : decode cL_law 637 = .ok (.iconst 2, 1) := by decide +kernel
theorem dL_law_638 : decode cL_law 638 = .ok (.iadd, 1) := by decide +kernel
theorem dL_law_639 : decode cL_law 639 = .ok (.iaload, 1) := by decide +kernel
theorem dL_law_640 : decode cL_law 640 = .ok (.aload_n 0, 1) := by decide +kernel
theorem dL_law_641 : decode cL_law 641 = .ok (.iload_n 3, 1) := by decide +kernel
theorem dL_law_642 : decode cL_law 642 = .ok (.iconst 3, 1) := by decide +kernel
theorem dL_law_643 : decode cL_law 643 = .ok (.iadd, 1) := by decide +kernel
theorem dL_law_644 : decode cL_law 644 = .ok (.iaload, 1) := by decide +kernel
theorem dL_law_645 : decode cL_law 645 = .ok (.invokevirtual 64, 3) := by decide +kernel
theorem dL_law_648 : decode cL_law 648 = .ok (.aload_n 2, 1) := by decide +kernel
theorem dL_law_649 : decode cL_law 649 = .ok (.aload_n 0, 1) := by decide +kernel
theorem dL_law_650 : decode cL_law 650 = .ok (.iload_n 3, 1) := by decide +kernel
theorem dL_law_651 : decode cL_law 651 = .ok (.iconst 1, 1) := by decide +kernel
theorem dL_law_652 : decode cL_law 652 = .ok (.iadd, 1) := by decide +kernel
theorem dL_law_653 : decode cL_law 653 = .ok (.iaload, 1) := by decide +kernel
theorem dL_law_654 : decode cL_law 654 = .ok (.aload_n 0, 1) := by decide +kernel
theorem dL_law_655 : decode cL_law 655 = .ok (.iload_n 3, 1) := by decide +kernel
theorem dL_law_656 : decode cL_law 656 = .ok (.iconst 2, 1) := by decide +kernel
theorem dL_law_657 : decode cL_law 657 = .ok (.iadd, 1) := by decide +kernel
theorem dL_law_658 : decode cL_law 658 = .ok (.iaload, 1) := by decide +kernel
theorem dL_law_659 : decode cL_law 659 = .ok (.aload_n 0, 1) := by decide +kernel
theorem dL_law_660 : decode cL_law 660 = .ok (.iload_n 3, 1) := by decide +kernel
theorem dL_law_661 : decode cL_law 661 = .ok (.iconst 3, 1) := by decide +kernel
theorem dL_law_662 : decode cL_law 662 = .ok (.iadd, 1) := by decide +kernel
theorem dL_law_663 : decode cL_law 663 = .ok (.iaload, 1) := by decide +kernel
theorem dL_law_664 : decode cL_law 664 = .ok (.invokevirtual 68, 3) := by decide +kernel
theorem dL_law_667 : decode cL_law 667 = .ok (.if_icmp .eq 209, 3) := by decide +kernel
theorem dL_law_670 : decode cL_law 670 = .ok (.iconst 0, 1) := by decide +kernel
theorem dL_law_671 : decode cL_law 671 = .ok (.ireturn, 1) := by decide +kernel
theorem dL_law_672 : decode cL_law 672 = .ok (.aload_n 1, 1) := by decide +kernel
theorem dL_law_673 : decode cL_law 673 = .ok (.aload_n 0, 1) := by decide +kernel
theorem dL_law_674 : decode cL_law 674 = .ok (.iload_n 3, 1) := by decide +kernel
theorem dL_law_675 : decode cL_law 675 = .ok (.iconst 1, 1) := by decide +kernel
theorem dL_law_676 : decode cL_law 676 = .ok (.iadd, 1) := by decide +kernel
theorem dL_law_677 : decode cL_law 677 = .ok (.iaload, 1) := by decide +kernel
theorem dL_law_678 : decode cL_law 678 = .ok (.invokevirtual 69, 3) := by decide +kernel
theorem dL_law_681 : decode cL_law 681 = .ok (.aload_n 2, 1) := by decide +kernel
theorem dL_law_682 : decode cL_law 682 = .ok (.aload_n 0, 1) := by decide +kernel
theorem dL_law_683 : decode cL_law 683 = .ok (.iload_n 3, 1) := by decide +kernel
theorem dL_law_684 : decode cL_law 684 = .ok (.iconst 1, 1) := by decide +kernel
theorem dL_law_685 : decode cL_law 685 = .ok (.iadd, 1) := by decide +kernel
theorem dL_law_686 : decode cL_law 686 = .ok (.iaload, 1) := by decide +kernel
theorem dL_law_687 : decode cL_law 687 = .ok (.invokevirtual 72, 3) := by decide +kernel
theorem dL_law_690 : decode cL_law 690 = .ok (.if_icmp .eq 186, 3) := by decide +kernel
theorem dL_law_693 : decode cL_law 693 = .ok (.iconst 0, 1) := by decide +kernel
theorem dL_law_694 : decode cL_law 694 = .ok (.ireturn, 1) := by decide +kernel
theorem dL_law_695 : decode cL_law 695 = .ok (.aload_n 1, 1) := by decide +kernel
theorem dL_law_696 : decode cL_law 696 = .ok (.aload_n 0, 1) := by decide +kernel
theorem dL_law_697 : decode cL_law 697 = .ok (.iload_n 3, 1) := by decide +kernel
theorem dL_law_698 : decode cL_law 698 = .ok (.iconst 1, 1) := by decide +kernel
theorem dL_law_699 : decode cL_law 699 = .ok (.iadd, 1) := by decide +kernel
theorem dL_law_700 : decode cL_law 700 = .ok (.iaload, 1) := by decide +kernel
theorem dL_law_701 : decode cL_law 701 = .ok (.invokevirtual 73, 3) := by decide +kernel
theorem dL_law_704 : decode cL_law 704 = .ok (.aload_n 2, 1) := by decide +kernel
theorem dL_law_705 : decode cL_law 705 = .ok (.aload_n 0, 1) := by decide +kernel
theorem dL_law_706 : decode cL_law 706 = .ok (.iload_n 3, 1) := by decide +kernel
theorem dL_law_707 : decode cL_law 707 = .ok (.iconst 1, 1) := by decide +kernel
theorem dL_law_708 : decode cL_law 708 = .ok (.iadd, 1) := by decide +kernel
theorem dL_law_709 : decode cL_law 709 = .ok (.iaload, 1) := by decide +kernel
theorem dL_law_710 : decode cL_law 710 = .ok (.invokevirtual 76, 3) := by decide +kernel
theorem dL_law_713 : decode cL_law 713 = .ok (.if_icmp .eq 163, 3) := by decide +kernel
theorem dL_law_716 : decode cL_law 716 = .ok (.iconst 0, 1) := by decide +kernel
theorem dL_law_717 : decode cL_law 717 = .ok (.ireturn, 1) := by decide +kernel
theorem dL_law_718 : decode cL_law 718 = .ok (.aload_n 1, 1) := by decide +kernel
theorem dL_law_719 : decode cL_law 719 = .ok (.aload_n 0, 1) := by decide +kernel
theorem dL_law_720 : decode cL_law 720 = .ok (.iload_n 3, 1) := by decide +kernel
theorem dL_law_721 : decode cL_law 721 = .ok (.iconst 1, 1) := by decide +kernel
theorem dL_law_722 : decode cL_law 722 = .ok (.iadd, 1) := by decide +kernel
theorem dL_law_723 : decode cL_law 723 = .ok (.iaload, 1) := by decide +kernel
theorem dL_law_724 : decode cL_law 724 = .ok (.invokevirtual 77, 3) := by decide +kernel
theorem dL_law_727 : decode cL_law 727 = .ok (.aload_n 2, 1) := by decide +kernel
theorem dL_law_728 : decode cL_law 728 = .ok (.aload_n 0, 1) := by decide +kernel
theorem dL_law_729 : decode cL_law 729 = .ok (.iload_n 3, 1) := by decide +kernel
theorem dL_law_730 : decode cL_law 730 = .ok (.iconst 1, 1) := by decide +kernel
theorem dL_law_731 : decode cL_law 731 = .ok (.iadd, 1) := by decide +kernel
theorem dL_law_732 : decode cL_law 732 = .ok (.iaload, 1) := by decide +kernel
theorem dL_law_733 : decode cL_law 733 = .ok (.invokevirtual 80, 3) := by decide +kernel
theorem dL_law_736 : decode cL_law 736 = .ok (.if_icmp .eq 140, 3) := by decide +kernel
theorem dL_law_739 : decode cL_law 739 = .ok (.iconst 0, 1) := by decide +kernel
theorem dL_law_740 : decode cL_law 740 = .ok (.ireturn, 1) := by decide +kernel
theorem dL_law_741 : decode cL_law 741 = .ok (.aload_n 1, 1) := by decide +kernel
theorem dL_law_742 : decode cL_law 742 = .ok (.aload_n 0, 1) := by decide +kernel
theorem dL_law_743 : decode cL_law 743 = .ok (.iload_n 3, 1) := by decide +kernel
theorem dL_law_744 : decode cL_law 744 = .ok (.iconst 1, 1) := by decide +kernel
theorem dL_law_745 : decode cL_law 745 = .ok (.iadd, 1) := by decide +kernel
theorem dL_law_746 : decode cL_law 746 = .ok (.iaload, 1) := by decide +kernel
theorem dL_law_747 : decode cL_law 747 = .ok (.invokevirtual 81, 3) := by decide +kernel
theorem dL_law_750 : decode cL_law 750 = .ok (.aload_n 2, 1) := by decide +kernel
theorem dL_law_751 : decode cL_law 751 = .ok (.aload_n 0, 1) := by decide +kernel
theorem dL_law_752 : decode cL_law 752 = .ok (.iload_n 3, 1) := by decide +kernel
theorem dL_law_753 : decode cL_law 753 = .ok (.iconst 1, 1) := by decide +kernel
theorem dL_law_754 : decode cL_law 754 = .ok (.iadd, 1) := by decide +kernel
theorem dL_law_755 : decode cL_law 755 = .ok (.iaload, 1) := by decide +kernel
theorem dL_law_756 : decode cL_law 756 = .ok (.invokevirtual 84, 3) := by decide +kernel
theorem dL_law_759 : decode cL_law 759 = .ok (.if_icmp .eq 117, 3) := by decide +kernel
theorem dL_law_762 : decode cL_law 762 = .ok (.iconst 0, 1) := by decide +kernel
theorem dL_law_763 : decode cL_law 763 = .ok (.ireturn, 1) := by decide +kernel
theorem dL_law_764 : decode cL_law 764 = .ok (.aload_n 1, 1) := by decide +kernel
theorem dL_law_765 : decode cL_law 765 = .ok (.aload_n 0, 1) := by decide +kernel
theorem dL_law_766 : decode cL_law 766 = .ok (.iload_n 3, 1) := by decide +kernel
theorem dL_law_767 : decode cL_law 767 = .ok (.iconst 1, 1) := by decide +kernel
theorem dL_law_768 : decode cL_law 768 = .ok (.iadd, 1) := by decide +kernel
theorem dL_law_769 : decode cL_law 769 = .ok (.iaload, 1) := by decide +kernel
theorem dL_law_770 : decode cL_law 770 = .ok (.invokevirtual 85, 3) := by decide +kernel
theorem dL_law_773 : decode cL_law 773 = .ok (.aload_n 2, 1) := by decide +kernel
theorem dL_law_774 : decode cL_law 774 = .ok (.aload_n 0, 1) := by decide +kernel
theorem dL_law_775 : decode cL_law 775 = .ok (.iload_n 3, 1) := by decide +kernel
theorem dL_law_776 : decode cL_law 776 = .ok (.iconst 1, 1) := by decide +kernel
theorem dL_law_777 : decode cL_law 777 = .ok (.iadd, 1) := by decide +kernel
theorem dL_law_778 : decode cL_law 778 = .ok (.iaload, 1) := by decide +kernel
theorem dL_law_779 : decode cL_law 779 = .ok (.invokevirtual 88, 3) := by decide +kernel
theorem dL_law_782 : decode cL_law 782 = .ok (.if_icmp .eq 94, 3) := by decide +kernel
theorem dL_law_785 : decode cL_law 785 = .ok (.iconst 0, 1) := by decide +kernel
theorem dL_law_786 : decode cL_law 786 = .ok (.ireturn, 1) := by decide +kernel
theorem dL_law_787 : decode cL_law 787 = .ok (.aload_n 1, 1) := by decide +kernel
theorem dL_law_788 : decode cL_law 788 = .ok (.aload_n 0, 1) := by decide +kernel
theorem dL_law_789 : decode cL_law 789 = .ok (.iload_n 3, 1) := by decide +kernel
theorem dL_law_790 : decode cL_law 790 = .ok (.iconst 1, 1) := by decide +kernel
theorem dL_law_791 : decode cL_law 791 = .ok (.iadd, 1) := by decide +kernel
theorem dL_law_792 : decode cL_law 792 = .ok (.iaload, 1) := by decide +kernel
theorem dL_law_793 : decode cL_law 793 = .ok (.aload_n 0, 1) := by decide +kernel
theorem dL_law_794 : decode cL_law 794 = .ok (.iload_n 3, 1) := by decide +kernel
theorem dL_law_795 : decode cL_law 795 = .ok (.iconst 2, 1) := by decide +kernel
theorem dL_law_796 : decode cL_law 796 = .ok (.iadd, 1) := by decide +kernel
theorem dL_law_797 : decode cL_law 797 = .ok (.iaload, 1) := by decide +kernel
theorem dL_law_798 : decode cL_law 798 = .ok (.invokevirtual 89, 3) := by decide +kernel
theorem dL_law_801 : decode cL_law 801 = .ok (.aload_n 2, 1) := by decide +kernel
theorem dL_law_802 : decode cL_law 802 = .ok (.aload_n 0, 1) := by decide +kernel
theorem dL_law_803 : decode cL_law 803 = .ok (.iload_n 3, 1) := by decide +kernel
theorem dL_law_804 : decode cL_law 804 = .ok (.iconst 1, 1) := by decide +kernel
theorem dL_law_805 : decode cL_law 805 = .ok (.iadd, 1) := by decide +kernel
theorem dL_law_806 : decode cL_law 806 = .ok (.iaload, 1) := by decide +kernel
theorem dL_law_807 : decode cL_law 807 = .ok (.aload_n 0, 1) := by decide +kernel
theorem dL_law_808 : decode cL_law 808 = .ok (.iload_n 3, 1) := by decide +kernel
theorem dL_law_809 : decode cL_law 809 = .ok (.iconst 2, 1) := by decide +kernel
theorem dL_law_810 : decode cL_law 810 = .ok (.iadd, 1) := by decide +kernel
theorem dL_law_811 : decode cL_law 811 = .ok (.iaload, 1) := by decide +kernel
theorem dL_law_812 : decode cL_law 812 = .ok (.invokevirtual 92, 3) := by decide +kernel
theorem dL_law_815 : decode cL_law 815 = .ok (.if_icmp .eq 61, 3) := by decide +kernel
theorem dL_law_818 : decode cL_law 818 = .ok (.iconst 0, 1) := by decide +kernel
theorem dL_law_819 : decode cL_law 819 = .ok (.ireturn, 1) := by decide +kernel
theorem dL_law_820 : decode cL_law 820 = .ok (.aload_n 1, 1) := by decide +kernel
theorem dL_law_821 : decode cL_law 821 = .ok (.aload_n 0, 1) := by decide +kernel
theorem dL_law_822 : decode cL_law 822 = .ok (.iload_n 3, 1) := by decide +kernel
theorem dL_law_823 : decode cL_law 823 = .ok (.iconst 1, 1) := by decide +kernel
theorem dL_law_824 : decode cL_law 824 = .ok (.iadd, 1) := by decide +kernel
theorem dL_law_825 : decode cL_law 825 = .ok (.iaload, 1) := by decide +kernel
theorem dL_law_826 : decode cL_law 826 = .ok (.aload_n 0, 1) := by decide +kernel
theorem dL_law_827 : decode cL_law 827 = .ok (.iload_n 3, 1) := by decide +kernel
theorem dL_law_828 : decode cL_law 828 = .ok (.iconst 2, 1) := by decide +kernel
theorem dL_law_829 : decode cL_law 829 = .ok (.iadd, 1) := by decide +kernel
theorem dL_law_830 : decode cL_law 830 = .ok (.iaload, 1) := by decide +kernel
theorem dL_law_831 : decode cL_law 831 = .ok (.invokevirtual 93, 3) := by decide +kernel
theorem dL_law_834 : decode cL_law 834 = .ok (.aload_n 2, 1) := by decide +kernel
theorem dL_law_835 : decode cL_law 835 = .ok (.aload_n 0, 1) := by decide +kernel
theorem dL_law_836 : decode cL_law 836 = .ok (.iload_n 3, 1) := by decide +kernel
theorem dL_law_837 : decode cL_law 837 = .ok (.iconst 1, 1) := by decide +kernel
theorem dL_law_838 : decode cL_law 838 = .ok (.iadd, 1) := by decide +kernel
theorem dL_law_839 : decode cL_law 839 = .ok (.iaload, 1) := by decide +kernel
theorem dL_law_840 : decode cL_law 840 = .ok (.aload_n 0, 1) := by decide +kernel
theorem dL_law_841 : decode cL_law 841 = .ok (.iload_n 3, 1) := by decide +kernel
theorem dL_law_842 : decode cL_law 842 = .ok (.iconst 2, 1) := by decide +kernel
theorem dL_law_843 : decode cL_law 843 = .ok (.iadd, 1) := by decide +kernel
theorem dL_law_844 : decode cL_law 844 = .ok (.iaload, 1) := by decide +kernel
theorem dL_law_845 : decode cL_law 845 = .ok (.invokevirtual 96, 3) := by decide +kernel
theorem dL_law_848 : decode cL_law 848 = .ok (.if_icmp .eq 28, 3) := by decide +kernel
theorem dL_law_851 : decode cL_law 851 = .ok (.iconst 0, 1) := by decide +kernel
theorem dL_law_852 : decode cL_law 852 = .ok (.ireturn, 1) := by decide +kernel
theorem dL_law_853 : decode cL_law 853 = .ok (.aload_n 1, 1) := by decide +kernel
theorem dL_law_854 : decode cL_law 854 = .ok (.aload_n 0, 1) := by decide +kernel
theorem dL_law_855 : decode cL_law 855 = .ok (.iload_n 3, 1) := by decide +kernel
theorem dL_law_856 : decode cL_law 856 = .ok (.iconst 1, 1) := by decide +kernel
theorem dL_law_857 : decode cL_law 857 = .ok (.iadd, 1) := by decide +kernel
theorem dL_law_858 : decode cL_law 858 = .ok (.iaload, 1) := by decide +kernel
theorem dL_law_859 : decode cL_law 859 = .ok (.invokevirtual 97, 3) := by decide +kernel
theorem dL_law_862 : decode cL_law 862 = .ok (.aload_n 2, 1) := by decide +kernel
theorem dL_law_863 : decode cL_law 863 = .ok (.aload_n 0, 1) := by decide +kernel
theorem dL_law_864 : decode cL_law 864 = .ok (.iload_n 3, 1) := by decide +kernel
theorem dL_law_865 : decode cL_law 865 = .ok (.iconst 1, 1) := by decide +kernel
theorem dL_law_866 : decode cL_law 866 = .ok (.iadd, 1) := by decide +kernel
theorem dL_law_867 : decode cL_law 867 = .ok (.iaload, 1) := by decide +kernel
theorem dL_law_868 : decode cL_law 868 = .ok (.invokevirtual 100, 3) := by decide +kernel
theorem dL_law_871 : decode cL_law 871 = .ok (.if_icmp .eq 5, 3) := by decide +kernel
theorem dL_law_874 : decode cL_law 874 = .ok (.iconst 0, 1) := by decide +kernel
theorem dL_law_875 : decode cL_law 875 = .ok (.ireturn, 1) := by decide +kernel
theorem dL_law_876 : decode cL_law 876 = .ok (.iinc 3 6, 3) := by decide +kernel
theorem dL_law_879 : decode cL_law 879 = .ok (.goto (-861), 3) := by decide +kernel
theorem dL_law_882 : decode cL_law 882 = .ok (.iconst 1, 1) := by decide +kernel
theorem dL_law_883 : decode cL_law 883 = .ok (.ireturn, 1) := by decide +kernel
end
section
def TBL : List Cond := lw_tbl.filter goodWord
theorem tb_mem {w : Cond} (h : w ∈ lw_tbl) (hg : goodWord w = true) : w ∈ TBL := List.mem_filter.mpr ⟨h, hg⟩
theorem tb_0 {w : Cond} (i : Nat) (h : (k2_sels lw_privs)[i]? = some w) (hg : goodWord w = true) : w ∈ TBL := tb_mem (List.mem_append_left _ (List.mem_of_getElem? h)) hg
theorem tb_1 {w : Cond} (i : Nat) (h : tables_1_1[i]? = some w) (hg : goodWord w = true) : w ∈ TBL := tb_mem (List.mem_append_right _ (List.mem_append_left _ (List.mem_of_getElem? h))) hg
theorem tb_2 {w : Cond} (i : Nat) (h : tables_1_2[i]? = some w) (hg : goodWord w = true) : w ∈ TBL := tb_mem (List.mem_append_right _ (List.mem_append_right _ (List.mem_append_left _ (List.mem_of_getElem? h)))) hg
theorem tb_3 {w : Cond} (i : Nat) (h : tables_1_3[i]? = some w) (hg : goodWord w = true) : w ∈ TBL := tb_mem (List.mem_append_right _ (List.mem_append_right _ (List.mem_append_right _ (List.mem_append_left _ (List.mem_of_getElem? h))))) hg
theorem tb_4 {w : Cond} (i : Nat) (h : tables_1_4[i]? = some w) (hg : goodWord w = true) : w ∈ TBL := tb_mem (List.mem_append_right _ (List.mem_append_right _ (List.mem_append_right _ (List.mem_append_right _ (List.mem_append_left _ (List.mem_of_getElem? h)))))) hg
theorem tb_5 {w : Cond} (i : Nat) (h : tables_1_5[i]? = some w) (hg : goodWord w = true) : w ∈ TBL := tb_mem (List.mem_append_right _ (List.mem_append_right _ (List.mem_append_right _ (List.mem_append_right _ (List.mem_append_right _ (List.mem_of_getElem? h)))))) hg
theorem tb_good {w : Cond} (h : w ∈ TBL) : (w.onTables && w.keeps) = true ∨ ∃ ty, w = .arrayClass ty := good_of_word (List.mem_filter.mp h).2
theorem tw_0 : (Jvm.Cond.initialized "WallPlannerLaw") ∈ TBL := tb_1 0 rfl rfl
theorem tw_1 : (Jvm.Cond.initialized "WallPlanner") ∈ TBL := tb_1 1 rfl rfl
theorem tw_2 : (Jvm.Cond.initialized "WallPlanner$Net") ∈ TBL := tb_1 2 rfl rfl
theorem tw_3 : (Jvm.Cond.initialized "WallPlanner$Law") ∈ TBL := tb_1 3 rfl rfl
theorem tw_4 : (Jvm.Cond.initialized "WallPlanner$Diary") ∈ TBL := tb_1 4 rfl rfl
theorem tw_5 : (Jvm.Cond.initialized "WallPlanner$Plan") ∈ TBL := tb_1 5 rfl rfl
theorem tw_6 : (Jvm.Cond.initialized "WallPlanner$Layout") ∈ TBL := tb_1 6 rfl rfl
theorem tw_7 : (Jvm.Cond.initialized "java/util/Arrays") ∈ TBL := tb_1 7 rfl rfl
theorem tw_8 : (Jvm.Cond.initialized "WallPlanner$Needs") ∈ TBL := tb_1 8 rfl rfl
theorem tw_9 : (Jvm.Cond.initialized "WallPlanner$Seeker") ∈ TBL := tb_1 9 rfl rfl
theorem tw_10 : (Jvm.Cond.initialized "WallPlanner$Spreading") ∈ TBL := tb_1 10 rfl rfl
theorem tw_11 : (Jvm.Cond.initialized "WallPlanner$Shutter") ∈ TBL := tb_1 11 rfl rfl
theorem tw_12 : (Jvm.Cond.initialized "WallPlanner$OddList") ∈ TBL := tb_1 12 rfl rfl
theorem tw_13 : (Jvm.Cond.initialized "WallPlannerModel") ∈ TBL := tb_1 13 rfl rfl
theorem tw_14 : (Jvm.Cond.initialized "java/lang/Integer") ∈ TBL := tb_1 14 rfl rfl
theorem tw_15 : (Jvm.Cond.initialized "java/lang/System") ∈ TBL := tb_1 15 rfl rfl
theorem tw_16 : (Jvm.Cond.initialized "java/lang/Math") ∈ TBL := tb_1 16 rfl rfl
theorem tw_17 : (Jvm.Cond.classLink "WallPlannerLaw" (7 : Nat) "WallPlanner") ∈ TBL := tb_1 17 rfl rfl
theorem tw_18 : (Jvm.Cond.instantiable "WallPlanner" (9 : Nat)) ∈ TBL := tb_1 18 rfl rfl
theorem tw_19 : (Jvm.Cond.methodLink "WallPlannerLaw" (9 : Nat) ({ cls := "WallPlanner", name := "<init>", desc := "()V" } : Jvm.MethodName)) ∈ TBL := tb_1 19 rfl rfl
theorem tw_20 : (Jvm.Cond.instanceMethod ({ cls := "WallPlanner", name := "<init>", desc := "()V" } : Jvm.MethodName)) ∈ TBL := tb_1 20 rfl rfl
theorem tw_21 : (Jvm.Cond.code ({ cls := "WallPlanner", name := "<init>", desc := "()V" } : Jvm.MethodName) prog_1_method_1_code (1 : Nat) (Option.none : Option Jvm.ClassFile.FieldType)) ∈ TBL := tb_1 21 rfl rfl
theorem tw_22 : (Jvm.Cond.methodLink "WallPlanner" (1 : Nat) ({ cls := "java/lang/Object", name := "<init>", desc := "()V" } : Jvm.MethodName)) ∈ TBL := tb_1 22 rfl rfl
theorem tw_23 : (Jvm.Cond.instanceMethod ({ cls := "java/lang/Object", name := "<init>", desc := "()V" } : Jvm.MethodName)) ∈ TBL := tb_1 23 rfl rfl
theorem tw_24 : (Jvm.Cond.code ({ cls := "java/lang/Object", name := "<init>", desc := "()V" } : Jvm.MethodName) object_method_1_code (1 : Nat) (Option.none : Option Jvm.ClassFile.FieldType)) ∈ TBL := tb_1 24 rfl rfl
theorem tw_25 : (Jvm.Cond.classLink "WallPlanner" (7 : Nat) "WallPlanner$Net") ∈ TBL := tb_1 25 rfl rfl
theorem tw_26 : (Jvm.Cond.instantiable "WallPlanner$Net" (4 : Nat)) ∈ TBL := tb_1 26 rfl rfl
theorem tw_27 : (Jvm.Cond.instanceMethod ({ cls := "WallPlanner$Net", name := "<init>", desc := "()V" } : Jvm.MethodName)) ∈ TBL := tb_1 28 rfl rfl
theorem tw_28 : (Jvm.Cond.code ({ cls := "WallPlanner$Net", name := "<init>", desc := "()V" } : Jvm.MethodName) prog_6_method_1_code (1 : Nat) (Option.none : Option Jvm.ClassFile.FieldType)) ∈ TBL := tb_1 29 rfl rfl
theorem tw_29 : (Jvm.Cond.methodLink "WallPlanner$Net" (3 : Nat) ({ cls := "java/lang/Object", name := "<init>", desc := "()V" } : Jvm.MethodName)) ∈ TBL := tb_1 30 rfl rfl
theorem tw_30 : (Jvm.Cond.fieldLink "WallPlanner$Net" (9 : Nat) "WallPlanner$Net" "marks" "[I") ∈ TBL := tb_1 31 rfl rfl
theorem tw_31 : (Jvm.Cond.fieldLink "WallPlanner$Net" (15 : Nat) "WallPlanner$Net" "musts" "[I") ∈ TBL := tb_1 33 rfl rfl
theorem tw_32 : (Jvm.Cond.fieldLink "WallPlanner$Net" (18 : Nat) "WallPlanner$Net" "bars" "[I") ∈ TBL := tb_1 35 rfl rfl
theorem tw_33 : (Jvm.Cond.fieldLink "WallPlanner$Net" (21 : Nat) "WallPlanner$Net" "hosts" "I") ∈ TBL := tb_1 39 rfl rfl
theorem tw_34 : (Jvm.Cond.laysFinal "WallPlanner$Net" "WallPlanner$Net" "marks" "[I") ∈ TBL := tb_1 43 rfl rfl
theorem tw_35 : (Jvm.Cond.laysFinal "WallPlanner$Net" "WallPlanner$Net" "musts" "[I") ∈ TBL := tb_1 45 rfl rfl
theorem tw_36 : (Jvm.Cond.laysFinal "WallPlanner$Net" "WallPlanner$Net" "bars" "[I") ∈ TBL := tb_1 47 rfl rfl
theorem tw_37 : (Jvm.Cond.lays "WallPlanner$Net" "WallPlanner$Net" "hosts" "I") ∈ TBL := tb_1 49 rfl rfl
theorem tw_38 : (Jvm.Cond.arrayClass Jvm.ClassFile.FieldType.int) ∈ TBL := tb_1 52 rfl rfl
theorem tw_39 : (Jvm.Cond.classLink "WallPlanner" (16 : Nat) "WallPlanner$Law") ∈ TBL := tb_1 53 rfl rfl
theorem tw_40 : (Jvm.Cond.instantiable "WallPlanner$Law" (5 : Nat)) ∈ TBL := tb_1 54 rfl rfl
theorem tw_41 : (Jvm.Cond.instanceMethod ({ cls := "WallPlanner$Law", name := "<init>", desc := "()V" } : Jvm.MethodName)) ∈ TBL := tb_1 56 rfl rfl
theorem tw_42 : (Jvm.Cond.code ({ cls := "WallPlanner$Law", name := "<init>", desc := "()V" } : Jvm.MethodName) prog_3_method_1_code (1 : Nat) (Option.none : Option Jvm.ClassFile.FieldType)) ∈ TBL := tb_1 57 rfl rfl
theorem tw_43 : (Jvm.Cond.methodLink "WallPlanner$Law" (1 : Nat) ({ cls := "java/lang/Object", name := "<init>", desc := "()V" } : Jvm.MethodName)) ∈ TBL := tb_1 58 rfl rfl
theorem tw_44 : (Jvm.Cond.fieldLink "WallPlanner$Law" (7 : Nat) "WallPlanner$Law" "window" "I") ∈ TBL := tb_1 59 rfl rfl
theorem tw_45 : (Jvm.Cond.fieldLink "WallPlanner$Law" (13 : Nat) "WallPlanner$Law" "least" "I") ∈ TBL := tb_1 62 rfl rfl
theorem tw_46 : (Jvm.Cond.fieldLink "WallPlanner$Law" (16 : Nat) "WallPlanner$Law" "strict" "Z") ∈ TBL := tb_1 65 rfl rfl
theorem tw_47 : (Jvm.Cond.fieldLink "WallPlanner$Law" (20 : Nat) "WallPlanner$Law" "rulePrice" "I") ∈ TBL := tb_1 68 rfl rfl
theorem tw_48 : (Jvm.Cond.fieldLink "WallPlanner$Law" (23 : Nat) "WallPlanner$Law" "strayPrice" "I") ∈ TBL := tb_1 70 rfl rfl
theorem tw_49 : (Jvm.Cond.lays "WallPlanner$Law" "WallPlanner$Law" "window" "I") ∈ TBL := tb_1 72 rfl rfl
theorem tw_50 : (Jvm.Cond.lays "WallPlanner$Law" "WallPlanner$Law" "least" "I") ∈ TBL := tb_1 74 rfl rfl
theorem tw_51 : (Jvm.Cond.lays "WallPlanner$Law" "WallPlanner$Law" "strict" "Z") ∈ TBL := tb_1 76 rfl rfl
theorem tw_52 : (Jvm.Cond.lays "WallPlanner$Law" "WallPlanner$Law" "rulePrice" "I") ∈ TBL := tb_1 78 rfl rfl
theorem tw_53 : (Jvm.Cond.lays "WallPlanner$Law" "WallPlanner$Law" "strayPrice" "I") ∈ TBL := tb_1 80 rfl rfl
theorem tw_54 : (Jvm.Cond.classLink "WallPlanner" (23 : Nat) "WallPlanner$Diary") ∈ TBL := tb_1 83 rfl rfl
theorem tw_55 : (Jvm.Cond.instantiable "WallPlanner$Diary" (4 : Nat)) ∈ TBL := tb_1 84 rfl rfl
theorem tw_56 : (Jvm.Cond.instanceMethod ({ cls := "WallPlanner$Diary", name := "<init>", desc := "()V" } : Jvm.MethodName)) ∈ TBL := tb_1 86 rfl rfl
theorem tw_57 : (Jvm.Cond.code ({ cls := "WallPlanner$Diary", name := "<init>", desc := "()V" } : Jvm.MethodName) prog_2_method_1_code (1 : Nat) (Option.none : Option Jvm.ClassFile.FieldType)) ∈ TBL := tb_1 87 rfl rfl
theorem tw_58 : (Jvm.Cond.methodLink "WallPlanner$Diary" (3 : Nat) ({ cls := "java/lang/Object", name := "<init>", desc := "()V" } : Jvm.MethodName)) ∈ TBL := tb_1 88 rfl rfl
theorem tw_59 : (Jvm.Cond.fieldLink "WallPlanner$Diary" (9 : Nat) "WallPlanner$Diary" "wayAt" "[I") ∈ TBL := tb_1 89 rfl rfl
theorem tw_60 : (Jvm.Cond.fieldLink "WallPlanner$Diary" (15 : Nat) "WallPlanner$Diary" "dayAt" "[I") ∈ TBL := tb_1 92 rfl rfl
theorem tw_61 : (Jvm.Cond.fieldLink "WallPlanner$Diary" (18 : Nat) "WallPlanner$Diary" "countAt" "[I") ∈ TBL := tb_1 94 rfl rfl
theorem tw_62 : (Jvm.Cond.fieldLink "WallPlanner$Diary" (21 : Nat) "WallPlanner$Diary" "size" "I") ∈ TBL := tb_1 96 rfl rfl
theorem tw_63 : (Jvm.Cond.laysFinal "WallPlanner$Diary" "WallPlanner$Diary" "wayAt" "[I") ∈ TBL := tb_1 99 rfl rfl
theorem tw_64 : (Jvm.Cond.laysFinal "WallPlanner$Diary" "WallPlanner$Diary" "dayAt" "[I") ∈ TBL := tb_1 101 rfl rfl
theorem tw_65 : (Jvm.Cond.laysFinal "WallPlanner$Diary" "WallPlanner$Diary" "countAt" "[I") ∈ TBL := tb_1 103 rfl rfl
theorem tw_66 : (Jvm.Cond.lays "WallPlanner$Diary" "WallPlanner$Diary" "size" "I") ∈ TBL := tb_1 105 rfl rfl
theorem tw_67 : (Jvm.Cond.classLink "WallPlanner" (30 : Nat) "WallPlanner$Plan") ∈ TBL := tb_1 108 rfl rfl
theorem tw_68 : (Jvm.Cond.instantiable "WallPlanner$Plan" (6 : Nat)) ∈ TBL := tb_1 109 rfl rfl
theorem tw_69 : (Jvm.Cond.instanceMethod ({ cls := "WallPlanner$Plan", name := "<init>", desc := "()V" } : Jvm.MethodName)) ∈ TBL := tb_1 111 rfl rfl
theorem tw_70 : (Jvm.Cond.code ({ cls := "WallPlanner$Plan", name := "<init>", desc := "()V" } : Jvm.MethodName) prog_8_method_1_code (1 : Nat) (Option.none : Option Jvm.ClassFile.FieldType)) ∈ TBL := tb_1 112 rfl rfl
theorem tw_71 : (Jvm.Cond.methodLink "WallPlanner$Plan" (3 : Nat) ({ cls := "java/lang/Object", name := "<init>", desc := "()V" } : Jvm.MethodName)) ∈ TBL := tb_1 113 rfl rfl
theorem tw_72 : (Jvm.Cond.classLink "WallPlanner$Plan" (9 : Nat) "WallPlanner$Layout") ∈ TBL := tb_1 114 rfl rfl
theorem tw_73 : (Jvm.Cond.instantiable "WallPlanner$Layout" (5 : Nat)) ∈ TBL := tb_1 115 rfl rfl
theorem tw_74 : (Jvm.Cond.methodLink "WallPlanner$Plan" (11 : Nat) ({ cls := "WallPlanner$Layout", name := "<init>", desc := "()V" } : Jvm.MethodName)) ∈ TBL := tb_1 116 rfl rfl
theorem tw_75 : (Jvm.Cond.instanceMethod ({ cls := "WallPlanner$Layout", name := "<init>", desc := "()V" } : Jvm.MethodName)) ∈ TBL := tb_1 117 rfl rfl
theorem tw_76 : (Jvm.Cond.code ({ cls := "WallPlanner$Layout", name := "<init>", desc := "()V" } : Jvm.MethodName) prog_4_method_1_code (1 : Nat) (Option.none : Option Jvm.ClassFile.FieldType)) ∈ TBL := tb_1 118 rfl rfl
theorem tw_77 : (Jvm.Cond.methodLink "WallPlanner$Layout" (3 : Nat) ({ cls := "java/lang/Object", name := "<init>", desc := "()V" } : Jvm.MethodName)) ∈ TBL := tb_1 119 rfl rfl
theorem tw_78 : (Jvm.Cond.methodLink "WallPlanner$Layout" (29 : Nat) ({ cls := "java/util/Arrays", name := "fill", desc := "([II)V" } : Jvm.MethodName)) ∈ TBL := tb_1 120 rfl rfl
theorem tw_79 : (Jvm.Cond.static ({ cls := "java/util/Arrays", name := "fill", desc := "([II)V" } : Jvm.MethodName)) ∈ TBL := tb_1 121 rfl rfl
theorem tw_80 : (Jvm.Cond.code ({ cls := "java/util/Arrays", name := "fill", desc := "([II)V" } : Jvm.MethodName) prog_17_method_103_code (4 : Nat) (Option.none : Option Jvm.ClassFile.FieldType)) ∈ TBL := tb_1 122 rfl rfl
theorem tw_81 : (Jvm.Cond.fieldLink "WallPlanner$Layout" (9 : Nat) "WallPlanner$Layout" "roomOf" "[I") ∈ TBL := tb_1 123 rfl rfl
theorem tw_82 : (Jvm.Cond.fieldLink "WallPlanner$Layout" (15 : Nat) "WallPlanner$Layout" "doors" "[I") ∈ TBL := tb_1 128 rfl rfl
theorem tw_83 : (Jvm.Cond.fieldLink "WallPlanner$Layout" (18 : Nat) "WallPlanner$Layout" "rules" "I") ∈ TBL := tb_1 130 rfl rfl
theorem tw_84 : (Jvm.Cond.fieldLink "WallPlanner$Layout" (22 : Nat) "WallPlanner$Layout" "strays" "I") ∈ TBL := tb_1 133 rfl rfl
theorem tw_85 : (Jvm.Cond.fieldLink "WallPlanner$Layout" (25 : Nat) "WallPlanner$Layout" "letsBarred" "Z") ∈ TBL := tb_1 137 rfl rfl
theorem tw_86 : (Jvm.Cond.laysFinal "WallPlanner$Layout" "WallPlanner$Layout" "roomOf" "[I") ∈ TBL := tb_1 139 rfl rfl
theorem tw_87 : (Jvm.Cond.laysFinal "WallPlanner$Layout" "WallPlanner$Layout" "doors" "[I") ∈ TBL := tb_1 141 rfl rfl
theorem tw_88 : (Jvm.Cond.lays "WallPlanner$Layout" "WallPlanner$Layout" "rules" "I") ∈ TBL := tb_1 143 rfl rfl
theorem tw_89 : (Jvm.Cond.lays "WallPlanner$Layout" "WallPlanner$Layout" "strays" "I") ∈ TBL := tb_1 145 rfl rfl
theorem tw_90 : (Jvm.Cond.lays "WallPlanner$Layout" "WallPlanner$Layout" "letsBarred" "Z") ∈ TBL := tb_1 147 rfl rfl
theorem tw_91 : (Jvm.Cond.classLink "WallPlanner$Plan" (18 : Nat) "WallPlanner$Needs") ∈ TBL := tb_1 150 rfl rfl
theorem tw_92 : (Jvm.Cond.instantiable "WallPlanner$Needs" (2 : Nat)) ∈ TBL := tb_1 151 rfl rfl
theorem tw_93 : (Jvm.Cond.instanceMethod ({ cls := "WallPlanner$Needs", name := "<init>", desc := "()V" } : Jvm.MethodName)) ∈ TBL := tb_1 153 rfl rfl
theorem tw_94 : (Jvm.Cond.code ({ cls := "WallPlanner$Needs", name := "<init>", desc := "()V" } : Jvm.MethodName) prog_5_method_1_code (1 : Nat) (Option.none : Option Jvm.ClassFile.FieldType)) ∈ TBL := tb_1 154 rfl rfl
theorem tw_95 : (Jvm.Cond.methodLink "WallPlanner$Needs" (3 : Nat) ({ cls := "java/lang/Object", name := "<init>", desc := "()V" } : Jvm.MethodName)) ∈ TBL := tb_1 155 rfl rfl
theorem tw_96 : (Jvm.Cond.fieldLink "WallPlanner$Needs" (9 : Nat) "WallPlanner$Needs" "doors" "[I") ∈ TBL := tb_1 156 rfl rfl
theorem tw_97 : (Jvm.Cond.fieldLink "WallPlanner$Needs" (15 : Nat) "WallPlanner$Needs" "weights" "[I") ∈ TBL := tb_1 159 rfl rfl
theorem tw_98 : (Jvm.Cond.laysFinal "WallPlanner$Needs" "WallPlanner$Needs" "doors" "[I") ∈ TBL := tb_1 161 rfl rfl
theorem tw_99 : (Jvm.Cond.laysFinal "WallPlanner$Needs" "WallPlanner$Needs" "weights" "[I") ∈ TBL := tb_1 163 rfl rfl
theorem tw_100 : (Jvm.Cond.fieldLink "WallPlanner$Plan" (12 : Nat) "WallPlanner$Plan" "layout" "LWallPlanner$Layout;") ∈ TBL := tb_1 166 rfl rfl
theorem tw_101 : (Jvm.Cond.fieldLink "WallPlanner$Plan" (21 : Nat) "WallPlanner$Plan" "needs" "LWallPlanner$Needs;") ∈ TBL := tb_1 171 rfl rfl
theorem tw_102 : (Jvm.Cond.fieldLink "WallPlanner$Plan" (25 : Nat) "WallPlanner$Plan" "ruleAt" "[I") ∈ TBL := tb_1 172 rfl rfl
theorem tw_103 : (Jvm.Cond.fieldLink "WallPlanner$Plan" (29 : Nat) "WallPlanner$Plan" "rules" "I") ∈ TBL := tb_1 176 rfl rfl
theorem tw_104 : (Jvm.Cond.fieldLink "WallPlanner$Plan" (33 : Nat) "WallPlanner$Plan" "cost" "I") ∈ TBL := tb_1 180 rfl rfl
theorem tw_105 : (Jvm.Cond.fieldLink "WallPlanner$Plan" (36 : Nat) "WallPlanner$Plan" "made" "Z") ∈ TBL := tb_1 182 rfl rfl
theorem tw_106 : (Jvm.Cond.laysFinal "WallPlanner$Plan" "WallPlanner$Plan" "layout" "LWallPlanner$Layout;") ∈ TBL := tb_1 184 rfl rfl
theorem tw_107 : (Jvm.Cond.laysFinal "WallPlanner$Plan" "WallPlanner$Plan" "needs" "LWallPlanner$Needs;") ∈ TBL := tb_1 186 rfl rfl
theorem tw_108 : (Jvm.Cond.laysFinal "WallPlanner$Plan" "WallPlanner$Plan" "ruleAt" "[I") ∈ TBL := tb_1 188 rfl rfl
theorem tw_109 : (Jvm.Cond.lays "WallPlanner$Plan" "WallPlanner$Plan" "rules" "I") ∈ TBL := tb_1 190 rfl rfl
theorem tw_110 : (Jvm.Cond.lays "WallPlanner$Plan" "WallPlanner$Plan" "cost" "I") ∈ TBL := tb_1 192 rfl rfl
theorem tw_111 : (Jvm.Cond.lays "WallPlanner$Plan" "WallPlanner$Plan" "made" "Z") ∈ TBL := tb_1 194 rfl rfl
theorem tw_112 : (Jvm.Cond.classLink "WallPlanner" (37 : Nat) "WallPlanner$Needs") ∈ TBL := tb_1 197 rfl rfl
theorem tw_113 : (Jvm.Cond.classLink "WallPlanner" (44 : Nat) "WallPlanner$Seeker") ∈ TBL := tb_1 199 rfl rfl
theorem tw_114 : (Jvm.Cond.instantiable "WallPlanner$Seeker" (5 : Nat)) ∈ TBL := tb_1 200 rfl rfl
theorem tw_115 : (Jvm.Cond.instanceMethod ({ cls := "WallPlanner$Seeker", name := "<init>", desc := "()V" } : Jvm.MethodName)) ∈ TBL := tb_1 202 rfl rfl
theorem tw_116 : (Jvm.Cond.code ({ cls := "WallPlanner$Seeker", name := "<init>", desc := "()V" } : Jvm.MethodName) prog_9_method_1_code (1 : Nat) (Option.none : Option Jvm.ClassFile.FieldType)) ∈ TBL := tb_1 203 rfl rfl
theorem tw_117 : (Jvm.Cond.methodLink "WallPlanner$Seeker" (3 : Nat) ({ cls := "java/lang/Object", name := "<init>", desc := "()V" } : Jvm.MethodName)) ∈ TBL := tb_1 204 rfl rfl
theorem tw_118 : (Jvm.Cond.classLink "WallPlanner$Seeker" (9 : Nat) "WallPlanner$Layout") ∈ TBL := tb_1 205 rfl rfl
theorem tw_119 : (Jvm.Cond.methodLink "WallPlanner$Seeker" (11 : Nat) ({ cls := "WallPlanner$Layout", name := "<init>", desc := "()V" } : Jvm.MethodName)) ∈ TBL := tb_1 206 rfl rfl
theorem tw_120 : (Jvm.Cond.fieldLink "WallPlanner$Seeker" (12 : Nat) "WallPlanner$Seeker" "trial" "LWallPlanner$Layout;") ∈ TBL := tb_1 207 rfl rfl
theorem tw_121 : (Jvm.Cond.fieldLink "WallPlanner$Seeker" (18 : Nat) "WallPlanner$Seeker" "roomsBefore" "[I") ∈ TBL := tb_1 208 rfl rfl
theorem tw_122 : (Jvm.Cond.fieldLink "WallPlanner$Seeker" (22 : Nat) "WallPlanner$Seeker" "found" "[I") ∈ TBL := tb_1 209 rfl rfl
theorem tw_123 : (Jvm.Cond.fieldLink "WallPlanner$Seeker" (25 : Nat) "WallPlanner$Seeker" "trialCost" "I") ∈ TBL := tb_1 211 rfl rfl
theorem tw_124 : (Jvm.Cond.fieldLink "WallPlanner$Seeker" (29 : Nat) "WallPlanner$Seeker" "leastCost" "I") ∈ TBL := tb_1 212 rfl rfl
theorem tw_125 : (Jvm.Cond.laysFinal "WallPlanner$Seeker" "WallPlanner$Seeker" "trial" "LWallPlanner$Layout;") ∈ TBL := tb_1 213 rfl rfl
theorem tw_126 : (Jvm.Cond.laysFinal "WallPlanner$Seeker" "WallPlanner$Seeker" "roomsBefore" "[I") ∈ TBL := tb_1 215 rfl rfl
theorem tw_127 : (Jvm.Cond.laysFinal "WallPlanner$Seeker" "WallPlanner$Seeker" "found" "[I") ∈ TBL := tb_1 217 rfl rfl
theorem tw_128 : (Jvm.Cond.lays "WallPlanner$Seeker" "WallPlanner$Seeker" "trialCost" "I") ∈ TBL := tb_1 219 rfl rfl
theorem tw_129 : (Jvm.Cond.lays "WallPlanner$Seeker" "WallPlanner$Seeker" "leastCost" "I") ∈ TBL := tb_1 221 rfl rfl
theorem tw_130 : (Jvm.Cond.classLink "WallPlanner" (51 : Nat) "WallPlanner$Spreading") ∈ TBL := tb_1 224 rfl rfl
theorem tw_131 : (Jvm.Cond.instantiable "WallPlanner$Spreading" (3 : Nat)) ∈ TBL := tb_1 225 rfl rfl
theorem tw_132 : (Jvm.Cond.instanceMethod ({ cls := "WallPlanner$Spreading", name := "<init>", desc := "()V" } : Jvm.MethodName)) ∈ TBL := tb_1 227 rfl rfl
theorem tw_133 : (Jvm.Cond.code ({ cls := "WallPlanner$Spreading", name := "<init>", desc := "()V" } : Jvm.MethodName) prog_11_method_1_code (1 : Nat) (Option.none : Option Jvm.ClassFile.FieldType)) ∈ TBL := tb_1 228 rfl rfl
theorem tw_134 : (Jvm.Cond.methodLink "WallPlanner$Spreading" (3 : Nat) ({ cls := "java/lang/Object", name := "<init>", desc := "()V" } : Jvm.MethodName)) ∈ TBL := tb_1 229 rfl rfl
theorem tw_135 : (Jvm.Cond.fieldLink "WallPlanner$Spreading" (9 : Nat) "WallPlanner$Spreading" "sizes" "[I") ∈ TBL := tb_1 230 rfl rfl
theorem tw_136 : (Jvm.Cond.fieldLink "WallPlanner$Spreading" (15 : Nat) "WallPlanner$Spreading" "next" "[I") ∈ TBL := tb_1 231 rfl rfl
theorem tw_137 : (Jvm.Cond.fieldLink "WallPlanner$Spreading" (18 : Nat) "WallPlanner$Spreading" "rooms" "I") ∈ TBL := tb_1 233 rfl rfl
theorem tw_138 : (Jvm.Cond.laysFinal "WallPlanner$Spreading" "WallPlanner$Spreading" "sizes" "[I") ∈ TBL := tb_1 234 rfl rfl
theorem tw_139 : (Jvm.Cond.laysFinal "WallPlanner$Spreading" "WallPlanner$Spreading" "next" "[I") ∈ TBL := tb_1 236 rfl rfl
theorem tw_140 : (Jvm.Cond.lays "WallPlanner$Spreading" "WallPlanner$Spreading" "rooms" "I") ∈ TBL := tb_1 238 rfl rfl
theorem tw_141 : (Jvm.Cond.classLink "WallPlanner" (58 : Nat) "WallPlanner$Shutter") ∈ TBL := tb_2 1 rfl rfl
theorem tw_142 : (Jvm.Cond.instantiable "WallPlanner$Shutter" (8 : Nat)) ∈ TBL := tb_2 2 rfl rfl
theorem tw_143 : (Jvm.Cond.instanceMethod ({ cls := "WallPlanner$Shutter", name := "<init>", desc := "()V" } : Jvm.MethodName)) ∈ TBL := tb_2 4 rfl rfl
theorem tw_144 : (Jvm.Cond.code ({ cls := "WallPlanner$Shutter", name := "<init>", desc := "()V" } : Jvm.MethodName) prog_10_method_1_code (1 : Nat) (Option.none : Option Jvm.ClassFile.FieldType)) ∈ TBL := tb_2 5 rfl rfl
theorem tw_145 : (Jvm.Cond.methodLink "WallPlanner$Shutter" (3 : Nat) ({ cls := "java/lang/Object", name := "<init>", desc := "()V" } : Jvm.MethodName)) ∈ TBL := tb_2 6 rfl rfl
theorem tw_146 : (Jvm.Cond.classLink "WallPlanner$Shutter" (9 : Nat) "WallPlanner$Spreading") ∈ TBL := tb_2 7 rfl rfl
theorem tw_147 : (Jvm.Cond.fieldLink "WallPlanner$Shutter" (12 : Nat) "WallPlanner$Shutter" "spreading" "LWallPlanner$Spreading;") ∈ TBL := tb_2 9 rfl rfl
theorem tw_148 : (Jvm.Cond.fieldLink "WallPlanner$Shutter" (18 : Nat) "WallPlanner$Shutter" "fixed" "[I") ∈ TBL := tb_2 10 rfl rfl
theorem tw_149 : (Jvm.Cond.fieldLink "WallPlanner$Shutter" (22 : Nat) "WallPlanner$Shutter" "canAt" "[I") ∈ TBL := tb_2 11 rfl rfl
theorem tw_150 : (Jvm.Cond.fieldLink "WallPlanner$Shutter" (25 : Nat) "WallPlanner$Shutter" "ruleAt" "[I") ∈ TBL := tb_2 12 rfl rfl
theorem tw_151 : (Jvm.Cond.fieldLink "WallPlanner$Shutter" (28 : Nat) "WallPlanner$Shutter" "tollAt" "[I") ∈ TBL := tb_2 13 rfl rfl
theorem tw_152 : (Jvm.Cond.fieldLink "WallPlanner$Shutter" (31 : Nat) "WallPlanner$Shutter" "cans" "I") ∈ TBL := tb_2 14 rfl rfl
theorem tw_153 : (Jvm.Cond.fieldLink "WallPlanner$Shutter" (35 : Nat) "WallPlanner$Shutter" "chosen" "[I") ∈ TBL := tb_2 15 rfl rfl
theorem tw_154 : (Jvm.Cond.fieldLink "WallPlanner$Shutter" (38 : Nat) "WallPlanner$Shutter" "chosenCount" "I") ∈ TBL := tb_2 17 rfl rfl
theorem tw_155 : (Jvm.Cond.laysFinal "WallPlanner$Shutter" "WallPlanner$Shutter" "spreading" "LWallPlanner$Spreading;") ∈ TBL := tb_2 19 rfl rfl
theorem tw_156 : (Jvm.Cond.laysFinal "WallPlanner$Shutter" "WallPlanner$Shutter" "fixed" "[I") ∈ TBL := tb_2 21 rfl rfl
theorem tw_157 : (Jvm.Cond.laysFinal "WallPlanner$Shutter" "WallPlanner$Shutter" "canAt" "[I") ∈ TBL := tb_2 23 rfl rfl
theorem tw_158 : (Jvm.Cond.laysFinal "WallPlanner$Shutter" "WallPlanner$Shutter" "ruleAt" "[I") ∈ TBL := tb_2 25 rfl rfl
theorem tw_159 : (Jvm.Cond.laysFinal "WallPlanner$Shutter" "WallPlanner$Shutter" "tollAt" "[I") ∈ TBL := tb_2 27 rfl rfl
theorem tw_160 : (Jvm.Cond.lays "WallPlanner$Shutter" "WallPlanner$Shutter" "cans" "I") ∈ TBL := tb_2 29 rfl rfl
theorem tw_161 : (Jvm.Cond.laysFinal "WallPlanner$Shutter" "WallPlanner$Shutter" "chosen" "[I") ∈ TBL := tb_2 31 rfl rfl
theorem tw_162 : (Jvm.Cond.lays "WallPlanner$Shutter" "WallPlanner$Shutter" "chosenCount" "I") ∈ TBL := tb_2 33 rfl rfl
theorem tw_163 : (Jvm.Cond.classLink "WallPlanner" (65 : Nat) "WallPlanner$OddList") ∈ TBL := tb_2 36 rfl rfl
theorem tw_164 : (Jvm.Cond.instantiable "WallPlanner$OddList" (3 : Nat)) ∈ TBL := tb_2 37 rfl rfl
theorem tw_165 : (Jvm.Cond.instanceMethod ({ cls := "WallPlanner$OddList", name := "<init>", desc := "()V" } : Jvm.MethodName)) ∈ TBL := tb_2 39 rfl rfl
theorem tw_166 : (Jvm.Cond.code ({ cls := "WallPlanner$OddList", name := "<init>", desc := "()V" } : Jvm.MethodName) prog_7_method_1_code (1 : Nat) (Option.none : Option Jvm.ClassFile.FieldType)) ∈ TBL := tb_2 40 rfl rfl
theorem tw_167 : (Jvm.Cond.methodLink "WallPlanner$OddList" (3 : Nat) ({ cls := "java/lang/Object", name := "<init>", desc := "()V" } : Jvm.MethodName)) ∈ TBL := tb_2 41 rfl rfl
theorem tw_168 : (Jvm.Cond.fieldLink "WallPlanner$OddList" (9 : Nat) "WallPlanner$OddList" "talkAt" "[I") ∈ TBL := tb_2 42 rfl rfl
theorem tw_169 : (Jvm.Cond.fieldLink "WallPlanner$OddList" (15 : Nat) "WallPlanner$OddList" "nearAt" "[I") ∈ TBL := tb_2 44 rfl rfl
theorem tw_170 : (Jvm.Cond.fieldLink "WallPlanner$OddList" (18 : Nat) "WallPlanner$OddList" "size" "I") ∈ TBL := tb_2 46 rfl rfl
theorem tw_171 : (Jvm.Cond.laysFinal "WallPlanner$OddList" "WallPlanner$OddList" "talkAt" "[I") ∈ TBL := tb_2 48 rfl rfl
theorem tw_172 : (Jvm.Cond.laysFinal "WallPlanner$OddList" "WallPlanner$OddList" "nearAt" "[I") ∈ TBL := tb_2 50 rfl rfl
theorem tw_173 : (Jvm.Cond.lays "WallPlanner$OddList" "WallPlanner$OddList" "size" "I") ∈ TBL := tb_2 52 rfl rfl
theorem tw_174 : (Jvm.Cond.fieldLink "WallPlanner" (10 : Nat) "WallPlanner" "net" "LWallPlanner$Net;") ∈ TBL := tb_2 55 rfl rfl
theorem tw_175 : (Jvm.Cond.fieldLink "WallPlanner" (19 : Nat) "WallPlanner" "lawNow" "LWallPlanner$Law;") ∈ TBL := tb_2 56 rfl rfl
theorem tw_176 : (Jvm.Cond.fieldLink "WallPlanner" (26 : Nat) "WallPlanner" "diary" "LWallPlanner$Diary;") ∈ TBL := tb_2 57 rfl rfl
theorem tw_177 : (Jvm.Cond.fieldLink "WallPlanner" (33 : Nat) "WallPlanner" "walls" "LWallPlanner$Plan;") ∈ TBL := tb_2 58 rfl rfl
theorem tw_178 : (Jvm.Cond.fieldLink "WallPlanner" (40 : Nat) "WallPlanner" "fresh" "LWallPlanner$Needs;") ∈ TBL := tb_2 59 rfl rfl
theorem tw_179 : (Jvm.Cond.fieldLink "WallPlanner" (47 : Nat) "WallPlanner" "seeker" "LWallPlanner$Seeker;") ∈ TBL := tb_2 60 rfl rfl
theorem tw_180 : (Jvm.Cond.fieldLink "WallPlanner" (54 : Nat) "WallPlanner" "spreading" "LWallPlanner$Spreading;") ∈ TBL := tb_2 61 rfl rfl
theorem tw_181 : (Jvm.Cond.fieldLink "WallPlanner" (61 : Nat) "WallPlanner" "shutter" "LWallPlanner$Shutter;") ∈ TBL := tb_2 62 rfl rfl
theorem tw_182 : (Jvm.Cond.fieldLink "WallPlanner" (68 : Nat) "WallPlanner" "oddList" "LWallPlanner$OddList;") ∈ TBL := tb_2 63 rfl rfl
theorem tw_183 : (Jvm.Cond.laysFinal "WallPlanner" "WallPlanner" "net" "LWallPlanner$Net;") ∈ TBL := tb_2 64 rfl rfl
theorem tw_184 : (Jvm.Cond.laysFinal "WallPlanner" "WallPlanner" "lawNow" "LWallPlanner$Law;") ∈ TBL := tb_2 66 rfl rfl
theorem tw_185 : (Jvm.Cond.laysFinal "WallPlanner" "WallPlanner" "diary" "LWallPlanner$Diary;") ∈ TBL := tb_2 68 rfl rfl
theorem tw_186 : (Jvm.Cond.laysFinal "WallPlanner" "WallPlanner" "walls" "LWallPlanner$Plan;") ∈ TBL := tb_2 70 rfl rfl
theorem tw_187 : (Jvm.Cond.laysFinal "WallPlanner" "WallPlanner" "fresh" "LWallPlanner$Needs;") ∈ TBL := tb_2 72 rfl rfl
theorem tw_188 : (Jvm.Cond.laysFinal "WallPlanner" "WallPlanner" "seeker" "LWallPlanner$Seeker;") ∈ TBL := tb_2 74 rfl rfl
theorem tw_189 : (Jvm.Cond.laysFinal "WallPlanner" "WallPlanner" "spreading" "LWallPlanner$Spreading;") ∈ TBL := tb_2 76 rfl rfl
theorem tw_190 : (Jvm.Cond.laysFinal "WallPlanner" "WallPlanner" "shutter" "LWallPlanner$Shutter;") ∈ TBL := tb_2 78 rfl rfl
theorem tw_191 : (Jvm.Cond.laysFinal "WallPlanner" "WallPlanner" "oddList" "LWallPlanner$OddList;") ∈ TBL := tb_2 80 rfl rfl
theorem tw_192 : (Jvm.Cond.methodLink "WallPlannerLaw" (13 : Nat) ({ cls := "WallPlanner", name := "host", desc := "(I)I" } : Jvm.MethodName)) ∈ TBL := tb_2 83 rfl rfl
theorem tw_193 : (Jvm.Cond.instanceMethod ({ cls := "WallPlanner", name := "host", desc := "(I)I" } : Jvm.MethodName)) ∈ TBL := tb_2 84 rfl rfl
theorem tw_194 : (Jvm.Cond.selects "WallPlanner" ({ cls := "WallPlanner", name := "host", desc := "(I)I" } : Jvm.MethodName) ({ cls := "WallPlanner", name := "host", desc := "(I)I" } : Jvm.MethodName)) ∈ TBL := tb_2 85 rfl rfl
theorem tw_195 : (Jvm.Cond.code ({ cls := "WallPlanner", name := "host", desc := "(I)I" } : Jvm.MethodName) prog_1_method_2_code (2 : Nat) (Option.some Jvm.ClassFile.FieldType.int)) ∈ TBL := tb_2 86 rfl rfl
theorem tw_196 : (Jvm.Cond.methodLink "WallPlanner" (72 : Nat) ({ cls := "WallPlanner", name := "isBetween", desc := "(III)Z" } : Jvm.MethodName)) ∈ TBL := tb_2 87 rfl rfl
theorem tw_197 : (Jvm.Cond.static ({ cls := "WallPlanner", name := "isBetween", desc := "(III)Z" } : Jvm.MethodName)) ∈ TBL := tb_2 88 rfl rfl
theorem tw_198 : (Jvm.Cond.code ({ cls := "WallPlanner", name := "isBetween", desc := "(III)Z" } : Jvm.MethodName) prog_1_method_22_code (3 : Nat) (Option.some Jvm.ClassFile.FieldType.boolean)) ∈ TBL := tb_2 89 rfl rfl
theorem tw_199 : (Jvm.Cond.methodLink "WallPlanner" (76 : Nat) ({ cls := "WallPlanner$Net", name := "addHost", desc := "(I)I" } : Jvm.MethodName)) ∈ TBL := tb_2 90 rfl rfl
theorem tw_200 : (Jvm.Cond.instanceMethod ({ cls := "WallPlanner$Net", name := "addHost", desc := "(I)I" } : Jvm.MethodName)) ∈ TBL := tb_2 91 rfl rfl
theorem tw_201 : (Jvm.Cond.selects "WallPlanner$Net" ({ cls := "WallPlanner$Net", name := "addHost", desc := "(I)I" } : Jvm.MethodName) ({ cls := "WallPlanner$Net", name := "addHost", desc := "(I)I" } : Jvm.MethodName)) ∈ TBL := tb_2 92 rfl rfl
theorem tw_202 : (Jvm.Cond.code ({ cls := "WallPlanner$Net", name := "addHost", desc := "(I)I" } : Jvm.MethodName) prog_6_method_2_code (2 : Nat) (Option.some Jvm.ClassFile.FieldType.int)) ∈ TBL := tb_2 93 rfl rfl
theorem tw_203 : (Jvm.Cond.methodLink "WallPlannerLaw" (18 : Nat) ({ cls := "WallPlanner", name := "talk", desc := "(IIIII)I" } : Jvm.MethodName)) ∈ TBL := tb_2 94 rfl rfl
theorem tw_204 : (Jvm.Cond.instanceMethod ({ cls := "WallPlanner", name := "talk", desc := "(IIIII)I" } : Jvm.MethodName)) ∈ TBL := tb_2 95 rfl rfl
theorem tw_205 : (Jvm.Cond.selects "WallPlanner" ({ cls := "WallPlanner", name := "talk", desc := "(IIIII)I" } : Jvm.MethodName) ({ cls := "WallPlanner", name := "talk", desc := "(IIIII)I" } : Jvm.MethodName)) ∈ TBL := tb_2 96 rfl rfl
theorem tw_206 : (Jvm.Cond.code ({ cls := "WallPlanner", name := "talk", desc := "(IIIII)I" } : Jvm.MethodName) prog_1_method_3_code (6 : Nat) (Option.some Jvm.ClassFile.FieldType.int)) ∈ TBL := tb_2 97 rfl rfl
theorem tw_207 : (Jvm.Cond.methodLink "WallPlanner" (80 : Nat) ({ cls := "WallPlanner$Net", name := "isWay", desc := "(III)Z" } : Jvm.MethodName)) ∈ TBL := tb_2 98 rfl rfl
theorem tw_208 : (Jvm.Cond.instanceMethod ({ cls := "WallPlanner$Net", name := "isWay", desc := "(III)Z" } : Jvm.MethodName)) ∈ TBL := tb_2 99 rfl rfl
theorem tw_209 : (Jvm.Cond.selects "WallPlanner$Net" ({ cls := "WallPlanner$Net", name := "isWay", desc := "(III)Z" } : Jvm.MethodName) ({ cls := "WallPlanner$Net", name := "isWay", desc := "(III)Z" } : Jvm.MethodName)) ∈ TBL := tb_2 100 rfl rfl
theorem tw_210 : (Jvm.Cond.code ({ cls := "WallPlanner$Net", name := "isWay", desc := "(III)Z" } : Jvm.MethodName) prog_6_method_4_code (4 : Nat) (Option.some Jvm.ClassFile.FieldType.boolean)) ∈ TBL := tb_2 101 rfl rfl
theorem tw_211 : (Jvm.Cond.methodLink "WallPlanner$Net" (29 : Nat) ({ cls := "WallPlanner$Net", name := "isHost", desc := "(I)Z" } : Jvm.MethodName)) ∈ TBL := tb_2 102 rfl rfl
theorem tw_212 : (Jvm.Cond.instanceMethod ({ cls := "WallPlanner$Net", name := "isHost", desc := "(I)Z" } : Jvm.MethodName)) ∈ TBL := tb_2 103 rfl rfl
theorem tw_213 : (Jvm.Cond.selects "WallPlanner$Net" ({ cls := "WallPlanner$Net", name := "isHost", desc := "(I)Z" } : Jvm.MethodName) ({ cls := "WallPlanner$Net", name := "isHost", desc := "(I)Z" } : Jvm.MethodName)) ∈ TBL := tb_2 104 rfl rfl
theorem tw_214 : (Jvm.Cond.code ({ cls := "WallPlanner$Net", name := "isHost", desc := "(I)Z" } : Jvm.MethodName) prog_6_method_3_code (2 : Nat) (Option.some Jvm.ClassFile.FieldType.boolean)) ∈ TBL := tb_2 105 rfl rfl
theorem tw_215 : (Jvm.Cond.methodLink "WallPlanner" (83 : Nat) ({ cls := "WallPlanner", name := "isDay", desc := "(I)Z" } : Jvm.MethodName)) ∈ TBL := tb_2 107 rfl rfl
theorem tw_216 : (Jvm.Cond.static ({ cls := "WallPlanner", name := "isDay", desc := "(I)Z" } : Jvm.MethodName)) ∈ TBL := tb_2 108 rfl rfl
theorem tw_217 : (Jvm.Cond.code ({ cls := "WallPlanner", name := "isDay", desc := "(I)Z" } : Jvm.MethodName) prog_1_method_23_code (1 : Nat) (Option.some Jvm.ClassFile.FieldType.boolean)) ∈ TBL := tb_2 109 rfl rfl
theorem tw_218 : (Jvm.Cond.methodLink "WallPlanner" (87 : Nat) ({ cls := "WallPlanner", name := "wayOf", desc := "(III)I" } : Jvm.MethodName)) ∈ TBL := tb_2 110 rfl rfl
theorem tw_219 : (Jvm.Cond.static ({ cls := "WallPlanner", name := "wayOf", desc := "(III)I" } : Jvm.MethodName)) ∈ TBL := tb_2 111 rfl rfl
theorem tw_220 : (Jvm.Cond.code ({ cls := "WallPlanner", name := "wayOf", desc := "(III)I" } : Jvm.MethodName) prog_1_method_25_code (3 : Nat) (Option.some Jvm.ClassFile.FieldType.int)) ∈ TBL := tb_2 112 rfl rfl
theorem tw_221 : (Jvm.Cond.methodLink "WallPlanner" (101 : Nat) ({ cls := "WallPlanner", name := "pairOf", desc := "(II)I" } : Jvm.MethodName)) ∈ TBL := tb_2 113 rfl rfl
theorem tw_222 : (Jvm.Cond.static ({ cls := "WallPlanner", name := "pairOf", desc := "(II)I" } : Jvm.MethodName)) ∈ TBL := tb_2 114 rfl rfl
theorem tw_223 : (Jvm.Cond.code ({ cls := "WallPlanner", name := "pairOf", desc := "(II)I" } : Jvm.MethodName) prog_1_method_24_code (2 : Nat) (Option.some Jvm.ClassFile.FieldType.int)) ∈ TBL := tb_2 115 rfl rfl
theorem tw_224 : (Jvm.Cond.methodLink "WallPlanner" (91 : Nat) ({ cls := "WallPlanner$Diary", name := "write", desc := "(III)I" } : Jvm.MethodName)) ∈ TBL := tb_2 116 rfl rfl
theorem tw_225 : (Jvm.Cond.instanceMethod ({ cls := "WallPlanner$Diary", name := "write", desc := "(III)I" } : Jvm.MethodName)) ∈ TBL := tb_2 117 rfl rfl
theorem tw_226 : (Jvm.Cond.selects "WallPlanner$Diary" ({ cls := "WallPlanner$Diary", name := "write", desc := "(III)I" } : Jvm.MethodName) ({ cls := "WallPlanner$Diary", name := "write", desc := "(III)I" } : Jvm.MethodName)) ∈ TBL := tb_2 118 rfl rfl
theorem tw_227 : (Jvm.Cond.code ({ cls := "WallPlanner$Diary", name := "write", desc := "(III)I" } : Jvm.MethodName) prog_2_method_2_code (4 : Nat) (Option.some Jvm.ClassFile.FieldType.int)) ∈ TBL := tb_2 119 rfl rfl
theorem tw_228 : (Jvm.Cond.methodLink "WallPlannerLaw" (23 : Nat) ({ cls := "WallPlanner", name := "must", desc := "(IIIZ)Z" } : Jvm.MethodName)) ∈ TBL := tb_2 120 rfl rfl
theorem tw_229 : (Jvm.Cond.instanceMethod ({ cls := "WallPlanner", name := "must", desc := "(IIIZ)Z" } : Jvm.MethodName)) ∈ TBL := tb_2 121 rfl rfl
theorem tw_230 : (Jvm.Cond.selects "WallPlanner" ({ cls := "WallPlanner", name := "must", desc := "(IIIZ)Z" } : Jvm.MethodName) ({ cls := "WallPlanner", name := "must", desc := "(IIIZ)Z" } : Jvm.MethodName)) ∈ TBL := tb_2 122 rfl rfl
theorem tw_231 : (Jvm.Cond.code ({ cls := "WallPlanner", name := "must", desc := "(IIIZ)Z" } : Jvm.MethodName) prog_1_method_4_code (5 : Nat) (Option.some Jvm.ClassFile.FieldType.boolean)) ∈ TBL := tb_2 123 rfl rfl
theorem tw_232 : (Jvm.Cond.methodLink "WallPlanner" (105 : Nat) ({ cls := "WallPlanner", name := "turnDoor", desc := "([I[IIIZ)Z" } : Jvm.MethodName)) ∈ TBL := tb_2 124 rfl rfl
theorem tw_233 : (Jvm.Cond.static ({ cls := "WallPlanner", name := "turnDoor", desc := "([I[IIIZ)Z" } : Jvm.MethodName)) ∈ TBL := tb_2 125 rfl rfl
theorem tw_234 : (Jvm.Cond.code ({ cls := "WallPlanner", name := "turnDoor", desc := "([I[IIIZ)Z" } : Jvm.MethodName) prog_1_method_30_code (5 : Nat) (Option.some Jvm.ClassFile.FieldType.boolean)) ∈ TBL := tb_2 126 rfl rfl
theorem tw_235 : (Jvm.Cond.methodLink "WallPlanner" (256 : Nat) ({ cls := "WallPlanner", name := "hasDoor", desc := "(II)Z" } : Jvm.MethodName)) ∈ TBL := tb_2 127 rfl rfl
theorem tw_236 : (Jvm.Cond.static ({ cls := "WallPlanner", name := "hasDoor", desc := "(II)Z" } : Jvm.MethodName)) ∈ TBL := tb_2 128 rfl rfl
theorem tw_237 : (Jvm.Cond.code ({ cls := "WallPlanner", name := "hasDoor", desc := "(II)Z" } : Jvm.MethodName) prog_1_method_29_code (2 : Nat) (Option.some Jvm.ClassFile.FieldType.boolean)) ∈ TBL := tb_2 129 rfl rfl
theorem tw_238 : (Jvm.Cond.methodLink "WallPlannerLaw" (28 : Nat) ({ cls := "WallPlanner", name := "bar", desc := "(IIIZ)Z" } : Jvm.MethodName)) ∈ TBL := tb_2 130 rfl rfl
theorem tw_239 : (Jvm.Cond.instanceMethod ({ cls := "WallPlanner", name := "bar", desc := "(IIIZ)Z" } : Jvm.MethodName)) ∈ TBL := tb_2 131 rfl rfl
theorem tw_240 : (Jvm.Cond.selects "WallPlanner" ({ cls := "WallPlanner", name := "bar", desc := "(IIIZ)Z" } : Jvm.MethodName) ({ cls := "WallPlanner", name := "bar", desc := "(IIIZ)Z" } : Jvm.MethodName)) ∈ TBL := tb_2 132 rfl rfl
theorem tw_241 : (Jvm.Cond.code ({ cls := "WallPlanner", name := "bar", desc := "(IIIZ)Z" } : Jvm.MethodName) prog_1_method_5_code (5 : Nat) (Option.some Jvm.ClassFile.FieldType.boolean)) ∈ TBL := tb_2 133 rfl rfl
theorem tw_242 : (Jvm.Cond.methodLink "WallPlannerLaw" (32 : Nat) ({ cls := "WallPlanner", name := "law", desc := "(IIZ)Z" } : Jvm.MethodName)) ∈ TBL := tb_2 134 rfl rfl
theorem tw_243 : (Jvm.Cond.instanceMethod ({ cls := "WallPlanner", name := "law", desc := "(IIZ)Z" } : Jvm.MethodName)) ∈ TBL := tb_2 135 rfl rfl
theorem tw_244 : (Jvm.Cond.selects "WallPlanner" ({ cls := "WallPlanner", name := "law", desc := "(IIZ)Z" } : Jvm.MethodName) ({ cls := "WallPlanner", name := "law", desc := "(IIZ)Z" } : Jvm.MethodName)) ∈ TBL := tb_2 136 rfl rfl
theorem tw_245 : (Jvm.Cond.code ({ cls := "WallPlanner", name := "law", desc := "(IIZ)Z" } : Jvm.MethodName) prog_1_method_6_code (4 : Nat) (Option.some Jvm.ClassFile.FieldType.boolean)) ∈ TBL := tb_2 137 rfl rfl
theorem tw_246 : (Jvm.Cond.methodLink "WallPlannerLaw" (37 : Nat) ({ cls := "WallPlanner", name := "prices", desc := "(II)Z" } : Jvm.MethodName)) ∈ TBL := tb_2 138 rfl rfl
theorem tw_247 : (Jvm.Cond.instanceMethod ({ cls := "WallPlanner", name := "prices", desc := "(II)Z" } : Jvm.MethodName)) ∈ TBL := tb_2 139 rfl rfl
theorem tw_248 : (Jvm.Cond.selects "WallPlanner" ({ cls := "WallPlanner", name := "prices", desc := "(II)Z" } : Jvm.MethodName) ({ cls := "WallPlanner", name := "prices", desc := "(II)Z" } : Jvm.MethodName)) ∈ TBL := tb_2 140 rfl rfl
theorem tw_249 : (Jvm.Cond.code ({ cls := "WallPlanner", name := "prices", desc := "(II)Z" } : Jvm.MethodName) prog_1_method_7_code (3 : Nat) (Option.some Jvm.ClassFile.FieldType.boolean)) ∈ TBL := tb_2 141 rfl rfl
theorem tw_250 : (Jvm.Cond.methodLink "WallPlannerLaw" (42 : Nat) ({ cls := "WallPlanner", name := "weight", desc := "(IIII)I" } : Jvm.MethodName)) ∈ TBL := tb_2 142 rfl rfl
theorem tw_251 : (Jvm.Cond.instanceMethod ({ cls := "WallPlanner", name := "weight", desc := "(IIII)I" } : Jvm.MethodName)) ∈ TBL := tb_2 143 rfl rfl
theorem tw_252 : (Jvm.Cond.selects "WallPlanner" ({ cls := "WallPlanner", name := "weight", desc := "(IIII)I" } : Jvm.MethodName) ({ cls := "WallPlanner", name := "weight", desc := "(IIII)I" } : Jvm.MethodName)) ∈ TBL := tb_2 144 rfl rfl
theorem tw_253 : (Jvm.Cond.code ({ cls := "WallPlanner", name := "weight", desc := "(IIII)I" } : Jvm.MethodName) prog_1_method_8_code (5 : Nat) (Option.some Jvm.ClassFile.FieldType.int)) ∈ TBL := tb_2 145 rfl rfl
theorem tw_254 : (Jvm.Cond.methodLink "WallPlanner" (126 : Nat) ({ cls := "WallPlanner$Diary", name := "sumOf", desc := "(III)I" } : Jvm.MethodName)) ∈ TBL := tb_2 146 rfl rfl
theorem tw_255 : (Jvm.Cond.instanceMethod ({ cls := "WallPlanner$Diary", name := "sumOf", desc := "(III)I" } : Jvm.MethodName)) ∈ TBL := tb_2 147 rfl rfl
theorem tw_256 : (Jvm.Cond.selects "WallPlanner$Diary" ({ cls := "WallPlanner$Diary", name := "sumOf", desc := "(III)I" } : Jvm.MethodName) ({ cls := "WallPlanner$Diary", name := "sumOf", desc := "(III)I" } : Jvm.MethodName)) ∈ TBL := tb_2 148 rfl rfl
theorem tw_257 : (Jvm.Cond.code ({ cls := "WallPlanner$Diary", name := "sumOf", desc := "(III)I" } : Jvm.MethodName) prog_2_method_4_code (6 : Nat) (Option.some Jvm.ClassFile.FieldType.int)) ∈ TBL := tb_2 149 rfl rfl
theorem tw_258 : (Jvm.Cond.methodLink "WallPlanner$Diary" (25 : Nat) ({ cls := "WallPlanner$Diary", name := "isWithin", desc := "(III)Z" } : Jvm.MethodName)) ∈ TBL := tb_2 150 rfl rfl
theorem tw_259 : (Jvm.Cond.instanceMethod ({ cls := "WallPlanner$Diary", name := "isWithin", desc := "(III)Z" } : Jvm.MethodName)) ∈ TBL := tb_2 151 rfl rfl
theorem tw_260 : (Jvm.Cond.selects "WallPlanner$Diary" ({ cls := "WallPlanner$Diary", name := "isWithin", desc := "(III)Z" } : Jvm.MethodName) ({ cls := "WallPlanner$Diary", name := "isWithin", desc := "(III)Z" } : Jvm.MethodName)) ∈ TBL := tb_2 152 rfl rfl
theorem tw_261 : (Jvm.Cond.code ({ cls := "WallPlanner$Diary", name := "isWithin", desc := "(III)Z" } : Jvm.MethodName) prog_2_method_3_code (4 : Nat) (Option.some Jvm.ClassFile.FieldType.boolean)) ∈ TBL := tb_2 153 rfl rfl
theorem tw_262 : (Jvm.Cond.methodLink "WallPlannerLaw" (47 : Nat) ({ cls := "WallPlanner", name := "needed", desc := "(IIII)I" } : Jvm.MethodName)) ∈ TBL := tb_2 154 rfl rfl
theorem tw_263 : (Jvm.Cond.instanceMethod ({ cls := "WallPlanner", name := "needed", desc := "(IIII)I" } : Jvm.MethodName)) ∈ TBL := tb_2 155 rfl rfl
theorem tw_264 : (Jvm.Cond.selects "WallPlanner" ({ cls := "WallPlanner", name := "needed", desc := "(IIII)I" } : Jvm.MethodName) ({ cls := "WallPlanner", name := "needed", desc := "(IIII)I" } : Jvm.MethodName)) ∈ TBL := tb_2 156 rfl rfl
theorem tw_265 : (Jvm.Cond.code ({ cls := "WallPlanner", name := "needed", desc := "(IIII)I" } : Jvm.MethodName) prog_1_method_9_code (6 : Nat) (Option.some Jvm.ClassFile.FieldType.int)) ∈ TBL := tb_2 157 rfl rfl
theorem tw_266 : (Jvm.Cond.methodLink "WallPlanner" (129 : Nat) ({ cls := "WallPlanner$Net", name := "isNeed", desc := "(IIII)Z" } : Jvm.MethodName)) ∈ TBL := tb_2 158 rfl rfl
theorem tw_267 : (Jvm.Cond.instanceMethod ({ cls := "WallPlanner$Net", name := "isNeed", desc := "(IIII)Z" } : Jvm.MethodName)) ∈ TBL := tb_2 159 rfl rfl
theorem tw_268 : (Jvm.Cond.selects "WallPlanner$Net" ({ cls := "WallPlanner$Net", name := "isNeed", desc := "(IIII)Z" } : Jvm.MethodName) ({ cls := "WallPlanner$Net", name := "isNeed", desc := "(IIII)Z" } : Jvm.MethodName)) ∈ TBL := tb_2 160 rfl rfl
theorem tw_269 : (Jvm.Cond.code ({ cls := "WallPlanner$Net", name := "isNeed", desc := "(IIII)Z" } : Jvm.MethodName) prog_6_method_5_code (5 : Nat) (Option.some Jvm.ClassFile.FieldType.boolean)) ∈ TBL := tb_2 161 rfl rfl
theorem tw_270 : (Jvm.Cond.methodLink "WallPlannerLaw" (51 : Nat) ({ cls := "WallPlanner", name := "plan", desc := "(I)I" } : Jvm.MethodName)) ∈ TBL := tb_2 163 rfl rfl
theorem tw_271 : (Jvm.Cond.instanceMethod ({ cls := "WallPlanner", name := "plan", desc := "(I)I" } : Jvm.MethodName)) ∈ TBL := tb_2 164 rfl rfl
theorem tw_272 : (Jvm.Cond.selects "WallPlanner" ({ cls := "WallPlanner", name := "plan", desc := "(I)I" } : Jvm.MethodName) ({ cls := "WallPlanner", name := "plan", desc := "(I)I" } : Jvm.MethodName)) ∈ TBL := tb_2 165 rfl rfl
theorem tw_273 : (Jvm.Cond.code ({ cls := "WallPlanner", name := "plan", desc := "(I)I" } : Jvm.MethodName) prog_1_method_10_code (2 : Nat) (Option.some Jvm.ClassFile.FieldType.int)) ∈ TBL := tb_2 166 rfl rfl
theorem tw_274 : (Jvm.Cond.methodLink "WallPlanner" (136 : Nat) ({ cls := "WallPlanner$Needs", name := "take", desc := "(LWallPlanner$Net;LWallPlanner$Law;LWallPlanner$Diary;I)V" } : Jvm.MethodName)) ∈ TBL := tb_2 167 rfl rfl
theorem tw_275 : (Jvm.Cond.instanceMethod ({ cls := "WallPlanner$Needs", name := "take", desc := "(LWallPlanner$Net;LWallPlanner$Law;LWallPlanner$Diary;I)V" } : Jvm.MethodName)) ∈ TBL := tb_2 168 rfl rfl
theorem tw_276 : (Jvm.Cond.selects "WallPlanner$Needs" ({ cls := "WallPlanner$Needs", name := "take", desc := "(LWallPlanner$Net;LWallPlanner$Law;LWallPlanner$Diary;I)V" } : Jvm.MethodName) ({ cls := "WallPlanner$Needs", name := "take", desc := "(LWallPlanner$Net;LWallPlanner$Law;LWallPlanner$Diary;I)V" } : Jvm.MethodName)) ∈ TBL := tb_2 169 rfl rfl
theorem tw_277 : (Jvm.Cond.code ({ cls := "WallPlanner$Needs", name := "take", desc := "(LWallPlanner$Net;LWallPlanner$Law;LWallPlanner$Diary;I)V" } : Jvm.MethodName) prog_5_method_2_code (6 : Nat) (Option.none : Option Jvm.ClassFile.FieldType)) ∈ TBL := tb_2 170 rfl rfl
theorem tw_278 : (Jvm.Cond.methodLink "WallPlanner$Needs" (24 : Nat) ({ cls := "WallPlanner$Diary", name := "sumAll", desc := "([III)V" } : Jvm.MethodName)) ∈ TBL := tb_2 171 rfl rfl
theorem tw_279 : (Jvm.Cond.instanceMethod ({ cls := "WallPlanner$Diary", name := "sumAll", desc := "([III)V" } : Jvm.MethodName)) ∈ TBL := tb_2 172 rfl rfl
theorem tw_280 : (Jvm.Cond.selects "WallPlanner$Diary" ({ cls := "WallPlanner$Diary", name := "sumAll", desc := "([III)V" } : Jvm.MethodName) ({ cls := "WallPlanner$Diary", name := "sumAll", desc := "([III)V" } : Jvm.MethodName)) ∈ TBL := tb_2 173 rfl rfl
theorem tw_281 : (Jvm.Cond.code ({ cls := "WallPlanner$Diary", name := "sumAll", desc := "([III)V" } : Jvm.MethodName) prog_2_method_5_code (5 : Nat) (Option.none : Option Jvm.ClassFile.FieldType)) ∈ TBL := tb_2 174 rfl rfl
theorem tw_282 : (Jvm.Cond.methodLink "WallPlanner$Diary" (29 : Nat) ({ cls := "java/util/Arrays", name := "fill", desc := "([II)V" } : Jvm.MethodName)) ∈ TBL := tb_2 175 rfl rfl
theorem tw_283 : (Jvm.Cond.methodLink "WallPlanner$Needs" (33 : Nat) ({ cls := "WallPlanner$Needs", name := "doorsOf", desc := "(ILWallPlanner$Net;I)I" } : Jvm.MethodName)) ∈ TBL := tb_2 176 rfl rfl
theorem tw_284 : (Jvm.Cond.instanceMethod ({ cls := "WallPlanner$Needs", name := "doorsOf", desc := "(ILWallPlanner$Net;I)I" } : Jvm.MethodName)) ∈ TBL := tb_2 178 rfl rfl
theorem tw_285 : (Jvm.Cond.code ({ cls := "WallPlanner$Needs", name := "doorsOf", desc := "(ILWallPlanner$Net;I)I" } : Jvm.MethodName) prog_5_method_3_code (6 : Nat) (Option.some Jvm.ClassFile.FieldType.int)) ∈ TBL := tb_2 179 rfl rfl
theorem tw_286 : (Jvm.Cond.methodLink "WallPlanner$Needs" (37 : Nat) ({ cls := "WallPlanner$Net", name := "isNeed", desc := "(IIII)Z" } : Jvm.MethodName)) ∈ TBL := tb_2 180 rfl rfl
theorem tw_287 : (Jvm.Cond.methodLink "WallPlanner" (140 : Nat) ({ cls := "WallPlanner$Seeker", name := "seekRooms", desc := "(LWallPlanner$Net;LWallPlanner$Law;LWallPlanner$Needs;)V" } : Jvm.MethodName)) ∈ TBL := tb_2 181 rfl rfl
theorem tw_288 : (Jvm.Cond.instanceMethod ({ cls := "WallPlanner$Seeker", name := "seekRooms", desc := "(LWallPlanner$Net;LWallPlanner$Law;LWallPlanner$Needs;)V" } : Jvm.MethodName)) ∈ TBL := tb_2 182 rfl rfl
theorem tw_289 : (Jvm.Cond.selects "WallPlanner$Seeker" ({ cls := "WallPlanner$Seeker", name := "seekRooms", desc := "(LWallPlanner$Net;LWallPlanner$Law;LWallPlanner$Needs;)V" } : Jvm.MethodName) ({ cls := "WallPlanner$Seeker", name := "seekRooms", desc := "(LWallPlanner$Net;LWallPlanner$Law;LWallPlanner$Needs;)V" } : Jvm.MethodName)) ∈ TBL := tb_2 183 rfl rfl
theorem tw_290 : (Jvm.Cond.code ({ cls := "WallPlanner$Seeker", name := "seekRooms", desc := "(LWallPlanner$Net;LWallPlanner$Law;LWallPlanner$Needs;)V" } : Jvm.MethodName) prog_9_method_2_code (6 : Nat) (Option.none : Option Jvm.ClassFile.FieldType)) ∈ TBL := tb_2 184 rfl rfl
theorem tw_291 : (Jvm.Cond.methodLink "WallPlanner$Seeker" (32 : Nat) ({ cls := "WallPlanner$Needs", name := "total", desc := "()I" } : Jvm.MethodName)) ∈ TBL := tb_2 185 rfl rfl
theorem tw_292 : (Jvm.Cond.instanceMethod ({ cls := "WallPlanner$Needs", name := "total", desc := "()I" } : Jvm.MethodName)) ∈ TBL := tb_2 186 rfl rfl
theorem tw_293 : (Jvm.Cond.selects "WallPlanner$Needs" ({ cls := "WallPlanner$Needs", name := "total", desc := "()I" } : Jvm.MethodName) ({ cls := "WallPlanner$Needs", name := "total", desc := "()I" } : Jvm.MethodName)) ∈ TBL := tb_2 187 rfl rfl
theorem tw_294 : (Jvm.Cond.code ({ cls := "WallPlanner$Needs", name := "total", desc := "()I" } : Jvm.MethodName) prog_5_method_5_code (3 : Nat) (Option.some Jvm.ClassFile.FieldType.int)) ∈ TBL := tb_2 188 rfl rfl
theorem tw_295 : (Jvm.Cond.methodLink "WallPlanner$Needs" (49 : Nat) ({ cls := "java/lang/Integer", name := "bitCount", desc := "(I)I" } : Jvm.MethodName)) ∈ TBL := tb_2 189 rfl rfl
theorem tw_296 : (Jvm.Cond.static ({ cls := "java/lang/Integer", name := "bitCount", desc := "(I)I" } : Jvm.MethodName)) ∈ TBL := tb_2 190 rfl rfl
theorem tw_297 : (Jvm.Cond.code ({ cls := "java/lang/Integer", name := "bitCount", desc := "(I)I" } : Jvm.MethodName) prog_14_method_49_code (1 : Nat) (Option.some Jvm.ClassFile.FieldType.int)) ∈ TBL := tb_2 191 rfl rfl
theorem tw_298 : (Jvm.Cond.constant "java/lang/Integer" (265 : Nat) (1431655765 : Int32)) ∈ TBL := tb_2 192 rfl rfl
theorem tw_299 : (Jvm.Cond.constant "java/lang/Integer" (266 : Nat) (858993459 : Int32)) ∈ TBL := tb_2 193 rfl rfl
theorem tw_300 : (Jvm.Cond.constant "java/lang/Integer" (267 : Nat) (252645135 : Int32)) ∈ TBL := tb_2 194 rfl rfl
theorem tw_301 : (Jvm.Cond.methodLink "WallPlanner$Seeker" (38 : Nat) ({ cls := "WallPlanner$Law", name := "costOf", desc := "(II)I" } : Jvm.MethodName)) ∈ TBL := tb_2 195 rfl rfl
theorem tw_302 : (Jvm.Cond.instanceMethod ({ cls := "WallPlanner$Law", name := "costOf", desc := "(II)I" } : Jvm.MethodName)) ∈ TBL := tb_2 196 rfl rfl
theorem tw_303 : (Jvm.Cond.selects "WallPlanner$Law" ({ cls := "WallPlanner$Law", name := "costOf", desc := "(II)I" } : Jvm.MethodName) ({ cls := "WallPlanner$Law", name := "costOf", desc := "(II)I" } : Jvm.MethodName)) ∈ TBL := tb_2 197 rfl rfl
theorem tw_304 : (Jvm.Cond.code ({ cls := "WallPlanner$Law", name := "costOf", desc := "(II)I" } : Jvm.MethodName) prog_3_method_2_code (3 : Nat) (Option.some Jvm.ClassFile.FieldType.int)) ∈ TBL := tb_2 198 rfl rfl
theorem tw_305 : (Jvm.Cond.methodLink "WallPlanner$Seeker" (47 : Nat) ({ cls := "java/util/Arrays", name := "fill", desc := "([II)V" } : Jvm.MethodName)) ∈ TBL := tb_2 199 rfl rfl
theorem tw_306 : (Jvm.Cond.constant "WallPlanner$Seeker" (53 : Nat) (1000000 : Int32)) ∈ TBL := tb_2 200 rfl rfl
theorem tw_307 : (Jvm.Cond.methodLink "WallPlanner$Seeker" (54 : Nat) ({ cls := "WallPlanner$Seeker", name := "isCheaper", desc := "(IILWallPlanner$Net;LWallPlanner$Law;LWallPlanner$Needs;)Z" } : Jvm.MethodName)) ∈ TBL := tb_2 201 rfl rfl
theorem tw_308 : (Jvm.Cond.instanceMethod ({ cls := "WallPlanner$Seeker", name := "isCheaper", desc := "(IILWallPlanner$Net;LWallPlanner$Law;LWallPlanner$Needs;)Z" } : Jvm.MethodName)) ∈ TBL := tb_2 203 rfl rfl
theorem tw_309 : (Jvm.Cond.code ({ cls := "WallPlanner$Seeker", name := "isCheaper", desc := "(IILWallPlanner$Net;LWallPlanner$Law;LWallPlanner$Needs;)Z" } : Jvm.MethodName) prog_9_method_5_code (6 : Nat) (Option.some Jvm.ClassFile.FieldType.boolean)) ∈ TBL := tb_2 204 rfl rfl
theorem tw_310 : (Jvm.Cond.methodLink "WallPlanner$Seeker" (96 : Nat) ({ cls := "WallPlanner$Layout", name := "hasUnlike", desc := "(I[I)Z" } : Jvm.MethodName)) ∈ TBL := tb_2 205 rfl rfl
theorem tw_311 : (Jvm.Cond.instanceMethod ({ cls := "WallPlanner$Layout", name := "hasUnlike", desc := "(I[I)Z" } : Jvm.MethodName)) ∈ TBL := tb_2 206 rfl rfl
theorem tw_312 : (Jvm.Cond.selects "WallPlanner$Layout" ({ cls := "WallPlanner$Layout", name := "hasUnlike", desc := "(I[I)Z" } : Jvm.MethodName) ({ cls := "WallPlanner$Layout", name := "hasUnlike", desc := "(I[I)Z" } : Jvm.MethodName)) ∈ TBL := tb_2 207 rfl rfl
theorem tw_313 : (Jvm.Cond.code ({ cls := "WallPlanner$Layout", name := "hasUnlike", desc := "(I[I)Z" } : Jvm.MethodName) prog_4_method_7_code (4 : Nat) (Option.some Jvm.ClassFile.FieldType.boolean)) ∈ TBL := tb_2 208 rfl rfl
theorem tw_314 : (Jvm.Cond.methodLink "WallPlanner$Seeker" (106 : Nat) ({ cls := "WallPlanner$Layout", name := "draw", desc := "([I[II)V" } : Jvm.MethodName)) ∈ TBL := tb_2 209 rfl rfl
theorem tw_315 : (Jvm.Cond.instanceMethod ({ cls := "WallPlanner$Layout", name := "draw", desc := "([I[II)V" } : Jvm.MethodName)) ∈ TBL := tb_2 210 rfl rfl
theorem tw_316 : (Jvm.Cond.selects "WallPlanner$Layout" ({ cls := "WallPlanner$Layout", name := "draw", desc := "([I[II)V" } : Jvm.MethodName) ({ cls := "WallPlanner$Layout", name := "draw", desc := "([I[II)V" } : Jvm.MethodName)) ∈ TBL := tb_2 211 rfl rfl
theorem tw_317 : (Jvm.Cond.code ({ cls := "WallPlanner$Layout", name := "draw", desc := "([I[II)V" } : Jvm.MethodName) prog_4_method_8_code (5 : Nat) (Option.none : Option Jvm.ClassFile.FieldType)) ∈ TBL := tb_2 212 rfl rfl
theorem tw_318 : (Jvm.Cond.methodLink "WallPlanner$Layout" (60 : Nat) ({ cls := "WallPlanner$Layout", name := "openRooms", desc := "()V" } : Jvm.MethodName)) ∈ TBL := tb_2 213 rfl rfl
theorem tw_319 : (Jvm.Cond.instanceMethod ({ cls := "WallPlanner$Layout", name := "openRooms", desc := "()V" } : Jvm.MethodName)) ∈ TBL := tb_2 215 rfl rfl
theorem tw_320 : (Jvm.Cond.code ({ cls := "WallPlanner$Layout", name := "openRooms", desc := "()V" } : Jvm.MethodName) prog_4_method_9_code (2 : Nat) (Option.none : Option Jvm.ClassFile.FieldType)) ∈ TBL := tb_2 216 rfl rfl
theorem tw_321 : (Jvm.Cond.methodLink "WallPlanner$Layout" (63 : Nat) ({ cls := "WallPlanner$Layout", name := "openDoorsFrom", desc := "(I[II)V" } : Jvm.MethodName)) ∈ TBL := tb_2 218 rfl rfl
theorem tw_322 : (Jvm.Cond.instanceMethod ({ cls := "WallPlanner$Layout", name := "openDoorsFrom", desc := "(I[II)V" } : Jvm.MethodName)) ∈ TBL := tb_2 220 rfl rfl
theorem tw_323 : (Jvm.Cond.code ({ cls := "WallPlanner$Layout", name := "openDoorsFrom", desc := "(I[II)V" } : Jvm.MethodName) prog_4_method_10_code (8 : Nat) (Option.none : Option Jvm.ClassFile.FieldType)) ∈ TBL := tb_2 221 rfl rfl
theorem tw_324 : (Jvm.Cond.methodLink "WallPlanner$Layout" (71 : Nat) ({ cls := "java/lang/Integer", name := "bitCount", desc := "(I)I" } : Jvm.MethodName)) ∈ TBL := tb_2 222 rfl rfl
theorem tw_325 : (Jvm.Cond.methodLink "WallPlanner$Layout" (67 : Nat) ({ cls := "WallPlanner$Layout", name := "countStraysFrom", desc := "(I[I[II)V" } : Jvm.MethodName)) ∈ TBL := tb_2 223 rfl rfl
theorem tw_326 : (Jvm.Cond.instanceMethod ({ cls := "WallPlanner$Layout", name := "countStraysFrom", desc := "(I[I[II)V" } : Jvm.MethodName)) ∈ TBL := tb_2 225 rfl rfl
theorem tw_327 : (Jvm.Cond.code ({ cls := "WallPlanner$Layout", name := "countStraysFrom", desc := "(I[I[II)V" } : Jvm.MethodName) prog_4_method_11_code (9 : Nat) (Option.none : Option Jvm.ClassFile.FieldType)) ∈ TBL := tb_2 226 rfl rfl
theorem tw_328 : (Jvm.Cond.methodLink "WallPlanner$Seeker" (63 : Nat) ({ cls := "WallPlanner$Seeker", name := "goOn", desc := "(II)I" } : Jvm.MethodName)) ∈ TBL := tb_2 227 rfl rfl
theorem tw_329 : (Jvm.Cond.instanceMethod ({ cls := "WallPlanner$Seeker", name := "goOn", desc := "(II)I" } : Jvm.MethodName)) ∈ TBL := tb_2 229 rfl rfl
theorem tw_330 : (Jvm.Cond.code ({ cls := "WallPlanner$Seeker", name := "goOn", desc := "(II)I" } : Jvm.MethodName) prog_9_method_3_code (3 : Nat) (Option.some Jvm.ClassFile.FieldType.int)) ∈ TBL := tb_2 230 rfl rfl
theorem tw_331 : (Jvm.Cond.methodLink "WallPlanner$Seeker" (66 : Nat) ({ cls := "WallPlanner$Seeker", name := "keepTrial", desc := "()V" } : Jvm.MethodName)) ∈ TBL := tb_2 231 rfl rfl
theorem tw_332 : (Jvm.Cond.instanceMethod ({ cls := "WallPlanner$Seeker", name := "keepTrial", desc := "()V" } : Jvm.MethodName)) ∈ TBL := tb_2 233 rfl rfl
theorem tw_333 : (Jvm.Cond.code ({ cls := "WallPlanner$Seeker", name := "keepTrial", desc := "()V" } : Jvm.MethodName) prog_9_method_6_code (1 : Nat) (Option.none : Option Jvm.ClassFile.FieldType)) ∈ TBL := tb_2 234 rfl rfl
theorem tw_334 : (Jvm.Cond.methodLink "WallPlanner$Seeker" (119 : Nat) ({ cls := "java/lang/System", name := "arraycopy", desc := "(Ljava/lang/Object;ILjava/lang/Object;II)V" } : Jvm.MethodName)) ∈ TBL := tb_2 235 rfl rfl
theorem tw_335 : (Jvm.Cond.static ({ cls := "java/lang/System", name := "arraycopy", desc := "(Ljava/lang/Object;ILjava/lang/Object;II)V" } : Jvm.MethodName)) ∈ TBL := tb_2 236 rfl rfl
theorem tw_336 : (Jvm.Cond.native ({ cls := "java/lang/System", name := "arraycopy", desc := "(Ljava/lang/Object;ILjava/lang/Object;II)V" } : Jvm.MethodName)) ∈ TBL := tb_2 237 rfl rfl
theorem tw_337 : (Jvm.Cond.methodLink "WallPlanner$Seeker" (69 : Nat) ({ cls := "java/lang/Math", name := "max", desc := "(II)I" } : Jvm.MethodName)) ∈ TBL := tb_2 238 rfl rfl
theorem tw_338 : (Jvm.Cond.static ({ cls := "java/lang/Math", name := "max", desc := "(II)I" } : Jvm.MethodName)) ∈ TBL := tb_2 239 rfl rfl
theorem tw_339 : (Jvm.Cond.code ({ cls := "java/lang/Math", name := "max", desc := "(II)I" } : Jvm.MethodName) prog_15_method_65_code (2 : Nat) (Option.some Jvm.ClassFile.FieldType.int)) ∈ TBL := tb_3 0 rfl rfl
theorem tw_340 : (Jvm.Cond.methodLink "WallPlanner" (147 : Nat) ({ cls := "WallPlanner$Plan", name := "settle", desc := "([ILWallPlanner$Needs;LWallPlanner$Net;LWallPlanner$Law;)V" } : Jvm.MethodName)) ∈ TBL := tb_3 1 rfl rfl
theorem tw_341 : (Jvm.Cond.instanceMethod ({ cls := "WallPlanner$Plan", name := "settle", desc := "([ILWallPlanner$Needs;LWallPlanner$Net;LWallPlanner$Law;)V" } : Jvm.MethodName)) ∈ TBL := tb_3 2 rfl rfl
theorem tw_342 : (Jvm.Cond.selects "WallPlanner$Plan" ({ cls := "WallPlanner$Plan", name := "settle", desc := "([ILWallPlanner$Needs;LWallPlanner$Net;LWallPlanner$Law;)V" } : Jvm.MethodName) ({ cls := "WallPlanner$Plan", name := "settle", desc := "([ILWallPlanner$Needs;LWallPlanner$Net;LWallPlanner$Law;)V" } : Jvm.MethodName)) ∈ TBL := tb_3 3 rfl rfl
theorem tw_343 : (Jvm.Cond.code ({ cls := "WallPlanner$Plan", name := "settle", desc := "([ILWallPlanner$Needs;LWallPlanner$Net;LWallPlanner$Law;)V" } : Jvm.MethodName) prog_8_method_2_code (5 : Nat) (Option.none : Option Jvm.ClassFile.FieldType)) ∈ TBL := tb_3 4 rfl rfl
theorem tw_344 : (Jvm.Cond.methodLink "WallPlanner$Plan" (40 : Nat) ({ cls := "WallPlanner$Layout", name := "copyRooms", desc := "([I)V" } : Jvm.MethodName)) ∈ TBL := tb_3 5 rfl rfl
theorem tw_345 : (Jvm.Cond.instanceMethod ({ cls := "WallPlanner$Layout", name := "copyRooms", desc := "([I)V" } : Jvm.MethodName)) ∈ TBL := tb_3 6 rfl rfl
theorem tw_346 : (Jvm.Cond.selects "WallPlanner$Layout" ({ cls := "WallPlanner$Layout", name := "copyRooms", desc := "([I)V" } : Jvm.MethodName) ({ cls := "WallPlanner$Layout", name := "copyRooms", desc := "([I)V" } : Jvm.MethodName)) ∈ TBL := tb_3 7 rfl rfl
theorem tw_347 : (Jvm.Cond.code ({ cls := "WallPlanner$Layout", name := "copyRooms", desc := "([I)V" } : Jvm.MethodName) prog_4_method_6_code (2 : Nat) (Option.none : Option Jvm.ClassFile.FieldType)) ∈ TBL := tb_3 8 rfl rfl
theorem tw_348 : (Jvm.Cond.methodLink "WallPlanner$Layout" (54 : Nat) ({ cls := "java/lang/System", name := "arraycopy", desc := "(Ljava/lang/Object;ILjava/lang/Object;II)V" } : Jvm.MethodName)) ∈ TBL := tb_3 9 rfl rfl
theorem tw_349 : (Jvm.Cond.methodLink "WallPlanner$Plan" (44 : Nat) ({ cls := "WallPlanner$Needs", name := "copyFrom", desc := "(LWallPlanner$Needs;)V" } : Jvm.MethodName)) ∈ TBL := tb_3 10 rfl rfl
theorem tw_350 : (Jvm.Cond.instanceMethod ({ cls := "WallPlanner$Needs", name := "copyFrom", desc := "(LWallPlanner$Needs;)V" } : Jvm.MethodName)) ∈ TBL := tb_3 11 rfl rfl
theorem tw_351 : (Jvm.Cond.selects "WallPlanner$Needs" ({ cls := "WallPlanner$Needs", name := "copyFrom", desc := "(LWallPlanner$Needs;)V" } : Jvm.MethodName) ({ cls := "WallPlanner$Needs", name := "copyFrom", desc := "(LWallPlanner$Needs;)V" } : Jvm.MethodName)) ∈ TBL := tb_3 12 rfl rfl
theorem tw_352 : (Jvm.Cond.code ({ cls := "WallPlanner$Needs", name := "copyFrom", desc := "(LWallPlanner$Needs;)V" } : Jvm.MethodName) prog_5_method_4_code (2 : Nat) (Option.none : Option Jvm.ClassFile.FieldType)) ∈ TBL := tb_3 13 rfl rfl
theorem tw_353 : (Jvm.Cond.methodLink "WallPlanner$Needs" (43 : Nat) ({ cls := "java/lang/System", name := "arraycopy", desc := "(Ljava/lang/Object;ILjava/lang/Object;II)V" } : Jvm.MethodName)) ∈ TBL := tb_3 14 rfl rfl
theorem tw_354 : (Jvm.Cond.methodLink "WallPlanner$Plan" (59 : Nat) ({ cls := "WallPlanner$Layout", name := "draw", desc := "([I[II)V" } : Jvm.MethodName)) ∈ TBL := tb_3 15 rfl rfl
theorem tw_355 : (Jvm.Cond.methodLink "WallPlanner$Plan" (67 : Nat) ({ cls := "WallPlanner$Law", name := "costOf", desc := "(II)I" } : Jvm.MethodName)) ∈ TBL := tb_3 16 rfl rfl
theorem tw_356 : (Jvm.Cond.methodLink "WallPlanner$Plan" (73 : Nat) ({ cls := "WallPlanner$Plan", name := "listRules", desc := "()V" } : Jvm.MethodName)) ∈ TBL := tb_3 17 rfl rfl
theorem tw_357 : (Jvm.Cond.instanceMethod ({ cls := "WallPlanner$Plan", name := "listRules", desc := "()V" } : Jvm.MethodName)) ∈ TBL := tb_3 19 rfl rfl
theorem tw_358 : (Jvm.Cond.code ({ cls := "WallPlanner$Plan", name := "listRules", desc := "()V" } : Jvm.MethodName) prog_8_method_3_code (3 : Nat) (Option.none : Option Jvm.ClassFile.FieldType)) ∈ TBL := tb_3 20 rfl rfl
theorem tw_359 : (Jvm.Cond.static ({ cls := "WallPlanner", name := "firstOf", desc := "(I)I" } : Jvm.MethodName)) ∈ TBL := tb_3 22 rfl rfl
theorem tw_360 : (Jvm.Cond.code ({ cls := "WallPlanner", name := "firstOf", desc := "(I)I" } : Jvm.MethodName) prog_1_method_26_code (1 : Nat) (Option.some Jvm.ClassFile.FieldType.int)) ∈ TBL := tb_3 23 rfl rfl
theorem tw_361 : (Jvm.Cond.static ({ cls := "WallPlanner", name := "secondOf", desc := "(I)I" } : Jvm.MethodName)) ∈ TBL := tb_3 25 rfl rfl
theorem tw_362 : (Jvm.Cond.code ({ cls := "WallPlanner", name := "secondOf", desc := "(I)I" } : Jvm.MethodName) prog_1_method_27_code (1 : Nat) (Option.some Jvm.ClassFile.FieldType.int)) ∈ TBL := tb_3 26 rfl rfl
theorem tw_363 : (Jvm.Cond.static ({ cls := "WallPlanner", name := "doorOf", desc := "(I)I" } : Jvm.MethodName)) ∈ TBL := tb_3 28 rfl rfl
theorem tw_364 : (Jvm.Cond.code ({ cls := "WallPlanner", name := "doorOf", desc := "(I)I" } : Jvm.MethodName) prog_1_method_28_code (1 : Nat) (Option.some Jvm.ClassFile.FieldType.int)) ∈ TBL := tb_3 29 rfl rfl
theorem tw_365 : (Jvm.Cond.methodLink "WallPlannerLaw" (55 : Nat) ({ cls := "WallPlanner", name := "room", desc := "(I)I" } : Jvm.MethodName)) ∈ TBL := tb_3 31 rfl rfl
theorem tw_366 : (Jvm.Cond.instanceMethod ({ cls := "WallPlanner", name := "room", desc := "(I)I" } : Jvm.MethodName)) ∈ TBL := tb_3 32 rfl rfl
theorem tw_367 : (Jvm.Cond.selects "WallPlanner" ({ cls := "WallPlanner", name := "room", desc := "(I)I" } : Jvm.MethodName) ({ cls := "WallPlanner", name := "room", desc := "(I)I" } : Jvm.MethodName)) ∈ TBL := tb_3 33 rfl rfl
theorem tw_368 : (Jvm.Cond.code ({ cls := "WallPlanner", name := "room", desc := "(I)I" } : Jvm.MethodName) prog_1_method_11_code (2 : Nat) (Option.some Jvm.ClassFile.FieldType.int)) ∈ TBL := tb_3 34 rfl rfl
theorem tw_369 : (Jvm.Cond.methodLink "WallPlanner" (154 : Nat) ({ cls := "WallPlanner$Net", name := "isHost", desc := "(I)Z" } : Jvm.MethodName)) ∈ TBL := tb_3 35 rfl rfl
theorem tw_370 : (Jvm.Cond.methodLink "WallPlannerLaw" (59 : Nat) ({ cls := "WallPlanner", name := "rule", desc := "(II)I" } : Jvm.MethodName)) ∈ TBL := tb_3 36 rfl rfl
theorem tw_371 : (Jvm.Cond.instanceMethod ({ cls := "WallPlanner", name := "rule", desc := "(II)I" } : Jvm.MethodName)) ∈ TBL := tb_3 37 rfl rfl
theorem tw_372 : (Jvm.Cond.selects "WallPlanner" ({ cls := "WallPlanner", name := "rule", desc := "(II)I" } : Jvm.MethodName) ({ cls := "WallPlanner", name := "rule", desc := "(II)I" } : Jvm.MethodName)) ∈ TBL := tb_3 38 rfl rfl
theorem tw_373 : (Jvm.Cond.code ({ cls := "WallPlanner", name := "rule", desc := "(II)I" } : Jvm.MethodName) prog_1_method_12_code (4 : Nat) (Option.some Jvm.ClassFile.FieldType.int)) ∈ TBL := tb_3 39 rfl rfl
theorem tw_374 : (Jvm.Cond.methodLink "WallPlanner" (172 : Nat) ({ cls := "WallPlanner", name := "firstOf", desc := "(I)I" } : Jvm.MethodName)) ∈ TBL := tb_3 40 rfl rfl
theorem tw_375 : (Jvm.Cond.methodLink "WallPlanner" (175 : Nat) ({ cls := "WallPlanner", name := "secondOf", desc := "(I)I" } : Jvm.MethodName)) ∈ TBL := tb_3 41 rfl rfl
theorem tw_376 : (Jvm.Cond.methodLink "WallPlanner" (178 : Nat) ({ cls := "WallPlanner", name := "doorOf", desc := "(I)I" } : Jvm.MethodName)) ∈ TBL := tb_3 42 rfl rfl
theorem tw_377 : (Jvm.Cond.methodLink "WallPlanner" (181 : Nat) ({ cls := "WallPlanner$Plan", name := "waysBy", desc := "(I)I" } : Jvm.MethodName)) ∈ TBL := tb_3 43 rfl rfl
theorem tw_378 : (Jvm.Cond.instanceMethod ({ cls := "WallPlanner$Plan", name := "waysBy", desc := "(I)I" } : Jvm.MethodName)) ∈ TBL := tb_3 44 rfl rfl
theorem tw_379 : (Jvm.Cond.selects "WallPlanner$Plan" ({ cls := "WallPlanner$Plan", name := "waysBy", desc := "(I)I" } : Jvm.MethodName) ({ cls := "WallPlanner$Plan", name := "waysBy", desc := "(I)I" } : Jvm.MethodName)) ∈ TBL := tb_3 45 rfl rfl
theorem tw_380 : (Jvm.Cond.code ({ cls := "WallPlanner$Plan", name := "waysBy", desc := "(I)I" } : Jvm.MethodName) prog_8_method_6_code (5 : Nat) (Option.some Jvm.ClassFile.FieldType.int)) ∈ TBL := tb_3 46 rfl rfl
theorem tw_381 : (Jvm.Cond.methodLink "WallPlanner$Plan" (101 : Nat) ({ cls := "WallPlanner$Plan", name := "isNeedBy", desc := "(III)Z" } : Jvm.MethodName)) ∈ TBL := tb_3 47 rfl rfl
theorem tw_382 : (Jvm.Cond.instanceMethod ({ cls := "WallPlanner$Plan", name := "isNeedBy", desc := "(III)Z" } : Jvm.MethodName)) ∈ TBL := tb_3 49 rfl rfl
theorem tw_383 : (Jvm.Cond.code ({ cls := "WallPlanner$Plan", name := "isNeedBy", desc := "(III)Z" } : Jvm.MethodName) prog_8_method_5_code (4 : Nat) (Option.some Jvm.ClassFile.FieldType.boolean)) ∈ TBL := tb_3 50 rfl rfl
theorem tw_384 : (Jvm.Cond.methodLink "WallPlanner$Plan" (94 : Nat) ({ cls := "WallPlanner$Plan", name := "isBy", desc := "(III)Z" } : Jvm.MethodName)) ∈ TBL := tb_3 51 rfl rfl
theorem tw_385 : (Jvm.Cond.instanceMethod ({ cls := "WallPlanner$Plan", name := "isBy", desc := "(III)Z" } : Jvm.MethodName)) ∈ TBL := tb_3 53 rfl rfl
theorem tw_386 : (Jvm.Cond.code ({ cls := "WallPlanner$Plan", name := "isBy", desc := "(III)Z" } : Jvm.MethodName) prog_8_method_4_code (4 : Nat) (Option.some Jvm.ClassFile.FieldType.boolean)) ∈ TBL := tb_3 54 rfl rfl
theorem tw_387 : (Jvm.Cond.methodLink "WallPlanner" (184 : Nat) ({ cls := "WallPlanner$Plan", name := "weightBy", desc := "(II)I" } : Jvm.MethodName)) ∈ TBL := tb_3 56 rfl rfl
theorem tw_388 : (Jvm.Cond.instanceMethod ({ cls := "WallPlanner$Plan", name := "weightBy", desc := "(II)I" } : Jvm.MethodName)) ∈ TBL := tb_3 57 rfl rfl
theorem tw_389 : (Jvm.Cond.selects "WallPlanner$Plan" ({ cls := "WallPlanner$Plan", name := "weightBy", desc := "(II)I" } : Jvm.MethodName) ({ cls := "WallPlanner$Plan", name := "weightBy", desc := "(II)I" } : Jvm.MethodName)) ∈ TBL := tb_3 58 rfl rfl
theorem tw_390 : (Jvm.Cond.code ({ cls := "WallPlanner$Plan", name := "weightBy", desc := "(II)I" } : Jvm.MethodName) prog_8_method_7_code (6 : Nat) (Option.some Jvm.ClassFile.FieldType.int)) ∈ TBL := tb_3 59 rfl rfl
theorem tw_391 : (Jvm.Cond.methodLink "WallPlanner$Plan" (111 : Nat) ({ cls := "java/lang/Math", name := "max", desc := "(II)I" } : Jvm.MethodName)) ∈ TBL := tb_3 61 rfl rfl
theorem tw_392 : (Jvm.Cond.methodLink "WallPlanner" (187 : Nat) ({ cls := "WallPlanner$Plan", name := "isMustBy", desc := "(I[I)Z" } : Jvm.MethodName)) ∈ TBL := tb_3 62 rfl rfl
theorem tw_393 : (Jvm.Cond.instanceMethod ({ cls := "WallPlanner$Plan", name := "isMustBy", desc := "(I[I)Z" } : Jvm.MethodName)) ∈ TBL := tb_3 63 rfl rfl
theorem tw_394 : (Jvm.Cond.selects "WallPlanner$Plan" ({ cls := "WallPlanner$Plan", name := "isMustBy", desc := "(I[I)Z" } : Jvm.MethodName) ({ cls := "WallPlanner$Plan", name := "isMustBy", desc := "(I[I)Z" } : Jvm.MethodName)) ∈ TBL := tb_3 64 rfl rfl
theorem tw_395 : (Jvm.Cond.code ({ cls := "WallPlanner$Plan", name := "isMustBy", desc := "(I[I)Z" } : Jvm.MethodName) prog_8_method_8_code (5 : Nat) (Option.some Jvm.ClassFile.FieldType.boolean)) ∈ TBL := tb_3 65 rfl rfl
theorem tw_396 : (Jvm.Cond.methodLink "WallPlannerLaw" (64 : Nat) ({ cls := "WallPlanner", name := "lets", desc := "(III)I" } : Jvm.MethodName)) ∈ TBL := tb_3 66 rfl rfl
theorem tw_397 : (Jvm.Cond.instanceMethod ({ cls := "WallPlanner", name := "lets", desc := "(III)I" } : Jvm.MethodName)) ∈ TBL := tb_3 67 rfl rfl
theorem tw_398 : (Jvm.Cond.selects "WallPlanner" ({ cls := "WallPlanner", name := "lets", desc := "(III)I" } : Jvm.MethodName) ({ cls := "WallPlanner", name := "lets", desc := "(III)I" } : Jvm.MethodName)) ∈ TBL := tb_3 68 rfl rfl
theorem tw_399 : (Jvm.Cond.code ({ cls := "WallPlanner", name := "lets", desc := "(III)I" } : Jvm.MethodName) prog_1_method_13_code (4 : Nat) (Option.some Jvm.ClassFile.FieldType.int)) ∈ TBL := tb_3 69 rfl rfl
theorem tw_400 : (Jvm.Cond.methodLink "WallPlanner" (191 : Nat) ({ cls := "WallPlanner$Layout", name := "areIn", desc := "(II)Z" } : Jvm.MethodName)) ∈ TBL := tb_3 70 rfl rfl
theorem tw_401 : (Jvm.Cond.instanceMethod ({ cls := "WallPlanner$Layout", name := "areIn", desc := "(II)Z" } : Jvm.MethodName)) ∈ TBL := tb_3 71 rfl rfl
theorem tw_402 : (Jvm.Cond.selects "WallPlanner$Layout" ({ cls := "WallPlanner$Layout", name := "areIn", desc := "(II)Z" } : Jvm.MethodName) ({ cls := "WallPlanner$Layout", name := "areIn", desc := "(II)Z" } : Jvm.MethodName)) ∈ TBL := tb_3 72 rfl rfl
theorem tw_403 : (Jvm.Cond.code ({ cls := "WallPlanner$Layout", name := "areIn", desc := "(II)Z" } : Jvm.MethodName) prog_4_method_2_code (3 : Nat) (Option.some Jvm.ClassFile.FieldType.boolean)) ∈ TBL := tb_3 73 rfl rfl
theorem tw_404 : (Jvm.Cond.methodLink "WallPlanner" (195 : Nat) ({ cls := "WallPlanner$Layout", name := "isLet", desc := "(III)Z" } : Jvm.MethodName)) ∈ TBL := tb_3 74 rfl rfl
theorem tw_405 : (Jvm.Cond.instanceMethod ({ cls := "WallPlanner$Layout", name := "isLet", desc := "(III)Z" } : Jvm.MethodName)) ∈ TBL := tb_3 75 rfl rfl
theorem tw_406 : (Jvm.Cond.selects "WallPlanner$Layout" ({ cls := "WallPlanner$Layout", name := "isLet", desc := "(III)Z" } : Jvm.MethodName) ({ cls := "WallPlanner$Layout", name := "isLet", desc := "(III)Z" } : Jvm.MethodName)) ∈ TBL := tb_3 76 rfl rfl
theorem tw_407 : (Jvm.Cond.code ({ cls := "WallPlanner$Layout", name := "isLet", desc := "(III)Z" } : Jvm.MethodName) prog_4_method_4_code (4 : Nat) (Option.some Jvm.ClassFile.FieldType.boolean)) ∈ TBL := tb_3 77 rfl rfl
theorem tw_408 : (Jvm.Cond.methodLink "WallPlanner$Layout" (39 : Nat) ({ cls := "WallPlanner$Layout", name := "areIn", desc := "(II)Z" } : Jvm.MethodName)) ∈ TBL := tb_3 78 rfl rfl
theorem tw_409 : (Jvm.Cond.methodLink "WallPlanner$Layout" (43 : Nat) ({ cls := "WallPlanner$Layout", name := "doorsBetween", desc := "(II)I" } : Jvm.MethodName)) ∈ TBL := tb_3 79 rfl rfl
theorem tw_410 : (Jvm.Cond.instanceMethod ({ cls := "WallPlanner$Layout", name := "doorsBetween", desc := "(II)I" } : Jvm.MethodName)) ∈ TBL := tb_3 80 rfl rfl
theorem tw_411 : (Jvm.Cond.selects "WallPlanner$Layout" ({ cls := "WallPlanner$Layout", name := "doorsBetween", desc := "(II)I" } : Jvm.MethodName) ({ cls := "WallPlanner$Layout", name := "doorsBetween", desc := "(II)I" } : Jvm.MethodName)) ∈ TBL := tb_3 81 rfl rfl
theorem tw_412 : (Jvm.Cond.code ({ cls := "WallPlanner$Layout", name := "doorsBetween", desc := "(II)I" } : Jvm.MethodName) prog_4_method_3_code (3 : Nat) (Option.some Jvm.ClassFile.FieldType.int)) ∈ TBL := tb_3 82 rfl rfl
theorem tw_413 : (Jvm.Cond.methodLink "WallPlannerLaw" (69 : Nat) ({ cls := "WallPlanner", name := "reach", desc := "(I)I" } : Jvm.MethodName)) ∈ TBL := tb_3 84 rfl rfl
theorem tw_414 : (Jvm.Cond.instanceMethod ({ cls := "WallPlanner", name := "reach", desc := "(I)I" } : Jvm.MethodName)) ∈ TBL := tb_3 85 rfl rfl
theorem tw_415 : (Jvm.Cond.selects "WallPlanner" ({ cls := "WallPlanner", name := "reach", desc := "(I)I" } : Jvm.MethodName) ({ cls := "WallPlanner", name := "reach", desc := "(I)I" } : Jvm.MethodName)) ∈ TBL := tb_3 86 rfl rfl
theorem tw_416 : (Jvm.Cond.code ({ cls := "WallPlanner", name := "reach", desc := "(I)I" } : Jvm.MethodName) prog_1_method_14_code (2 : Nat) (Option.some Jvm.ClassFile.FieldType.int)) ∈ TBL := tb_3 87 rfl rfl
theorem tw_417 : (Jvm.Cond.methodLink "WallPlanner" (198 : Nat) ({ cls := "WallPlanner$Spreading", name := "follow", desc := "(LWallPlanner$Plan;)V" } : Jvm.MethodName)) ∈ TBL := tb_3 88 rfl rfl
theorem tw_418 : (Jvm.Cond.instanceMethod ({ cls := "WallPlanner$Spreading", name := "follow", desc := "(LWallPlanner$Plan;)V" } : Jvm.MethodName)) ∈ TBL := tb_3 89 rfl rfl
theorem tw_419 : (Jvm.Cond.selects "WallPlanner$Spreading" ({ cls := "WallPlanner$Spreading", name := "follow", desc := "(LWallPlanner$Plan;)V" } : Jvm.MethodName) ({ cls := "WallPlanner$Spreading", name := "follow", desc := "(LWallPlanner$Plan;)V" } : Jvm.MethodName)) ∈ TBL := tb_3 90 rfl rfl
theorem tw_420 : (Jvm.Cond.code ({ cls := "WallPlanner$Spreading", name := "follow", desc := "(LWallPlanner$Plan;)V" } : Jvm.MethodName) prog_11_method_2_code (3 : Nat) (Option.none : Option Jvm.ClassFile.FieldType)) ∈ TBL := tb_3 91 rfl rfl
theorem tw_421 : (Jvm.Cond.methodLink "WallPlanner$Spreading" (28 : Nat) ({ cls := "WallPlanner$Spreading", name := "begin", desc := "(LWallPlanner$Layout;)V" } : Jvm.MethodName)) ∈ TBL := tb_3 92 rfl rfl
theorem tw_422 : (Jvm.Cond.instanceMethod ({ cls := "WallPlanner$Spreading", name := "begin", desc := "(LWallPlanner$Layout;)V" } : Jvm.MethodName)) ∈ TBL := tb_3 93 rfl rfl
theorem tw_423 : (Jvm.Cond.selects "WallPlanner$Spreading" ({ cls := "WallPlanner$Spreading", name := "begin", desc := "(LWallPlanner$Layout;)V" } : Jvm.MethodName) ({ cls := "WallPlanner$Spreading", name := "begin", desc := "(LWallPlanner$Layout;)V" } : Jvm.MethodName)) ∈ TBL := tb_3 94 rfl rfl
theorem tw_424 : (Jvm.Cond.code ({ cls := "WallPlanner$Spreading", name := "begin", desc := "(LWallPlanner$Layout;)V" } : Jvm.MethodName) prog_11_method_3_code (3 : Nat) (Option.none : Option Jvm.ClassFile.FieldType)) ∈ TBL := tb_3 95 rfl rfl
theorem tw_425 : (Jvm.Cond.methodLink "WallPlanner$Spreading" (45 : Nat) ({ cls := "WallPlanner$Layout", name := "roomCount", desc := "()I" } : Jvm.MethodName)) ∈ TBL := tb_3 96 rfl rfl
theorem tw_426 : (Jvm.Cond.instanceMethod ({ cls := "WallPlanner$Layout", name := "roomCount", desc := "()I" } : Jvm.MethodName)) ∈ TBL := tb_3 97 rfl rfl
theorem tw_427 : (Jvm.Cond.selects "WallPlanner$Layout" ({ cls := "WallPlanner$Layout", name := "roomCount", desc := "()I" } : Jvm.MethodName) ({ cls := "WallPlanner$Layout", name := "roomCount", desc := "()I" } : Jvm.MethodName)) ∈ TBL := tb_3 98 rfl rfl
theorem tw_428 : (Jvm.Cond.code ({ cls := "WallPlanner$Layout", name := "roomCount", desc := "()I" } : Jvm.MethodName) prog_4_method_5_code (3 : Nat) (Option.some Jvm.ClassFile.FieldType.int)) ∈ TBL := tb_3 99 rfl rfl
theorem tw_429 : (Jvm.Cond.methodLink "WallPlanner$Layout" (49 : Nat) ({ cls := "java/lang/Math", name := "max", desc := "(II)I" } : Jvm.MethodName)) ∈ TBL := tb_3 100 rfl rfl
theorem tw_430 : (Jvm.Cond.methodLink "WallPlanner$Spreading" (38 : Nat) ({ cls := "WallPlanner$Spreading", name := "addRule", desc := "(I)V" } : Jvm.MethodName)) ∈ TBL := tb_3 101 rfl rfl
theorem tw_431 : (Jvm.Cond.instanceMethod ({ cls := "WallPlanner$Spreading", name := "addRule", desc := "(I)V" } : Jvm.MethodName)) ∈ TBL := tb_3 102 rfl rfl
theorem tw_432 : (Jvm.Cond.selects "WallPlanner$Spreading" ({ cls := "WallPlanner$Spreading", name := "addRule", desc := "(I)V" } : Jvm.MethodName) ({ cls := "WallPlanner$Spreading", name := "addRule", desc := "(I)V" } : Jvm.MethodName)) ∈ TBL := tb_3 103 rfl rfl
theorem tw_433 : (Jvm.Cond.code ({ cls := "WallPlanner$Spreading", name := "addRule", desc := "(I)V" } : Jvm.MethodName) prog_11_method_4_code (2 : Nat) (Option.none : Option Jvm.ClassFile.FieldType)) ∈ TBL := tb_3 104 rfl rfl
theorem tw_434 : (Jvm.Cond.methodLink "WallPlanner$Spreading" (42 : Nat) ({ cls := "WallPlanner$Spreading", name := "chain", desc := "()V" } : Jvm.MethodName)) ∈ TBL := tb_3 107 rfl rfl
theorem tw_435 : (Jvm.Cond.instanceMethod ({ cls := "WallPlanner$Spreading", name := "chain", desc := "()V" } : Jvm.MethodName)) ∈ TBL := tb_3 108 rfl rfl
theorem tw_436 : (Jvm.Cond.selects "WallPlanner$Spreading" ({ cls := "WallPlanner$Spreading", name := "chain", desc := "()V" } : Jvm.MethodName) ({ cls := "WallPlanner$Spreading", name := "chain", desc := "()V" } : Jvm.MethodName)) ∈ TBL := tb_3 109 rfl rfl
theorem tw_437 : (Jvm.Cond.code ({ cls := "WallPlanner$Spreading", name := "chain", desc := "()V" } : Jvm.MethodName) prog_11_method_5_code (3 : Nat) (Option.none : Option Jvm.ClassFile.FieldType)) ∈ TBL := tb_3 110 rfl rfl
theorem tw_438 : (Jvm.Cond.methodLink "WallPlanner" (202 : Nat) ({ cls := "WallPlanner$Spreading", name := "othersFrom", desc := "(I)I" } : Jvm.MethodName)) ∈ TBL := tb_3 111 rfl rfl
theorem tw_439 : (Jvm.Cond.instanceMethod ({ cls := "WallPlanner$Spreading", name := "othersFrom", desc := "(I)I" } : Jvm.MethodName)) ∈ TBL := tb_3 112 rfl rfl
theorem tw_440 : (Jvm.Cond.selects "WallPlanner$Spreading" ({ cls := "WallPlanner$Spreading", name := "othersFrom", desc := "(I)I" } : Jvm.MethodName) ({ cls := "WallPlanner$Spreading", name := "othersFrom", desc := "(I)I" } : Jvm.MethodName)) ∈ TBL := tb_3 113 rfl rfl
theorem tw_441 : (Jvm.Cond.code ({ cls := "WallPlanner$Spreading", name := "othersFrom", desc := "(I)I" } : Jvm.MethodName) prog_11_method_6_code (4 : Nat) (Option.some Jvm.ClassFile.FieldType.int)) ∈ TBL := tb_3 114 rfl rfl
theorem tw_442 : (Jvm.Cond.methodLink "WallPlannerLaw" (73 : Nat) ({ cls := "WallPlanner", name := "spread", desc := "(I)I" } : Jvm.MethodName)) ∈ TBL := tb_3 115 rfl rfl
theorem tw_443 : (Jvm.Cond.instanceMethod ({ cls := "WallPlanner", name := "spread", desc := "(I)I" } : Jvm.MethodName)) ∈ TBL := tb_3 116 rfl rfl
theorem tw_444 : (Jvm.Cond.selects "WallPlanner" ({ cls := "WallPlanner", name := "spread", desc := "(I)I" } : Jvm.MethodName) ({ cls := "WallPlanner", name := "spread", desc := "(I)I" } : Jvm.MethodName)) ∈ TBL := tb_3 117 rfl rfl
theorem tw_445 : (Jvm.Cond.code ({ cls := "WallPlanner", name := "spread", desc := "(I)I" } : Jvm.MethodName) prog_1_method_15_code (3 : Nat) (Option.some Jvm.ClassFile.FieldType.int)) ∈ TBL := tb_3 118 rfl rfl
theorem tw_446 : (Jvm.Cond.methodLink "WallPlanner" (208 : Nat) ({ cls := "WallPlanner$Spreading", name := "widest", desc := "()I" } : Jvm.MethodName)) ∈ TBL := tb_3 119 rfl rfl
theorem tw_447 : (Jvm.Cond.instanceMethod ({ cls := "WallPlanner$Spreading", name := "widest", desc := "()I" } : Jvm.MethodName)) ∈ TBL := tb_3 120 rfl rfl
theorem tw_448 : (Jvm.Cond.selects "WallPlanner$Spreading" ({ cls := "WallPlanner$Spreading", name := "widest", desc := "()I" } : Jvm.MethodName) ({ cls := "WallPlanner$Spreading", name := "widest", desc := "()I" } : Jvm.MethodName)) ∈ TBL := tb_3 121 rfl rfl
theorem tw_449 : (Jvm.Cond.code ({ cls := "WallPlanner$Spreading", name := "widest", desc := "()I" } : Jvm.MethodName) prog_11_method_7_code (3 : Nat) (Option.some Jvm.ClassFile.FieldType.int)) ∈ TBL := tb_3 122 rfl rfl
theorem tw_450 : (Jvm.Cond.methodLink "WallPlanner$Spreading" (61 : Nat) ({ cls := "WallPlanner$Spreading", name := "othersFrom", desc := "(I)I" } : Jvm.MethodName)) ∈ TBL := tb_3 123 rfl rfl
theorem tw_451 : (Jvm.Cond.methodLink "WallPlanner$Spreading" (64 : Nat) ({ cls := "java/lang/Math", name := "max", desc := "(II)I" } : Jvm.MethodName)) ∈ TBL := tb_3 124 rfl rfl
theorem tw_452 : (Jvm.Cond.methodLink "WallPlanner" (212 : Nat) ({ cls := "WallPlanner$Spreading", name := "firstWith", desc := "(ILWallPlanner$Layout;)I" } : Jvm.MethodName)) ∈ TBL := tb_3 125 rfl rfl
theorem tw_453 : (Jvm.Cond.instanceMethod ({ cls := "WallPlanner$Spreading", name := "firstWith", desc := "(ILWallPlanner$Layout;)I" } : Jvm.MethodName)) ∈ TBL := tb_3 126 rfl rfl
theorem tw_454 : (Jvm.Cond.selects "WallPlanner$Spreading" ({ cls := "WallPlanner$Spreading", name := "firstWith", desc := "(ILWallPlanner$Layout;)I" } : Jvm.MethodName) ({ cls := "WallPlanner$Spreading", name := "firstWith", desc := "(ILWallPlanner$Layout;)I" } : Jvm.MethodName)) ∈ TBL := tb_3 127 rfl rfl
theorem tw_455 : (Jvm.Cond.code ({ cls := "WallPlanner$Spreading", name := "firstWith", desc := "(ILWallPlanner$Layout;)I" } : Jvm.MethodName) prog_11_method_8_code (4 : Nat) (Option.some Jvm.ClassFile.FieldType.int)) ∈ TBL := tb_3 128 rfl rfl
theorem tw_456 : (Jvm.Cond.methodLink "WallPlannerLaw" (77 : Nat) ({ cls := "WallPlanner", name := "shut", desc := "(I)I" } : Jvm.MethodName)) ∈ TBL := tb_3 129 rfl rfl
theorem tw_457 : (Jvm.Cond.instanceMethod ({ cls := "WallPlanner", name := "shut", desc := "(I)I" } : Jvm.MethodName)) ∈ TBL := tb_3 130 rfl rfl
theorem tw_458 : (Jvm.Cond.selects "WallPlanner" ({ cls := "WallPlanner", name := "shut", desc := "(I)I" } : Jvm.MethodName) ({ cls := "WallPlanner", name := "shut", desc := "(I)I" } : Jvm.MethodName)) ∈ TBL := tb_3 131 rfl rfl
theorem tw_459 : (Jvm.Cond.code ({ cls := "WallPlanner", name := "shut", desc := "(I)I" } : Jvm.MethodName) prog_1_method_16_code (2 : Nat) (Option.some Jvm.ClassFile.FieldType.int)) ∈ TBL := tb_3 132 rfl rfl
theorem tw_460 : (Jvm.Cond.methodLink "WallPlanner" (216 : Nat) ({ cls := "WallPlanner$Shutter", name := "seekSet", desc := "(LWallPlanner$Plan;[II)I" } : Jvm.MethodName)) ∈ TBL := tb_3 133 rfl rfl
theorem tw_461 : (Jvm.Cond.instanceMethod ({ cls := "WallPlanner$Shutter", name := "seekSet", desc := "(LWallPlanner$Plan;[II)I" } : Jvm.MethodName)) ∈ TBL := tb_3 134 rfl rfl
theorem tw_462 : (Jvm.Cond.selects "WallPlanner$Shutter" ({ cls := "WallPlanner$Shutter", name := "seekSet", desc := "(LWallPlanner$Plan;[II)I" } : Jvm.MethodName) ({ cls := "WallPlanner$Shutter", name := "seekSet", desc := "(LWallPlanner$Plan;[II)I" } : Jvm.MethodName)) ∈ TBL := tb_3 135 rfl rfl
theorem tw_463 : (Jvm.Cond.code ({ cls := "WallPlanner$Shutter", name := "seekSet", desc := "(LWallPlanner$Plan;[II)I" } : Jvm.MethodName) prog_10_method_2_code (9 : Nat) (Option.some Jvm.ClassFile.FieldType.int)) ∈ TBL := tb_3 136 rfl rfl
theorem tw_464 : (Jvm.Cond.methodLink "WallPlanner$Shutter" (41 : Nat) ({ cls := "WallPlanner$Shutter", name := "gatherCans", desc := "(LWallPlanner$Plan;[I)Z" } : Jvm.MethodName)) ∈ TBL := tb_3 137 rfl rfl
theorem tw_465 : (Jvm.Cond.instanceMethod ({ cls := "WallPlanner$Shutter", name := "gatherCans", desc := "(LWallPlanner$Plan;[I)Z" } : Jvm.MethodName)) ∈ TBL := tb_3 139 rfl rfl
theorem tw_466 : (Jvm.Cond.code ({ cls := "WallPlanner$Shutter", name := "gatherCans", desc := "(LWallPlanner$Plan;[I)Z" } : Jvm.MethodName) prog_10_method_3_code (5 : Nat) (Option.some Jvm.ClassFile.FieldType.boolean)) ∈ TBL := tb_3 140 rfl rfl
theorem tw_467 : (Jvm.Cond.methodLink "WallPlanner$Shutter" (62 : Nat) ({ cls := "WallPlanner$Spreading", name := "begin", desc := "(LWallPlanner$Layout;)V" } : Jvm.MethodName)) ∈ TBL := tb_3 141 rfl rfl
theorem tw_468 : (Jvm.Cond.methodLink "WallPlanner$Shutter" (70 : Nat) ({ cls := "WallPlanner$Plan", name := "isMustBy", desc := "(I[I)Z" } : Jvm.MethodName)) ∈ TBL := tb_3 142 rfl rfl
theorem tw_469 : (Jvm.Cond.methodLink "WallPlanner$Shutter" (74 : Nat) ({ cls := "WallPlanner$Spreading", name := "addRule", desc := "(I)V" } : Jvm.MethodName)) ∈ TBL := tb_3 143 rfl rfl
theorem tw_470 : (Jvm.Cond.methodLink "WallPlanner$Shutter" (77 : Nat) ({ cls := "WallPlanner$Plan", name := "weightBy", desc := "(II)I" } : Jvm.MethodName)) ∈ TBL := tb_3 144 rfl rfl
theorem tw_471 : (Jvm.Cond.methodLink "WallPlanner$Shutter" (84 : Nat) ({ cls := "java/lang/System", name := "arraycopy", desc := "(Ljava/lang/Object;ILjava/lang/Object;II)V" } : Jvm.MethodName)) ∈ TBL := tb_3 145 rfl rfl
theorem tw_472 : (Jvm.Cond.methodLink "WallPlanner$Shutter" (45 : Nat) ({ cls := "WallPlanner$Shutter", name := "widestWithout", desc := "(I)I" } : Jvm.MethodName)) ∈ TBL := tb_3 146 rfl rfl
theorem tw_473 : (Jvm.Cond.instanceMethod ({ cls := "WallPlanner$Shutter", name := "widestWithout", desc := "(I)I" } : Jvm.MethodName)) ∈ TBL := tb_3 148 rfl rfl
theorem tw_474 : (Jvm.Cond.code ({ cls := "WallPlanner$Shutter", name := "widestWithout", desc := "(I)I" } : Jvm.MethodName) prog_10_method_5_code (3 : Nat) (Option.some Jvm.ClassFile.FieldType.int)) ∈ TBL := tb_3 149 rfl rfl
theorem tw_475 : (Jvm.Cond.methodLink "WallPlanner$Shutter" (90 : Nat) ({ cls := "WallPlanner$Spreading", name := "chain", desc := "()V" } : Jvm.MethodName)) ∈ TBL := tb_3 150 rfl rfl
theorem tw_476 : (Jvm.Cond.methodLink "WallPlanner$Shutter" (93 : Nat) ({ cls := "WallPlanner$Spreading", name := "widest", desc := "()I" } : Jvm.MethodName)) ∈ TBL := tb_3 151 rfl rfl
theorem tw_477 : (Jvm.Cond.methodLink "WallPlanner$Shutter" (49 : Nat) ({ cls := "WallPlanner$Shutter", name := "tollOf", desc := "(I)I" } : Jvm.MethodName)) ∈ TBL := tb_3 152 rfl rfl
theorem tw_478 : (Jvm.Cond.instanceMethod ({ cls := "WallPlanner$Shutter", name := "tollOf", desc := "(I)I" } : Jvm.MethodName)) ∈ TBL := tb_3 154 rfl rfl
theorem tw_479 : (Jvm.Cond.code ({ cls := "WallPlanner$Shutter", name := "tollOf", desc := "(I)I" } : Jvm.MethodName) prog_10_method_4_code (4 : Nat) (Option.some Jvm.ClassFile.FieldType.int)) ∈ TBL := tb_3 155 rfl rfl
theorem tw_480 : (Jvm.Cond.methodLink "WallPlanner$Shutter" (52 : Nat) ({ cls := "WallPlanner$Shutter", name := "choose", desc := "(I)V" } : Jvm.MethodName)) ∈ TBL := tb_3 156 rfl rfl
theorem tw_481 : (Jvm.Cond.instanceMethod ({ cls := "WallPlanner$Shutter", name := "choose", desc := "(I)V" } : Jvm.MethodName)) ∈ TBL := tb_3 158 rfl rfl
theorem tw_482 : (Jvm.Cond.code ({ cls := "WallPlanner$Shutter", name := "choose", desc := "(I)V" } : Jvm.MethodName) prog_10_method_6_code (3 : Nat) (Option.none : Option Jvm.ClassFile.FieldType)) ∈ TBL := tb_3 159 rfl rfl
theorem tw_483 : (Jvm.Cond.methodLink "WallPlannerLaw" (81 : Nat) ({ cls := "WallPlanner", name := "shutting", desc := "(I)I" } : Jvm.MethodName)) ∈ TBL := tb_3 160 rfl rfl
theorem tw_484 : (Jvm.Cond.instanceMethod ({ cls := "WallPlanner", name := "shutting", desc := "(I)I" } : Jvm.MethodName)) ∈ TBL := tb_3 161 rfl rfl
theorem tw_485 : (Jvm.Cond.selects "WallPlanner" ({ cls := "WallPlanner", name := "shutting", desc := "(I)I" } : Jvm.MethodName) ({ cls := "WallPlanner", name := "shutting", desc := "(I)I" } : Jvm.MethodName)) ∈ TBL := tb_3 162 rfl rfl
theorem tw_486 : (Jvm.Cond.code ({ cls := "WallPlanner", name := "shutting", desc := "(I)I" } : Jvm.MethodName) prog_1_method_17_code (2 : Nat) (Option.some Jvm.ClassFile.FieldType.int)) ∈ TBL := tb_3 163 rfl rfl
theorem tw_487 : (Jvm.Cond.methodLink "WallPlannerLaw" (85 : Nat) ({ cls := "WallPlanner", name := "odd", desc := "(I)I" } : Jvm.MethodName)) ∈ TBL := tb_3 164 rfl rfl
theorem tw_488 : (Jvm.Cond.instanceMethod ({ cls := "WallPlanner", name := "odd", desc := "(I)I" } : Jvm.MethodName)) ∈ TBL := tb_3 165 rfl rfl
theorem tw_489 : (Jvm.Cond.selects "WallPlanner" ({ cls := "WallPlanner", name := "odd", desc := "(I)I" } : Jvm.MethodName) ({ cls := "WallPlanner", name := "odd", desc := "(I)I" } : Jvm.MethodName)) ∈ TBL := tb_3 166 rfl rfl
theorem tw_490 : (Jvm.Cond.code ({ cls := "WallPlanner", name := "odd", desc := "(I)I" } : Jvm.MethodName) prog_1_method_18_code (2 : Nat) (Option.some Jvm.ClassFile.FieldType.int)) ∈ TBL := tb_3 167 rfl rfl
theorem tw_491 : (Jvm.Cond.methodLink "WallPlanner" (226 : Nat) ({ cls := "WallPlanner$OddList", name := "gather", desc := "(LWallPlanner$Diary;LWallPlanner$Layout;I)V" } : Jvm.MethodName)) ∈ TBL := tb_3 168 rfl rfl
theorem tw_492 : (Jvm.Cond.instanceMethod ({ cls := "WallPlanner$OddList", name := "gather", desc := "(LWallPlanner$Diary;LWallPlanner$Layout;I)V" } : Jvm.MethodName)) ∈ TBL := tb_3 169 rfl rfl
theorem tw_493 : (Jvm.Cond.selects "WallPlanner$OddList" ({ cls := "WallPlanner$OddList", name := "gather", desc := "(LWallPlanner$Diary;LWallPlanner$Layout;I)V" } : Jvm.MethodName) ({ cls := "WallPlanner$OddList", name := "gather", desc := "(LWallPlanner$Diary;LWallPlanner$Layout;I)V" } : Jvm.MethodName)) ∈ TBL := tb_3 170 rfl rfl
theorem tw_494 : (Jvm.Cond.code ({ cls := "WallPlanner$OddList", name := "gather", desc := "(LWallPlanner$Diary;LWallPlanner$Layout;I)V" } : Jvm.MethodName) prog_7_method_2_code (6 : Nat) (Option.none : Option Jvm.ClassFile.FieldType)) ∈ TBL := tb_3 171 rfl rfl
theorem tw_495 : (Jvm.Cond.methodLink "WallPlanner$OddList" (41 : Nat) ({ cls := "WallPlanner$Layout", name := "isLet", desc := "(III)Z" } : Jvm.MethodName)) ∈ TBL := tb_3 175 rfl rfl
theorem tw_496 : (Jvm.Cond.methodLink "WallPlanner$OddList" (47 : Nat) ({ cls := "WallPlanner$OddList", name := "nearnessOf", desc := "(ILWallPlanner$Layout;)I" } : Jvm.MethodName)) ∈ TBL := tb_3 176 rfl rfl
theorem tw_497 : (Jvm.Cond.static ({ cls := "WallPlanner$OddList", name := "nearnessOf", desc := "(ILWallPlanner$Layout;)I" } : Jvm.MethodName)) ∈ TBL := tb_3 177 rfl rfl
theorem tw_498 : (Jvm.Cond.code ({ cls := "WallPlanner$OddList", name := "nearnessOf", desc := "(ILWallPlanner$Layout;)I" } : Jvm.MethodName) prog_7_method_3_code (6 : Nat) (Option.some Jvm.ClassFile.FieldType.int)) ∈ TBL := tb_3 178 rfl rfl
theorem tw_499 : (Jvm.Cond.methodLink "WallPlanner$OddList" (51 : Nat) ({ cls := "WallPlanner$Layout", name := "areIn", desc := "(II)Z" } : Jvm.MethodName)) ∈ TBL := tb_3 179 rfl rfl
theorem tw_500 : (Jvm.Cond.methodLink "WallPlanner$OddList" (55 : Nat) ({ cls := "WallPlanner$Layout", name := "doorsBetween", desc := "(II)I" } : Jvm.MethodName)) ∈ TBL := tb_3 180 rfl rfl
theorem tw_501 : (Jvm.Cond.methodLink "WallPlannerLaw" (89 : Nat) ({ cls := "WallPlanner", name := "oddTalk", desc := "(II)I" } : Jvm.MethodName)) ∈ TBL := tb_3 182 rfl rfl
theorem tw_502 : (Jvm.Cond.instanceMethod ({ cls := "WallPlanner", name := "oddTalk", desc := "(II)I" } : Jvm.MethodName)) ∈ TBL := tb_3 183 rfl rfl
theorem tw_503 : (Jvm.Cond.selects "WallPlanner" ({ cls := "WallPlanner", name := "oddTalk", desc := "(II)I" } : Jvm.MethodName) ({ cls := "WallPlanner", name := "oddTalk", desc := "(II)I" } : Jvm.MethodName)) ∈ TBL := tb_3 184 rfl rfl
theorem tw_504 : (Jvm.Cond.code ({ cls := "WallPlanner", name := "oddTalk", desc := "(II)I" } : Jvm.MethodName) prog_1_method_19_code (4 : Nat) (Option.some Jvm.ClassFile.FieldType.int)) ∈ TBL := tb_3 185 rfl rfl
theorem tw_505 : (Jvm.Cond.methodLink "WallPlannerLaw" (93 : Nat) ({ cls := "WallPlanner", name := "place", desc := "(II)I" } : Jvm.MethodName)) ∈ TBL := tb_3 186 rfl rfl
theorem tw_506 : (Jvm.Cond.instanceMethod ({ cls := "WallPlanner", name := "place", desc := "(II)I" } : Jvm.MethodName)) ∈ TBL := tb_3 187 rfl rfl
theorem tw_507 : (Jvm.Cond.selects "WallPlanner" ({ cls := "WallPlanner", name := "place", desc := "(II)I" } : Jvm.MethodName) ({ cls := "WallPlanner", name := "place", desc := "(II)I" } : Jvm.MethodName)) ∈ TBL := tb_3 188 rfl rfl
theorem tw_508 : (Jvm.Cond.code ({ cls := "WallPlanner", name := "place", desc := "(II)I" } : Jvm.MethodName) prog_1_method_20_code (4 : Nat) (Option.some Jvm.ClassFile.FieldType.int)) ∈ TBL := tb_3 189 rfl rfl
theorem tw_509 : (Jvm.Cond.methodLink "WallPlanner" (245 : Nat) ({ cls := "WallPlanner$Seeker", name := "seekRoomFor", desc := "(ILWallPlanner$Plan;LWallPlanner$Net;LWallPlanner$Law;LWallPlanner$Needs;)I" } : Jvm.MethodName)) ∈ TBL := tb_3 190 rfl rfl
theorem tw_510 : (Jvm.Cond.instanceMethod ({ cls := "WallPlanner$Seeker", name := "seekRoomFor", desc := "(ILWallPlanner$Plan;LWallPlanner$Net;LWallPlanner$Law;LWallPlanner$Needs;)I" } : Jvm.MethodName)) ∈ TBL := tb_3 191 rfl rfl
theorem tw_511 : (Jvm.Cond.selects "WallPlanner$Seeker" ({ cls := "WallPlanner$Seeker", name := "seekRoomFor", desc := "(ILWallPlanner$Plan;LWallPlanner$Net;LWallPlanner$Law;LWallPlanner$Needs;)I" } : Jvm.MethodName) ({ cls := "WallPlanner$Seeker", name := "seekRoomFor", desc := "(ILWallPlanner$Plan;LWallPlanner$Net;LWallPlanner$Law;LWallPlanner$Needs;)I" } : Jvm.MethodName)) ∈ TBL := tb_3 192 rfl rfl
theorem tw_512 : (Jvm.Cond.code ({ cls := "WallPlanner$Seeker", name := "seekRoomFor", desc := "(ILWallPlanner$Plan;LWallPlanner$Net;LWallPlanner$Law;LWallPlanner$Needs;)I" } : Jvm.MethodName) prog_9_method_4_code (9 : Nat) (Option.some Jvm.ClassFile.FieldType.int)) ∈ TBL := tb_3 193 rfl rfl
theorem tw_513 : (Jvm.Cond.constant "WallPlanner$Seeker" (76 : Nat) (2147483647 : Int32)) ∈ TBL := tb_3 194 rfl rfl
theorem tw_514 : (Jvm.Cond.methodLink "WallPlanner$Seeker" (82 : Nat) ({ cls := "WallPlanner$Layout", name := "copyRooms", desc := "([I)V" } : Jvm.MethodName)) ∈ TBL := tb_3 195 rfl rfl
theorem tw_515 : (Jvm.Cond.methodLink "WallPlanner$Seeker" (86 : Nat) ({ cls := "WallPlanner$Layout", name := "roomCount", desc := "()I" } : Jvm.MethodName)) ∈ TBL := tb_3 196 rfl rfl
theorem tw_516 : (Jvm.Cond.methodLink "WallPlannerLaw" (97 : Nat) ({ cls := "WallPlanner", name := "count", desc := "(I)I" } : Jvm.MethodName)) ∈ TBL := tb_3 197 rfl rfl
theorem tw_517 : (Jvm.Cond.instanceMethod ({ cls := "WallPlanner", name := "count", desc := "(I)I" } : Jvm.MethodName)) ∈ TBL := tb_3 198 rfl rfl
theorem tw_518 : (Jvm.Cond.selects "WallPlanner" ({ cls := "WallPlanner", name := "count", desc := "(I)I" } : Jvm.MethodName) ({ cls := "WallPlanner", name := "count", desc := "(I)I" } : Jvm.MethodName)) ∈ TBL := tb_3 199 rfl rfl
theorem tw_519 : (Jvm.Cond.code ({ cls := "WallPlanner", name := "count", desc := "(I)I" } : Jvm.MethodName) prog_1_method_21_code (2 : Nat) (Option.some Jvm.ClassFile.FieldType.int)) ∈ TBL := tb_3 200 rfl rfl
theorem tw_520 : (Jvm.Cond.methodLink "WallPlanner" (250 : Nat) ({ cls := "WallPlanner$Layout", name := "roomCount", desc := "()I" } : Jvm.MethodName)) ∈ TBL := tb_3 201 rfl rfl
theorem tw_521 : (Jvm.Cond.classLink "WallPlannerLaw" (10 : Nat) "WallPlannerModel") ∈ TBL := tb_3 202 rfl rfl
theorem tw_522 : (Jvm.Cond.instantiable "WallPlannerModel" (39 : Nat)) ∈ TBL := tb_3 203 rfl rfl
theorem tw_523 : (Jvm.Cond.methodLink "WallPlannerLaw" (12 : Nat) ({ cls := "WallPlannerModel", name := "<init>", desc := "()V" } : Jvm.MethodName)) ∈ TBL := tb_3 204 rfl rfl
theorem tw_524 : (Jvm.Cond.instanceMethod ({ cls := "WallPlannerModel", name := "<init>", desc := "()V" } : Jvm.MethodName)) ∈ TBL := tb_3 205 rfl rfl
theorem tw_525 : (Jvm.Cond.code ({ cls := "WallPlannerModel", name := "<init>", desc := "()V" } : Jvm.MethodName) prog_13_method_1_code (2 : Nat) (Option.none : Option Jvm.ClassFile.FieldType)) ∈ TBL := tb_3 206 rfl rfl
theorem tw_526 : (Jvm.Cond.methodLink "WallPlannerModel" (1 : Nat) ({ cls := "java/lang/Object", name := "<init>", desc := "()V" } : Jvm.MethodName)) ∈ TBL := tb_3 207 rfl rfl
theorem tw_527 : (Jvm.Cond.fieldLink "WallPlannerModel" (93 : Nat) "WallPlannerModel" "thrown" "I") ∈ TBL := tb_3 208 rfl rfl
theorem tw_528 : (Jvm.Cond.fieldLink "WallPlannerModel" (96 : Nat) "WallPlannerModel" "hosts" "I") ∈ TBL := tb_3 209 rfl rfl
theorem tw_529 : (Jvm.Cond.fieldLink "WallPlannerModel" (7 : Nat) "WallPlannerModel" "marks" "[I") ∈ TBL := tb_3 210 rfl rfl
theorem tw_530 : (Jvm.Cond.fieldLink "WallPlannerModel" (13 : Nat) "WallPlannerModel" "rooms" "[I") ∈ TBL := tb_3 211 rfl rfl
theorem tw_531 : (Jvm.Cond.fieldLink "WallPlannerModel" (110 : Nat) "WallPlannerModel" "talks" "I") ∈ TBL := tb_3 212 rfl rfl
theorem tw_532 : (Jvm.Cond.fieldLink "WallPlannerModel" (16 : Nat) "WallPlannerModel" "talkWay" "[I") ∈ TBL := tb_3 213 rfl rfl
theorem tw_533 : (Jvm.Cond.fieldLink "WallPlannerModel" (19 : Nat) "WallPlannerModel" "talkDay" "[I") ∈ TBL := tb_3 214 rfl rfl
theorem tw_534 : (Jvm.Cond.fieldLink "WallPlannerModel" (22 : Nat) "WallPlannerModel" "talkCount" "[I") ∈ TBL := tb_3 215 rfl rfl
theorem tw_535 : (Jvm.Cond.fieldLink "WallPlannerModel" (25 : Nat) "WallPlannerModel" "isMust" "[Z") ∈ TBL := tb_3 216 rfl rfl
theorem tw_536 : (Jvm.Cond.fieldLink "WallPlannerModel" (29 : Nat) "WallPlannerModel" "isBarred" "[Z") ∈ TBL := tb_3 217 rfl rfl
theorem tw_537 : (Jvm.Cond.fieldLink "WallPlannerModel" (32 : Nat) "WallPlannerModel" "window" "I") ∈ TBL := tb_3 218 rfl rfl
theorem tw_538 : (Jvm.Cond.fieldLink "WallPlannerModel" (36 : Nat) "WallPlannerModel" "least" "I") ∈ TBL := tb_3 219 rfl rfl
theorem tw_539 : (Jvm.Cond.fieldLink "WallPlannerModel" (113 : Nat) "WallPlannerModel" "strict" "Z") ∈ TBL := tb_3 220 rfl rfl
theorem tw_540 : (Jvm.Cond.fieldLink "WallPlannerModel" (39 : Nat) "WallPlannerModel" "rulePrice" "I") ∈ TBL := tb_3 221 rfl rfl
theorem tw_541 : (Jvm.Cond.fieldLink "WallPlannerModel" (42 : Nat) "WallPlannerModel" "strayPrice" "I") ∈ TBL := tb_3 222 rfl rfl
theorem tw_542 : (Jvm.Cond.fieldLink "WallPlannerModel" (45 : Nat) "WallPlannerModel" "isDue" "[Z") ∈ TBL := tb_3 223 rfl rfl
theorem tw_543 : (Jvm.Cond.fieldLink "WallPlannerModel" (48 : Nat) "WallPlannerModel" "dueWeight" "[I") ∈ TBL := tb_3 224 rfl rfl
theorem tw_544 : (Jvm.Cond.fieldLink "WallPlannerModel" (51 : Nat) "WallPlannerModel" "wasDue" "[Z") ∈ TBL := tb_3 225 rfl rfl
theorem tw_545 : (Jvm.Cond.fieldLink "WallPlannerModel" (54 : Nat) "WallPlannerModel" "wasWeight" "[I") ∈ TBL := tb_3 226 rfl rfl
theorem tw_546 : (Jvm.Cond.fieldLink "WallPlannerModel" (140 : Nat) "WallPlannerModel" "hasPlan" "Z") ∈ TBL := tb_3 227 rfl rfl
theorem tw_547 : (Jvm.Cond.fieldLink "WallPlannerModel" (143 : Nat) "WallPlannerModel" "planCost" "I") ∈ TBL := tb_3 228 rfl rfl
theorem tw_548 : (Jvm.Cond.fieldLink "WallPlannerModel" (146 : Nat) "WallPlannerModel" "planStrays" "I") ∈ TBL := tb_3 229 rfl rfl
theorem tw_549 : (Jvm.Cond.fieldLink "WallPlannerModel" (57 : Nat) "WallPlannerModel" "tried" "[I") ∈ TBL := tb_3 230 rfl rfl
theorem tw_550 : (Jvm.Cond.fieldLink "WallPlannerModel" (60 : Nat) "WallPlannerModel" "best" "[I") ∈ TBL := tb_3 231 rfl rfl
theorem tw_551 : (Jvm.Cond.fieldLink "WallPlannerModel" (63 : Nat) "WallPlannerModel" "isRule" "[Z") ∈ TBL := tb_3 232 rfl rfl
theorem tw_552 : (Jvm.Cond.fieldLink "WallPlannerModel" (66 : Nat) "WallPlannerModel" "wasRule" "[Z") ∈ TBL := tb_3 233 rfl rfl
theorem tw_553 : (Jvm.Cond.fieldLink "WallPlannerModel" (132 : Nat) "WallPlannerModel" "triedStrays" "I") ∈ TBL := tb_3 234 rfl rfl
theorem tw_554 : (Jvm.Cond.fieldLink "WallPlannerModel" (69 : Nat) "WallPlannerModel" "isShut" "[Z") ∈ TBL := tb_3 235 rfl rfl
theorem tw_555 : (Jvm.Cond.fieldLink "WallPlannerModel" (185 : Nat) "WallPlannerModel" "spreadAt" "I") ∈ TBL := tb_3 236 rfl rfl
theorem tw_556 : (Jvm.Cond.fieldLink "WallPlannerModel" (72 : Nat) "WallPlannerModel" "free" "[I") ∈ TBL := tb_3 237 rfl rfl
theorem tw_557 : (Jvm.Cond.fieldLink "WallPlannerModel" (75 : Nat) "WallPlannerModel" "freePrice" "[I") ∈ TBL := tb_3 238 rfl rfl
theorem tw_558 : (Jvm.Cond.fieldLink "WallPlannerModel" (78 : Nat) "WallPlannerModel" "freeNumber" "[I") ∈ TBL := tb_3 239 rfl rfl
theorem tw_559 : (Jvm.Cond.fieldLink "WallPlannerModel" (191 : Nat) "WallPlannerModel" "shutSet" "I") ∈ TBL := tb_4 0 rfl rfl
theorem tw_560 : (Jvm.Cond.fieldLink "WallPlannerModel" (81 : Nat) "WallPlannerModel" "shutNumber" "[I") ∈ TBL := tb_4 1 rfl rfl
theorem tw_561 : (Jvm.Cond.fieldLink "WallPlannerModel" (194 : Nat) "WallPlannerModel" "shutMany" "I") ∈ TBL := tb_4 2 rfl rfl
theorem tw_562 : (Jvm.Cond.fieldLink "WallPlannerModel" (84 : Nat) "WallPlannerModel" "oddWay" "[I") ∈ TBL := tb_4 3 rfl rfl
theorem tw_563 : (Jvm.Cond.fieldLink "WallPlannerModel" (87 : Nat) "WallPlannerModel" "oddCount" "[I") ∈ TBL := tb_4 4 rfl rfl
theorem tw_564 : (Jvm.Cond.fieldLink "WallPlannerModel" (90 : Nat) "WallPlannerModel" "oddNear" "[I") ∈ TBL := tb_4 5 rfl rfl
theorem tw_565 : (Jvm.Cond.fieldLink "WallPlannerModel" (197 : Nat) "WallPlannerModel" "oddMany" "I") ∈ TBL := tb_4 6 rfl rfl
theorem tw_566 : (Jvm.Cond.lays "WallPlannerModel" "WallPlannerModel" "thrown" "I") ∈ TBL := tb_4 7 rfl rfl
theorem tw_567 : (Jvm.Cond.lays "WallPlannerModel" "WallPlannerModel" "hosts" "I") ∈ TBL := tb_4 9 rfl rfl
theorem tw_568 : (Jvm.Cond.laysFinal "WallPlannerModel" "WallPlannerModel" "marks" "[I") ∈ TBL := tb_4 11 rfl rfl
theorem tw_569 : (Jvm.Cond.laysFinal "WallPlannerModel" "WallPlannerModel" "rooms" "[I") ∈ TBL := tb_4 13 rfl rfl
theorem tw_570 : (Jvm.Cond.lays "WallPlannerModel" "WallPlannerModel" "talks" "I") ∈ TBL := tb_4 15 rfl rfl
theorem tw_571 : (Jvm.Cond.laysFinal "WallPlannerModel" "WallPlannerModel" "talkWay" "[I") ∈ TBL := tb_4 17 rfl rfl
theorem tw_572 : (Jvm.Cond.laysFinal "WallPlannerModel" "WallPlannerModel" "talkDay" "[I") ∈ TBL := tb_4 19 rfl rfl
theorem tw_573 : (Jvm.Cond.laysFinal "WallPlannerModel" "WallPlannerModel" "talkCount" "[I") ∈ TBL := tb_4 21 rfl rfl
theorem tw_574 : (Jvm.Cond.laysFinal "WallPlannerModel" "WallPlannerModel" "isMust" "[Z") ∈ TBL := tb_4 23 rfl rfl
theorem tw_575 : (Jvm.Cond.laysFinal "WallPlannerModel" "WallPlannerModel" "isBarred" "[Z") ∈ TBL := tb_4 25 rfl rfl
theorem tw_576 : (Jvm.Cond.lays "WallPlannerModel" "WallPlannerModel" "window" "I") ∈ TBL := tb_4 27 rfl rfl
theorem tw_577 : (Jvm.Cond.lays "WallPlannerModel" "WallPlannerModel" "least" "I") ∈ TBL := tb_4 29 rfl rfl
theorem tw_578 : (Jvm.Cond.lays "WallPlannerModel" "WallPlannerModel" "strict" "Z") ∈ TBL := tb_4 31 rfl rfl
theorem tw_579 : (Jvm.Cond.lays "WallPlannerModel" "WallPlannerModel" "rulePrice" "I") ∈ TBL := tb_4 33 rfl rfl
theorem tw_580 : (Jvm.Cond.lays "WallPlannerModel" "WallPlannerModel" "strayPrice" "I") ∈ TBL := tb_4 35 rfl rfl
theorem tw_581 : (Jvm.Cond.laysFinal "WallPlannerModel" "WallPlannerModel" "isDue" "[Z") ∈ TBL := tb_4 37 rfl rfl
theorem tw_582 : (Jvm.Cond.laysFinal "WallPlannerModel" "WallPlannerModel" "dueWeight" "[I") ∈ TBL := tb_4 39 rfl rfl
theorem tw_583 : (Jvm.Cond.laysFinal "WallPlannerModel" "WallPlannerModel" "wasDue" "[Z") ∈ TBL := tb_4 41 rfl rfl
theorem tw_584 : (Jvm.Cond.laysFinal "WallPlannerModel" "WallPlannerModel" "wasWeight" "[I") ∈ TBL := tb_4 43 rfl rfl
theorem tw_585 : (Jvm.Cond.lays "WallPlannerModel" "WallPlannerModel" "hasPlan" "Z") ∈ TBL := tb_4 45 rfl rfl
theorem tw_586 : (Jvm.Cond.lays "WallPlannerModel" "WallPlannerModel" "planCost" "I") ∈ TBL := tb_4 47 rfl rfl
theorem tw_587 : (Jvm.Cond.lays "WallPlannerModel" "WallPlannerModel" "planStrays" "I") ∈ TBL := tb_4 49 rfl rfl
theorem tw_588 : (Jvm.Cond.laysFinal "WallPlannerModel" "WallPlannerModel" "tried" "[I") ∈ TBL := tb_4 51 rfl rfl
theorem tw_589 : (Jvm.Cond.laysFinal "WallPlannerModel" "WallPlannerModel" "best" "[I") ∈ TBL := tb_4 53 rfl rfl
theorem tw_590 : (Jvm.Cond.laysFinal "WallPlannerModel" "WallPlannerModel" "isRule" "[Z") ∈ TBL := tb_4 55 rfl rfl
theorem tw_591 : (Jvm.Cond.laysFinal "WallPlannerModel" "WallPlannerModel" "wasRule" "[Z") ∈ TBL := tb_4 57 rfl rfl
theorem tw_592 : (Jvm.Cond.lays "WallPlannerModel" "WallPlannerModel" "triedStrays" "I") ∈ TBL := tb_4 59 rfl rfl
theorem tw_593 : (Jvm.Cond.laysFinal "WallPlannerModel" "WallPlannerModel" "isShut" "[Z") ∈ TBL := tb_4 61 rfl rfl
theorem tw_594 : (Jvm.Cond.lays "WallPlannerModel" "WallPlannerModel" "spreadAt" "I") ∈ TBL := tb_4 63 rfl rfl
theorem tw_595 : (Jvm.Cond.laysFinal "WallPlannerModel" "WallPlannerModel" "free" "[I") ∈ TBL := tb_4 65 rfl rfl
theorem tw_596 : (Jvm.Cond.laysFinal "WallPlannerModel" "WallPlannerModel" "freePrice" "[I") ∈ TBL := tb_4 67 rfl rfl
theorem tw_597 : (Jvm.Cond.laysFinal "WallPlannerModel" "WallPlannerModel" "freeNumber" "[I") ∈ TBL := tb_4 69 rfl rfl
theorem tw_598 : (Jvm.Cond.lays "WallPlannerModel" "WallPlannerModel" "shutSet" "I") ∈ TBL := tb_4 71 rfl rfl
theorem tw_599 : (Jvm.Cond.laysFinal "WallPlannerModel" "WallPlannerModel" "shutNumber" "[I") ∈ TBL := tb_4 73 rfl rfl
theorem tw_600 : (Jvm.Cond.lays "WallPlannerModel" "WallPlannerModel" "shutMany" "I") ∈ TBL := tb_4 75 rfl rfl
theorem tw_601 : (Jvm.Cond.laysFinal "WallPlannerModel" "WallPlannerModel" "oddWay" "[I") ∈ TBL := tb_4 77 rfl rfl
theorem tw_602 : (Jvm.Cond.laysFinal "WallPlannerModel" "WallPlannerModel" "oddCount" "[I") ∈ TBL := tb_4 79 rfl rfl
theorem tw_603 : (Jvm.Cond.laysFinal "WallPlannerModel" "WallPlannerModel" "oddNear" "[I") ∈ TBL := tb_4 81 rfl rfl
theorem tw_604 : (Jvm.Cond.lays "WallPlannerModel" "WallPlannerModel" "oddMany" "I") ∈ TBL := tb_4 83 rfl rfl
theorem tw_605 : (Jvm.Cond.arrayClass Jvm.ClassFile.FieldType.boolean) ∈ TBL := tb_4 86 rfl rfl
theorem tw_606 : (Jvm.Cond.methodLink "WallPlannerLaw" (17 : Nat) ({ cls := "WallPlannerModel", name := "host", desc := "(I)I" } : Jvm.MethodName)) ∈ TBL := tb_4 87 rfl rfl
theorem tw_607 : (Jvm.Cond.instanceMethod ({ cls := "WallPlannerModel", name := "host", desc := "(I)I" } : Jvm.MethodName)) ∈ TBL := tb_4 88 rfl rfl
theorem tw_608 : (Jvm.Cond.selects "WallPlannerModel" ({ cls := "WallPlannerModel", name := "host", desc := "(I)I" } : Jvm.MethodName) ({ cls := "WallPlannerModel", name := "host", desc := "(I)I" } : Jvm.MethodName)) ∈ TBL := tb_4 89 rfl rfl
theorem tw_609 : (Jvm.Cond.code ({ cls := "WallPlannerModel", name := "host", desc := "(I)I" } : Jvm.MethodName) prog_13_method_6_code (2 : Nat) (Option.some Jvm.ClassFile.FieldType.int)) ∈ TBL := tb_4 90 rfl rfl
theorem tw_610 : (Jvm.Cond.methodLink "WallPlannerLaw" (22 : Nat) ({ cls := "WallPlannerModel", name := "talk", desc := "(IIIII)I" } : Jvm.MethodName)) ∈ TBL := tb_4 91 rfl rfl
theorem tw_611 : (Jvm.Cond.instanceMethod ({ cls := "WallPlannerModel", name := "talk", desc := "(IIIII)I" } : Jvm.MethodName)) ∈ TBL := tb_4 92 rfl rfl
theorem tw_612 : (Jvm.Cond.selects "WallPlannerModel" ({ cls := "WallPlannerModel", name := "talk", desc := "(IIIII)I" } : Jvm.MethodName) ({ cls := "WallPlannerModel", name := "talk", desc := "(IIIII)I" } : Jvm.MethodName)) ∈ TBL := tb_4 93 rfl rfl
theorem tw_613 : (Jvm.Cond.code ({ cls := "WallPlannerModel", name := "talk", desc := "(IIIII)I" } : Jvm.MethodName) prog_13_method_7_code (7 : Nat) (Option.some Jvm.ClassFile.FieldType.int)) ∈ TBL := tb_4 94 rfl rfl
theorem tw_614 : (Jvm.Cond.methodLink "WallPlannerModel" (103 : Nat) ({ cls := "WallPlannerModel", name := "way", desc := "(III)I" } : Jvm.MethodName)) ∈ TBL := tb_4 95 rfl rfl
theorem tw_615 : (Jvm.Cond.instanceMethod ({ cls := "WallPlannerModel", name := "way", desc := "(III)I" } : Jvm.MethodName)) ∈ TBL := tb_4 97 rfl rfl
theorem tw_616 : (Jvm.Cond.code ({ cls := "WallPlannerModel", name := "way", desc := "(III)I" } : Jvm.MethodName) prog_13_method_4_code (4 : Nat) (Option.some Jvm.ClassFile.FieldType.int)) ∈ TBL := tb_4 98 rfl rfl
theorem tw_617 : (Jvm.Cond.methodLink "WallPlannerModel" (99 : Nat) ({ cls := "WallPlannerModel", name := "isHost", desc := "(I)Z" } : Jvm.MethodName)) ∈ TBL := tb_4 99 rfl rfl
theorem tw_618 : (Jvm.Cond.instanceMethod ({ cls := "WallPlannerModel", name := "isHost", desc := "(I)Z" } : Jvm.MethodName)) ∈ TBL := tb_4 101 rfl rfl
theorem tw_619 : (Jvm.Cond.code ({ cls := "WallPlannerModel", name := "isHost", desc := "(I)Z" } : Jvm.MethodName) prog_13_method_3_code (2 : Nat) (Option.some Jvm.ClassFile.FieldType.boolean)) ∈ TBL := tb_4 102 rfl rfl
theorem tw_620 : (Jvm.Cond.methodLink "WallPlannerModel" (107 : Nat) ({ cls := "WallPlannerModel", name := "isDay", desc := "(I)Z" } : Jvm.MethodName)) ∈ TBL := tb_4 103 rfl rfl
theorem tw_621 : (Jvm.Cond.static ({ cls := "WallPlannerModel", name := "isDay", desc := "(I)Z" } : Jvm.MethodName)) ∈ TBL := tb_4 104 rfl rfl
theorem tw_622 : (Jvm.Cond.code ({ cls := "WallPlannerModel", name := "isDay", desc := "(I)Z" } : Jvm.MethodName) prog_13_method_5_code (1 : Nat) (Option.some Jvm.ClassFile.FieldType.boolean)) ∈ TBL := tb_4 105 rfl rfl
theorem tw_623 : (Jvm.Cond.methodLink "WallPlannerLaw" (27 : Nat) ({ cls := "WallPlannerModel", name := "must", desc := "(IIIZ)Z" } : Jvm.MethodName)) ∈ TBL := tb_4 106 rfl rfl
theorem tw_624 : (Jvm.Cond.instanceMethod ({ cls := "WallPlannerModel", name := "must", desc := "(IIIZ)Z" } : Jvm.MethodName)) ∈ TBL := tb_4 107 rfl rfl
theorem tw_625 : (Jvm.Cond.selects "WallPlannerModel" ({ cls := "WallPlannerModel", name := "must", desc := "(IIIZ)Z" } : Jvm.MethodName) ({ cls := "WallPlannerModel", name := "must", desc := "(IIIZ)Z" } : Jvm.MethodName)) ∈ TBL := tb_4 108 rfl rfl
theorem tw_626 : (Jvm.Cond.code ({ cls := "WallPlannerModel", name := "must", desc := "(IIIZ)Z" } : Jvm.MethodName) prog_13_method_8_code (6 : Nat) (Option.some Jvm.ClassFile.FieldType.boolean)) ∈ TBL := tb_4 109 rfl rfl
theorem tw_627 : (Jvm.Cond.methodLink "WallPlannerLaw" (31 : Nat) ({ cls := "WallPlannerModel", name := "bar", desc := "(IIIZ)Z" } : Jvm.MethodName)) ∈ TBL := tb_4 110 rfl rfl
theorem tw_628 : (Jvm.Cond.instanceMethod ({ cls := "WallPlannerModel", name := "bar", desc := "(IIIZ)Z" } : Jvm.MethodName)) ∈ TBL := tb_4 111 rfl rfl
theorem tw_629 : (Jvm.Cond.selects "WallPlannerModel" ({ cls := "WallPlannerModel", name := "bar", desc := "(IIIZ)Z" } : Jvm.MethodName) ({ cls := "WallPlannerModel", name := "bar", desc := "(IIIZ)Z" } : Jvm.MethodName)) ∈ TBL := tb_4 112 rfl rfl
theorem tw_630 : (Jvm.Cond.code ({ cls := "WallPlannerModel", name := "bar", desc := "(IIIZ)Z" } : Jvm.MethodName) prog_13_method_9_code (6 : Nat) (Option.some Jvm.ClassFile.FieldType.boolean)) ∈ TBL := tb_4 113 rfl rfl
theorem tw_631 : (Jvm.Cond.methodLink "WallPlannerLaw" (36 : Nat) ({ cls := "WallPlannerModel", name := "law", desc := "(IIZ)Z" } : Jvm.MethodName)) ∈ TBL := tb_4 114 rfl rfl
theorem tw_632 : (Jvm.Cond.instanceMethod ({ cls := "WallPlannerModel", name := "law", desc := "(IIZ)Z" } : Jvm.MethodName)) ∈ TBL := tb_4 115 rfl rfl
theorem tw_633 : (Jvm.Cond.selects "WallPlannerModel" ({ cls := "WallPlannerModel", name := "law", desc := "(IIZ)Z" } : Jvm.MethodName) ({ cls := "WallPlannerModel", name := "law", desc := "(IIZ)Z" } : Jvm.MethodName)) ∈ TBL := tb_4 116 rfl rfl
theorem tw_634 : (Jvm.Cond.code ({ cls := "WallPlannerModel", name := "law", desc := "(IIZ)Z" } : Jvm.MethodName) prog_13_method_10_code (4 : Nat) (Option.some Jvm.ClassFile.FieldType.boolean)) ∈ TBL := tb_4 117 rfl rfl
theorem tw_635 : (Jvm.Cond.methodLink "WallPlannerLaw" (41 : Nat) ({ cls := "WallPlannerModel", name := "prices", desc := "(II)Z" } : Jvm.MethodName)) ∈ TBL := tb_4 118 rfl rfl
theorem tw_636 : (Jvm.Cond.instanceMethod ({ cls := "WallPlannerModel", name := "prices", desc := "(II)Z" } : Jvm.MethodName)) ∈ TBL := tb_4 119 rfl rfl
theorem tw_637 : (Jvm.Cond.selects "WallPlannerModel" ({ cls := "WallPlannerModel", name := "prices", desc := "(II)Z" } : Jvm.MethodName) ({ cls := "WallPlannerModel", name := "prices", desc := "(II)Z" } : Jvm.MethodName)) ∈ TBL := tb_4 120 rfl rfl
theorem tw_638 : (Jvm.Cond.code ({ cls := "WallPlannerModel", name := "prices", desc := "(II)Z" } : Jvm.MethodName) prog_13_method_11_code (3 : Nat) (Option.some Jvm.ClassFile.FieldType.boolean)) ∈ TBL := tb_4 121 rfl rfl
theorem tw_639 : (Jvm.Cond.methodLink "WallPlannerLaw" (46 : Nat) ({ cls := "WallPlannerModel", name := "weight", desc := "(IIII)I" } : Jvm.MethodName)) ∈ TBL := tb_4 122 rfl rfl
theorem tw_640 : (Jvm.Cond.instanceMethod ({ cls := "WallPlannerModel", name := "weight", desc := "(IIII)I" } : Jvm.MethodName)) ∈ TBL := tb_4 123 rfl rfl
theorem tw_641 : (Jvm.Cond.selects "WallPlannerModel" ({ cls := "WallPlannerModel", name := "weight", desc := "(IIII)I" } : Jvm.MethodName) ({ cls := "WallPlannerModel", name := "weight", desc := "(IIII)I" } : Jvm.MethodName)) ∈ TBL := tb_4 124 rfl rfl
theorem tw_642 : (Jvm.Cond.code ({ cls := "WallPlannerModel", name := "weight", desc := "(IIII)I" } : Jvm.MethodName) prog_13_method_14_code (6 : Nat) (Option.some Jvm.ClassFile.FieldType.int)) ∈ TBL := tb_4 125 rfl rfl
theorem tw_643 : (Jvm.Cond.methodLink "WallPlannerModel" (117 : Nat) ({ cls := "WallPlannerModel", name := "weightOf", desc := "(II)I" } : Jvm.MethodName)) ∈ TBL := tb_4 126 rfl rfl
theorem tw_644 : (Jvm.Cond.instanceMethod ({ cls := "WallPlannerModel", name := "weightOf", desc := "(II)I" } : Jvm.MethodName)) ∈ TBL := tb_4 128 rfl rfl
theorem tw_645 : (Jvm.Cond.code ({ cls := "WallPlannerModel", name := "weightOf", desc := "(II)I" } : Jvm.MethodName) prog_13_method_12_code (5 : Nat) (Option.some Jvm.ClassFile.FieldType.int)) ∈ TBL := tb_4 129 rfl rfl
theorem tw_646 : (Jvm.Cond.methodLink "WallPlannerLaw" (50 : Nat) ({ cls := "WallPlannerModel", name := "needed", desc := "(IIII)I" } : Jvm.MethodName)) ∈ TBL := tb_4 130 rfl rfl
theorem tw_647 : (Jvm.Cond.instanceMethod ({ cls := "WallPlannerModel", name := "needed", desc := "(IIII)I" } : Jvm.MethodName)) ∈ TBL := tb_4 131 rfl rfl
theorem tw_648 : (Jvm.Cond.selects "WallPlannerModel" ({ cls := "WallPlannerModel", name := "needed", desc := "(IIII)I" } : Jvm.MethodName) ({ cls := "WallPlannerModel", name := "needed", desc := "(IIII)I" } : Jvm.MethodName)) ∈ TBL := tb_4 132 rfl rfl
theorem tw_649 : (Jvm.Cond.code ({ cls := "WallPlannerModel", name := "needed", desc := "(IIII)I" } : Jvm.MethodName) prog_13_method_15_code (6 : Nat) (Option.some Jvm.ClassFile.FieldType.int)) ∈ TBL := tb_4 133 rfl rfl
theorem tw_650 : (Jvm.Cond.methodLink "WallPlannerModel" (121 : Nat) ({ cls := "WallPlannerModel", name := "isNeeded", desc := "(II)Z" } : Jvm.MethodName)) ∈ TBL := tb_4 134 rfl rfl
theorem tw_651 : (Jvm.Cond.instanceMethod ({ cls := "WallPlannerModel", name := "isNeeded", desc := "(II)Z" } : Jvm.MethodName)) ∈ TBL := tb_4 136 rfl rfl
theorem tw_652 : (Jvm.Cond.code ({ cls := "WallPlannerModel", name := "isNeeded", desc := "(II)Z" } : Jvm.MethodName) prog_13_method_13_code (3 : Nat) (Option.some Jvm.ClassFile.FieldType.boolean)) ∈ TBL := tb_4 137 rfl rfl
theorem tw_653 : (Jvm.Cond.methodLink "WallPlannerLaw" (54 : Nat) ({ cls := "WallPlannerModel", name := "plan", desc := "(I)I" } : Jvm.MethodName)) ∈ TBL := tb_4 138 rfl rfl
theorem tw_654 : (Jvm.Cond.instanceMethod ({ cls := "WallPlannerModel", name := "plan", desc := "(I)I" } : Jvm.MethodName)) ∈ TBL := tb_4 139 rfl rfl
theorem tw_655 : (Jvm.Cond.selects "WallPlannerModel" ({ cls := "WallPlannerModel", name := "plan", desc := "(I)I" } : Jvm.MethodName) ({ cls := "WallPlannerModel", name := "plan", desc := "(I)I" } : Jvm.MethodName)) ∈ TBL := tb_4 140 rfl rfl
theorem tw_656 : (Jvm.Cond.code ({ cls := "WallPlannerModel", name := "plan", desc := "(I)I" } : Jvm.MethodName) prog_13_method_23_code (6 : Nat) (Option.some Jvm.ClassFile.FieldType.int)) ∈ TBL := tb_4 141 rfl rfl
theorem tw_657 : (Jvm.Cond.methodLink "WallPlannerModel" (149 : Nat) ({ cls := "WallPlannerModel", name := "dues", desc := "(I)V" } : Jvm.MethodName)) ∈ TBL := tb_4 142 rfl rfl
theorem tw_658 : (Jvm.Cond.instanceMethod ({ cls := "WallPlannerModel", name := "dues", desc := "(I)V" } : Jvm.MethodName)) ∈ TBL := tb_4 144 rfl rfl
theorem tw_659 : (Jvm.Cond.code ({ cls := "WallPlannerModel", name := "dues", desc := "(I)V" } : Jvm.MethodName) prog_13_method_16_code (4 : Nat) (Option.none : Option Jvm.ClassFile.FieldType)) ∈ TBL := tb_4 145 rfl rfl
theorem tw_660 : (Jvm.Cond.methodLink "WallPlannerModel" (153 : Nat) ({ cls := "WallPlannerModel", name := "mixes", desc := "()Z" } : Jvm.MethodName)) ∈ TBL := tb_4 146 rfl rfl
theorem tw_661 : (Jvm.Cond.instanceMethod ({ cls := "WallPlannerModel", name := "mixes", desc := "()Z" } : Jvm.MethodName)) ∈ TBL := tb_4 148 rfl rfl
theorem tw_662 : (Jvm.Cond.code ({ cls := "WallPlannerModel", name := "mixes", desc := "()Z" } : Jvm.MethodName) prog_13_method_20_code (3 : Nat) (Option.some Jvm.ClassFile.FieldType.boolean)) ∈ TBL := tb_4 149 rfl rfl
theorem tw_663 : (Jvm.Cond.methodLink "WallPlannerModel" (157 : Nat) ({ cls := "WallPlannerModel", name := "costs", desc := "()I" } : Jvm.MethodName)) ∈ TBL := tb_4 150 rfl rfl
theorem tw_664 : (Jvm.Cond.instanceMethod ({ cls := "WallPlannerModel", name := "costs", desc := "()I" } : Jvm.MethodName)) ∈ TBL := tb_4 152 rfl rfl
theorem tw_665 : (Jvm.Cond.code ({ cls := "WallPlannerModel", name := "costs", desc := "()I" } : Jvm.MethodName) prog_13_method_19_code (4 : Nat) (Option.some Jvm.ClassFile.FieldType.int)) ∈ TBL := tb_4 153 rfl rfl
theorem tw_666 : (Jvm.Cond.methodLink "WallPlannerModel" (125 : Nat) ({ cls := "WallPlannerModel", name := "isTried", desc := "(I)Z" } : Jvm.MethodName)) ∈ TBL := tb_4 154 rfl rfl
theorem tw_667 : (Jvm.Cond.instanceMethod ({ cls := "WallPlannerModel", name := "isTried", desc := "(I)Z" } : Jvm.MethodName)) ∈ TBL := tb_4 156 rfl rfl
theorem tw_668 : (Jvm.Cond.code ({ cls := "WallPlannerModel", name := "isTried", desc := "(I)Z" } : Jvm.MethodName) prog_13_method_18_code (2 : Nat) (Option.some Jvm.ClassFile.FieldType.boolean)) ∈ TBL := tb_4 157 rfl rfl
theorem tw_669 : (Jvm.Cond.methodLink "WallPlannerModel" (128 : Nat) ({ cls := "WallPlannerModel", name := "between", desc := "(I)I" } : Jvm.MethodName)) ∈ TBL := tb_4 158 rfl rfl
theorem tw_670 : (Jvm.Cond.instanceMethod ({ cls := "WallPlannerModel", name := "between", desc := "(I)I" } : Jvm.MethodName)) ∈ TBL := tb_4 160 rfl rfl
theorem tw_671 : (Jvm.Cond.code ({ cls := "WallPlannerModel", name := "between", desc := "(I)I" } : Jvm.MethodName) prog_13_method_17_code (2 : Nat) (Option.some Jvm.ClassFile.FieldType.int)) ∈ TBL := tb_4 161 rfl rfl
theorem tw_672 : (Jvm.Cond.methodLink "WallPlannerModel" (161 : Nat) ({ cls := "WallPlannerModel", name := "goesOn", desc := "()Z" } : Jvm.MethodName)) ∈ TBL := tb_4 162 rfl rfl
theorem tw_673 : (Jvm.Cond.instanceMethod ({ cls := "WallPlannerModel", name := "goesOn", desc := "()Z" } : Jvm.MethodName)) ∈ TBL := tb_4 164 rfl rfl
theorem tw_674 : (Jvm.Cond.code ({ cls := "WallPlannerModel", name := "goesOn", desc := "()Z" } : Jvm.MethodName) prog_13_method_21_code (4 : Nat) (Option.some Jvm.ClassFile.FieldType.boolean)) ∈ TBL := tb_4 165 rfl rfl
theorem tw_675 : (Jvm.Cond.methodLink "WallPlannerModel" (135 : Nat) ({ cls := "java/lang/Math", name := "max", desc := "(II)I" } : Jvm.MethodName)) ∈ TBL := tb_4 166 rfl rfl
theorem tw_676 : (Jvm.Cond.methodLink "WallPlannerModel" (164 : Nat) ({ cls := "WallPlannerModel", name := "comes", desc := "(I)V" } : Jvm.MethodName)) ∈ TBL := tb_4 167 rfl rfl
theorem tw_677 : (Jvm.Cond.instanceMethod ({ cls := "WallPlannerModel", name := "comes", desc := "(I)V" } : Jvm.MethodName)) ∈ TBL := tb_4 169 rfl rfl
theorem tw_678 : (Jvm.Cond.code ({ cls := "WallPlannerModel", name := "comes", desc := "(I)V" } : Jvm.MethodName) prog_13_method_22_code (3 : Nat) (Option.none : Option Jvm.ClassFile.FieldType)) ∈ TBL := tb_4 170 rfl rfl
theorem tw_679 : (Jvm.Cond.methodLink "WallPlannerLaw" (58 : Nat) ({ cls := "WallPlannerModel", name := "room", desc := "(I)I" } : Jvm.MethodName)) ∈ TBL := tb_4 171 rfl rfl
theorem tw_680 : (Jvm.Cond.instanceMethod ({ cls := "WallPlannerModel", name := "room", desc := "(I)I" } : Jvm.MethodName)) ∈ TBL := tb_4 172 rfl rfl
theorem tw_681 : (Jvm.Cond.selects "WallPlannerModel" ({ cls := "WallPlannerModel", name := "room", desc := "(I)I" } : Jvm.MethodName) ({ cls := "WallPlannerModel", name := "room", desc := "(I)I" } : Jvm.MethodName)) ∈ TBL := tb_4 173 rfl rfl
theorem tw_682 : (Jvm.Cond.code ({ cls := "WallPlannerModel", name := "room", desc := "(I)I" } : Jvm.MethodName) prog_13_method_24_code (2 : Nat) (Option.some Jvm.ClassFile.FieldType.int)) ∈ TBL := tb_4 174 rfl rfl
theorem tw_683 : (Jvm.Cond.methodLink "WallPlannerLaw" (63 : Nat) ({ cls := "WallPlannerModel", name := "rule", desc := "(II)I" } : Jvm.MethodName)) ∈ TBL := tb_4 175 rfl rfl
theorem tw_684 : (Jvm.Cond.instanceMethod ({ cls := "WallPlannerModel", name := "rule", desc := "(II)I" } : Jvm.MethodName)) ∈ TBL := tb_4 176 rfl rfl
theorem tw_685 : (Jvm.Cond.selects "WallPlannerModel" ({ cls := "WallPlannerModel", name := "rule", desc := "(II)I" } : Jvm.MethodName) ({ cls := "WallPlannerModel", name := "rule", desc := "(II)I" } : Jvm.MethodName)) ∈ TBL := tb_4 177 rfl rfl
theorem tw_686 : (Jvm.Cond.code ({ cls := "WallPlannerModel", name := "rule", desc := "(II)I" } : Jvm.MethodName) prog_13_method_29_code (7 : Nat) (Option.some Jvm.ClassFile.FieldType.int)) ∈ TBL := tb_4 178 rfl rfl
theorem tw_687 : (Jvm.Cond.methodLink "WallPlannerModel" (170 : Nat) ({ cls := "WallPlannerModel", name := "ruleAt", desc := "(I)I" } : Jvm.MethodName)) ∈ TBL := tb_4 179 rfl rfl
theorem tw_688 : (Jvm.Cond.instanceMethod ({ cls := "WallPlannerModel", name := "ruleAt", desc := "(I)I" } : Jvm.MethodName)) ∈ TBL := tb_4 181 rfl rfl
theorem tw_689 : (Jvm.Cond.code ({ cls := "WallPlannerModel", name := "ruleAt", desc := "(I)I" } : Jvm.MethodName) prog_13_method_26_code (4 : Nat) (Option.some Jvm.ClassFile.FieldType.int)) ∈ TBL := tb_4 182 rfl rfl
theorem tw_690 : (Jvm.Cond.methodLink "WallPlannerModel" (167 : Nat) ({ cls := "WallPlannerModel", name := "isBy", desc := "(II)Z" } : Jvm.MethodName)) ∈ TBL := tb_4 183 rfl rfl
theorem tw_691 : (Jvm.Cond.instanceMethod ({ cls := "WallPlannerModel", name := "isBy", desc := "(II)Z" } : Jvm.MethodName)) ∈ TBL := tb_4 185 rfl rfl
theorem tw_692 : (Jvm.Cond.code ({ cls := "WallPlannerModel", name := "isBy", desc := "(II)Z" } : Jvm.MethodName) prog_13_method_27_code (5 : Nat) (Option.some Jvm.ClassFile.FieldType.boolean)) ∈ TBL := tb_4 186 rfl rfl
theorem tw_693 : (Jvm.Cond.methodLink "WallPlannerModel" (173 : Nat) ({ cls := "WallPlannerModel", name := "canShut", desc := "(I)Z" } : Jvm.MethodName)) ∈ TBL := tb_4 187 rfl rfl
theorem tw_694 : (Jvm.Cond.instanceMethod ({ cls := "WallPlannerModel", name := "canShut", desc := "(I)Z" } : Jvm.MethodName)) ∈ TBL := tb_4 189 rfl rfl
theorem tw_695 : (Jvm.Cond.code ({ cls := "WallPlannerModel", name := "canShut", desc := "(I)Z" } : Jvm.MethodName) prog_13_method_28_code (3 : Nat) (Option.some Jvm.ClassFile.FieldType.boolean)) ∈ TBL := tb_4 190 rfl rfl
theorem tw_696 : (Jvm.Cond.methodLink "WallPlannerLaw" (68 : Nat) ({ cls := "WallPlannerModel", name := "lets", desc := "(III)I" } : Jvm.MethodName)) ∈ TBL := tb_4 191 rfl rfl
theorem tw_697 : (Jvm.Cond.instanceMethod ({ cls := "WallPlannerModel", name := "lets", desc := "(III)I" } : Jvm.MethodName)) ∈ TBL := tb_4 192 rfl rfl
theorem tw_698 : (Jvm.Cond.selects "WallPlannerModel" ({ cls := "WallPlannerModel", name := "lets", desc := "(III)I" } : Jvm.MethodName) ({ cls := "WallPlannerModel", name := "lets", desc := "(III)I" } : Jvm.MethodName)) ∈ TBL := tb_4 193 rfl rfl
theorem tw_699 : (Jvm.Cond.code ({ cls := "WallPlannerModel", name := "lets", desc := "(III)I" } : Jvm.MethodName) prog_13_method_31_code (5 : Nat) (Option.some Jvm.ClassFile.FieldType.int)) ∈ TBL := tb_4 194 rfl rfl
theorem tw_700 : (Jvm.Cond.methodLink "WallPlannerModel" (176 : Nat) ({ cls := "WallPlannerModel", name := "letsBy", desc := "(I)I" } : Jvm.MethodName)) ∈ TBL := tb_4 195 rfl rfl
theorem tw_701 : (Jvm.Cond.instanceMethod ({ cls := "WallPlannerModel", name := "letsBy", desc := "(I)I" } : Jvm.MethodName)) ∈ TBL := tb_4 197 rfl rfl
theorem tw_702 : (Jvm.Cond.code ({ cls := "WallPlannerModel", name := "letsBy", desc := "(I)I" } : Jvm.MethodName) prog_13_method_30_code (4 : Nat) (Option.some Jvm.ClassFile.FieldType.int)) ∈ TBL := tb_4 198 rfl rfl
theorem tw_703 : (Jvm.Cond.methodLink "WallPlannerLaw" (72 : Nat) ({ cls := "WallPlannerModel", name := "reach", desc := "(I)I" } : Jvm.MethodName)) ∈ TBL := tb_4 199 rfl rfl
theorem tw_704 : (Jvm.Cond.instanceMethod ({ cls := "WallPlannerModel", name := "reach", desc := "(I)I" } : Jvm.MethodName)) ∈ TBL := tb_4 200 rfl rfl
theorem tw_705 : (Jvm.Cond.selects "WallPlannerModel" ({ cls := "WallPlannerModel", name := "reach", desc := "(I)I" } : Jvm.MethodName) ({ cls := "WallPlannerModel", name := "reach", desc := "(I)I" } : Jvm.MethodName)) ∈ TBL := tb_4 201 rfl rfl
theorem tw_706 : (Jvm.Cond.code ({ cls := "WallPlannerModel", name := "reach", desc := "(I)I" } : Jvm.MethodName) prog_13_method_34_code (2 : Nat) (Option.some Jvm.ClassFile.FieldType.int)) ∈ TBL := tb_4 202 rfl rfl
theorem tw_707 : (Jvm.Cond.methodLink "WallPlannerModel" (179 : Nat) ({ cls := "WallPlannerModel", name := "opens", desc := "()V" } : Jvm.MethodName)) ∈ TBL := tb_4 203 rfl rfl
theorem tw_708 : (Jvm.Cond.instanceMethod ({ cls := "WallPlannerModel", name := "opens", desc := "()V" } : Jvm.MethodName)) ∈ TBL := tb_4 205 rfl rfl
theorem tw_709 : (Jvm.Cond.code ({ cls := "WallPlannerModel", name := "opens", desc := "()V" } : Jvm.MethodName) prog_13_method_33_code (2 : Nat) (Option.none : Option Jvm.ClassFile.FieldType)) ∈ TBL := tb_4 206 rfl rfl
theorem tw_710 : (Jvm.Cond.methodLink "WallPlannerModel" (182 : Nat) ({ cls := "WallPlannerModel", name := "reachOf", desc := "(I)I" } : Jvm.MethodName)) ∈ TBL := tb_4 207 rfl rfl
theorem tw_711 : (Jvm.Cond.instanceMethod ({ cls := "WallPlannerModel", name := "reachOf", desc := "(I)I" } : Jvm.MethodName)) ∈ TBL := tb_4 209 rfl rfl
theorem tw_712 : (Jvm.Cond.code ({ cls := "WallPlannerModel", name := "reachOf", desc := "(I)I" } : Jvm.MethodName) prog_13_method_32_code (6 : Nat) (Option.some Jvm.ClassFile.FieldType.int)) ∈ TBL := tb_4 210 rfl rfl
theorem tw_713 : (Jvm.Cond.methodLink "WallPlannerLaw" (76 : Nat) ({ cls := "WallPlannerModel", name := "spread", desc := "(I)I" } : Jvm.MethodName)) ∈ TBL := tb_4 211 rfl rfl
theorem tw_714 : (Jvm.Cond.instanceMethod ({ cls := "WallPlannerModel", name := "spread", desc := "(I)I" } : Jvm.MethodName)) ∈ TBL := tb_4 212 rfl rfl
theorem tw_715 : (Jvm.Cond.selects "WallPlannerModel" ({ cls := "WallPlannerModel", name := "spread", desc := "(I)I" } : Jvm.MethodName) ({ cls := "WallPlannerModel", name := "spread", desc := "(I)I" } : Jvm.MethodName)) ∈ TBL := tb_4 213 rfl rfl
theorem tw_716 : (Jvm.Cond.code ({ cls := "WallPlannerModel", name := "spread", desc := "(I)I" } : Jvm.MethodName) prog_13_method_36_code (3 : Nat) (Option.some Jvm.ClassFile.FieldType.int)) ∈ TBL := tb_4 214 rfl rfl
theorem tw_717 : (Jvm.Cond.methodLink "WallPlannerModel" (188 : Nat) ({ cls := "WallPlannerModel", name := "spreads", desc := "()I" } : Jvm.MethodName)) ∈ TBL := tb_4 215 rfl rfl
theorem tw_718 : (Jvm.Cond.instanceMethod ({ cls := "WallPlannerModel", name := "spreads", desc := "()I" } : Jvm.MethodName)) ∈ TBL := tb_4 217 rfl rfl
theorem tw_719 : (Jvm.Cond.code ({ cls := "WallPlannerModel", name := "spreads", desc := "()I" } : Jvm.MethodName) prog_13_method_35_code (4 : Nat) (Option.some Jvm.ClassFile.FieldType.int)) ∈ TBL := tb_4 218 rfl rfl
theorem tw_720 : (Jvm.Cond.methodLink "WallPlannerLaw" (80 : Nat) ({ cls := "WallPlannerModel", name := "shut", desc := "(I)I" } : Jvm.MethodName)) ∈ TBL := tb_4 219 rfl rfl
theorem tw_721 : (Jvm.Cond.instanceMethod ({ cls := "WallPlannerModel", name := "shut", desc := "(I)I" } : Jvm.MethodName)) ∈ TBL := tb_4 220 rfl rfl
theorem tw_722 : (Jvm.Cond.selects "WallPlannerModel" ({ cls := "WallPlannerModel", name := "shut", desc := "(I)I" } : Jvm.MethodName) ({ cls := "WallPlannerModel", name := "shut", desc := "(I)I" } : Jvm.MethodName)) ∈ TBL := tb_4 221 rfl rfl
theorem tw_723 : (Jvm.Cond.code ({ cls := "WallPlannerModel", name := "shut", desc := "(I)I" } : Jvm.MethodName) prog_13_method_37_code (8 : Nat) (Option.some Jvm.ClassFile.FieldType.int)) ∈ TBL := tb_4 222 rfl rfl
theorem tw_724 : (Jvm.Cond.methodLink "WallPlannerLaw" (84 : Nat) ({ cls := "WallPlannerModel", name := "shutting", desc := "(I)I" } : Jvm.MethodName)) ∈ TBL := tb_4 223 rfl rfl
theorem tw_725 : (Jvm.Cond.instanceMethod ({ cls := "WallPlannerModel", name := "shutting", desc := "(I)I" } : Jvm.MethodName)) ∈ TBL := tb_4 224 rfl rfl
theorem tw_726 : (Jvm.Cond.selects "WallPlannerModel" ({ cls := "WallPlannerModel", name := "shutting", desc := "(I)I" } : Jvm.MethodName) ({ cls := "WallPlannerModel", name := "shutting", desc := "(I)I" } : Jvm.MethodName)) ∈ TBL := tb_4 225 rfl rfl
theorem tw_727 : (Jvm.Cond.code ({ cls := "WallPlannerModel", name := "shutting", desc := "(I)I" } : Jvm.MethodName) prog_13_method_38_code (2 : Nat) (Option.some Jvm.ClassFile.FieldType.int)) ∈ TBL := tb_4 226 rfl rfl
theorem tw_728 : (Jvm.Cond.methodLink "WallPlannerLaw" (88 : Nat) ({ cls := "WallPlannerModel", name := "odd", desc := "(I)I" } : Jvm.MethodName)) ∈ TBL := tb_4 227 rfl rfl
theorem tw_729 : (Jvm.Cond.instanceMethod ({ cls := "WallPlannerModel", name := "odd", desc := "(I)I" } : Jvm.MethodName)) ∈ TBL := tb_4 228 rfl rfl
theorem tw_730 : (Jvm.Cond.selects "WallPlannerModel" ({ cls := "WallPlannerModel", name := "odd", desc := "(I)I" } : Jvm.MethodName) ({ cls := "WallPlannerModel", name := "odd", desc := "(I)I" } : Jvm.MethodName)) ∈ TBL := tb_4 229 rfl rfl
theorem tw_731 : (Jvm.Cond.code ({ cls := "WallPlannerModel", name := "odd", desc := "(I)I" } : Jvm.MethodName) prog_13_method_39_code (5 : Nat) (Option.some Jvm.ClassFile.FieldType.int)) ∈ TBL := tb_4 230 rfl rfl
theorem tw_732 : (Jvm.Cond.methodLink "WallPlannerModel" (200 : Nat) ({ cls := "WallPlannerModel", name := "nearOf", desc := "(I)I" } : Jvm.MethodName)) ∈ TBL := tb_4 231 rfl rfl
theorem tw_733 : (Jvm.Cond.instanceMethod ({ cls := "WallPlannerModel", name := "nearOf", desc := "(I)I" } : Jvm.MethodName)) ∈ TBL := tb_4 233 rfl rfl
theorem tw_734 : (Jvm.Cond.code ({ cls := "WallPlannerModel", name := "nearOf", desc := "(I)I" } : Jvm.MethodName) prog_13_method_40_code (6 : Nat) (Option.some Jvm.ClassFile.FieldType.int)) ∈ TBL := tb_4 234 rfl rfl
theorem tw_735 : (Jvm.Cond.methodLink "WallPlannerLaw" (92 : Nat) ({ cls := "WallPlannerModel", name := "oddTalk", desc := "(II)I" } : Jvm.MethodName)) ∈ TBL := tb_4 235 rfl rfl
theorem tw_736 : (Jvm.Cond.instanceMethod ({ cls := "WallPlannerModel", name := "oddTalk", desc := "(II)I" } : Jvm.MethodName)) ∈ TBL := tb_4 236 rfl rfl
theorem tw_737 : (Jvm.Cond.selects "WallPlannerModel" ({ cls := "WallPlannerModel", name := "oddTalk", desc := "(II)I" } : Jvm.MethodName) ({ cls := "WallPlannerModel", name := "oddTalk", desc := "(II)I" } : Jvm.MethodName)) ∈ TBL := tb_4 237 rfl rfl
theorem tw_738 : (Jvm.Cond.code ({ cls := "WallPlannerModel", name := "oddTalk", desc := "(II)I" } : Jvm.MethodName) prog_13_method_41_code (3 : Nat) (Option.some Jvm.ClassFile.FieldType.int)) ∈ TBL := tb_4 238 rfl rfl
theorem tw_739 : (Jvm.Cond.methodLink "WallPlannerLaw" (96 : Nat) ({ cls := "WallPlannerModel", name := "place", desc := "(II)I" } : Jvm.MethodName)) ∈ TBL := tb_4 239 rfl rfl
theorem tw_740 : (Jvm.Cond.instanceMethod ({ cls := "WallPlannerModel", name := "place", desc := "(II)I" } : Jvm.MethodName)) ∈ TBL := tb_5 0 rfl rfl
theorem tw_741 : (Jvm.Cond.selects "WallPlannerModel" ({ cls := "WallPlannerModel", name := "place", desc := "(II)I" } : Jvm.MethodName) ({ cls := "WallPlannerModel", name := "place", desc := "(II)I" } : Jvm.MethodName)) ∈ TBL := tb_5 1 rfl rfl
theorem tw_742 : (Jvm.Cond.code ({ cls := "WallPlannerModel", name := "place", desc := "(II)I" } : Jvm.MethodName) prog_13_method_42_code (8 : Nat) (Option.some Jvm.ClassFile.FieldType.int)) ∈ TBL := tb_5 2 rfl rfl
theorem tw_743 : (Jvm.Cond.methodLink "WallPlannerModel" (203 : Nat) ({ cls := "WallPlannerModel", name := "roomMany", desc := "()I" } : Jvm.MethodName)) ∈ TBL := tb_5 3 rfl rfl
theorem tw_744 : (Jvm.Cond.instanceMethod ({ cls := "WallPlannerModel", name := "roomMany", desc := "()I" } : Jvm.MethodName)) ∈ TBL := tb_5 5 rfl rfl
theorem tw_745 : (Jvm.Cond.code ({ cls := "WallPlannerModel", name := "roomMany", desc := "()I" } : Jvm.MethodName) prog_13_method_25_code (3 : Nat) (Option.some Jvm.ClassFile.FieldType.int)) ∈ TBL := tb_5 6 rfl rfl
theorem tw_746 : (Jvm.Cond.methodLink "WallPlannerModel" (206 : Nat) ({ cls := "WallPlannerModel", name := "putsIn", desc := "(II)V" } : Jvm.MethodName)) ∈ TBL := tb_5 7 rfl rfl
theorem tw_747 : (Jvm.Cond.instanceMethod ({ cls := "WallPlannerModel", name := "putsIn", desc := "(II)V" } : Jvm.MethodName)) ∈ TBL := tb_5 9 rfl rfl
theorem tw_748 : (Jvm.Cond.code ({ cls := "WallPlannerModel", name := "putsIn", desc := "(II)V" } : Jvm.MethodName) prog_13_method_43_code (4 : Nat) (Option.none : Option Jvm.ClassFile.FieldType)) ∈ TBL := tb_5 10 rfl rfl
theorem tw_749 : (Jvm.Cond.methodLink "WallPlannerModel" (210 : Nat) ({ cls := "WallPlannerModel", name := "isUnlike", desc := "(II)Z" } : Jvm.MethodName)) ∈ TBL := tb_5 11 rfl rfl
theorem tw_750 : (Jvm.Cond.instanceMethod ({ cls := "WallPlannerModel", name := "isUnlike", desc := "(II)Z" } : Jvm.MethodName)) ∈ TBL := tb_5 13 rfl rfl
theorem tw_751 : (Jvm.Cond.code ({ cls := "WallPlannerModel", name := "isUnlike", desc := "(II)Z" } : Jvm.MethodName) prog_13_method_44_code (4 : Nat) (Option.some Jvm.ClassFile.FieldType.boolean)) ∈ TBL := tb_5 14 rfl rfl
theorem tw_752 : (Jvm.Cond.methodLink "WallPlannerLaw" (100 : Nat) ({ cls := "WallPlannerModel", name := "count", desc := "(I)I" } : Jvm.MethodName)) ∈ TBL := tb_5 15 rfl rfl
theorem tw_753 : (Jvm.Cond.instanceMethod ({ cls := "WallPlannerModel", name := "count", desc := "(I)I" } : Jvm.MethodName)) ∈ TBL := tb_5 16 rfl rfl
theorem tw_754 : (Jvm.Cond.selects "WallPlannerModel" ({ cls := "WallPlannerModel", name := "count", desc := "(I)I" } : Jvm.MethodName) ({ cls := "WallPlannerModel", name := "count", desc := "(I)I" } : Jvm.MethodName)) ∈ TBL := tb_5 17 rfl rfl
theorem tw_755 : (Jvm.Cond.code ({ cls := "WallPlannerModel", name := "count", desc := "(I)I" } : Jvm.MethodName) prog_13_method_45_code (4 : Nat) (Option.some Jvm.ClassFile.FieldType.int)) ∈ TBL := tb_5 18 rfl rfl
theorem tw_756 : (Jvm.Cond.selects "WallPlanner$Needs" ({ cls := "WallPlanner$Needs", name := "doorsOf", desc := "(ILWallPlanner$Net;I)I" } : Jvm.MethodName) ({ cls := "WallPlanner$Needs", name := "doorsOf", desc := "(ILWallPlanner$Net;I)I" } : Jvm.MethodName)) ∈ TBL := tb_0 0 rfl rfl
theorem tw_757 : (Jvm.Cond.selects "WallPlanner$Seeker" ({ cls := "WallPlanner$Seeker", name := "isCheaper", desc := "(IILWallPlanner$Net;LWallPlanner$Law;LWallPlanner$Needs;)Z" } : Jvm.MethodName) ({ cls := "WallPlanner$Seeker", name := "isCheaper", desc := "(IILWallPlanner$Net;LWallPlanner$Law;LWallPlanner$Needs;)Z" } : Jvm.MethodName)) ∈ TBL := tb_0 1 rfl rfl
theorem tw_758 : (Jvm.Cond.selects "WallPlanner$Layout" ({ cls := "WallPlanner$Layout", name := "openRooms", desc := "()V" } : Jvm.MethodName) ({ cls := "WallPlanner$Layout", name := "openRooms", desc := "()V" } : Jvm.MethodName)) ∈ TBL := tb_0 2 rfl rfl
theorem tw_759 : (Jvm.Cond.selects "WallPlanner$Layout" ({ cls := "WallPlanner$Layout", name := "openDoorsFrom", desc := "(I[II)V" } : Jvm.MethodName) ({ cls := "WallPlanner$Layout", name := "openDoorsFrom", desc := "(I[II)V" } : Jvm.MethodName)) ∈ TBL := tb_0 3 rfl rfl
theorem tw_760 : (Jvm.Cond.selects "WallPlanner$Layout" ({ cls := "WallPlanner$Layout", name := "countStraysFrom", desc := "(I[I[II)V" } : Jvm.MethodName) ({ cls := "WallPlanner$Layout", name := "countStraysFrom", desc := "(I[I[II)V" } : Jvm.MethodName)) ∈ TBL := tb_0 4 rfl rfl
theorem tw_761 : (Jvm.Cond.selects "WallPlanner$Seeker" ({ cls := "WallPlanner$Seeker", name := "goOn", desc := "(II)I" } : Jvm.MethodName) ({ cls := "WallPlanner$Seeker", name := "goOn", desc := "(II)I" } : Jvm.MethodName)) ∈ TBL := tb_0 5 rfl rfl
theorem tw_762 : (Jvm.Cond.selects "WallPlanner$Seeker" ({ cls := "WallPlanner$Seeker", name := "keepTrial", desc := "()V" } : Jvm.MethodName) ({ cls := "WallPlanner$Seeker", name := "keepTrial", desc := "()V" } : Jvm.MethodName)) ∈ TBL := tb_0 6 rfl rfl
theorem tw_763 : (Jvm.Cond.selects "WallPlanner$Plan" ({ cls := "WallPlanner$Plan", name := "listRules", desc := "()V" } : Jvm.MethodName) ({ cls := "WallPlanner$Plan", name := "listRules", desc := "()V" } : Jvm.MethodName)) ∈ TBL := tb_0 7 rfl rfl
theorem tw_764 : (Jvm.Cond.selects "WallPlanner$Plan" ({ cls := "WallPlanner$Plan", name := "isNeedBy", desc := "(III)Z" } : Jvm.MethodName) ({ cls := "WallPlanner$Plan", name := "isNeedBy", desc := "(III)Z" } : Jvm.MethodName)) ∈ TBL := tb_0 8 rfl rfl
theorem tw_765 : (Jvm.Cond.selects "WallPlanner$Plan" ({ cls := "WallPlanner$Plan", name := "isBy", desc := "(III)Z" } : Jvm.MethodName) ({ cls := "WallPlanner$Plan", name := "isBy", desc := "(III)Z" } : Jvm.MethodName)) ∈ TBL := tb_0 9 rfl rfl
theorem tw_766 : (Jvm.Cond.selects "WallPlanner$Shutter" ({ cls := "WallPlanner$Shutter", name := "gatherCans", desc := "(LWallPlanner$Plan;[I)Z" } : Jvm.MethodName) ({ cls := "WallPlanner$Shutter", name := "gatherCans", desc := "(LWallPlanner$Plan;[I)Z" } : Jvm.MethodName)) ∈ TBL := tb_0 10 rfl rfl
theorem tw_767 : (Jvm.Cond.selects "WallPlanner$Shutter" ({ cls := "WallPlanner$Shutter", name := "widestWithout", desc := "(I)I" } : Jvm.MethodName) ({ cls := "WallPlanner$Shutter", name := "widestWithout", desc := "(I)I" } : Jvm.MethodName)) ∈ TBL := tb_0 11 rfl rfl
theorem tw_768 : (Jvm.Cond.selects "WallPlanner$Shutter" ({ cls := "WallPlanner$Shutter", name := "tollOf", desc := "(I)I" } : Jvm.MethodName) ({ cls := "WallPlanner$Shutter", name := "tollOf", desc := "(I)I" } : Jvm.MethodName)) ∈ TBL := tb_0 12 rfl rfl
theorem tw_769 : (Jvm.Cond.selects "WallPlanner$Shutter" ({ cls := "WallPlanner$Shutter", name := "choose", desc := "(I)V" } : Jvm.MethodName) ({ cls := "WallPlanner$Shutter", name := "choose", desc := "(I)V" } : Jvm.MethodName)) ∈ TBL := tb_0 13 rfl rfl
theorem tw_770 : (Jvm.Cond.selects "WallPlannerModel" ({ cls := "WallPlannerModel", name := "way", desc := "(III)I" } : Jvm.MethodName) ({ cls := "WallPlannerModel", name := "way", desc := "(III)I" } : Jvm.MethodName)) ∈ TBL := tb_0 14 rfl rfl
theorem tw_771 : (Jvm.Cond.selects "WallPlannerModel" ({ cls := "WallPlannerModel", name := "isHost", desc := "(I)Z" } : Jvm.MethodName) ({ cls := "WallPlannerModel", name := "isHost", desc := "(I)Z" } : Jvm.MethodName)) ∈ TBL := tb_0 15 rfl rfl
theorem tw_772 : (Jvm.Cond.selects "WallPlannerModel" ({ cls := "WallPlannerModel", name := "weightOf", desc := "(II)I" } : Jvm.MethodName) ({ cls := "WallPlannerModel", name := "weightOf", desc := "(II)I" } : Jvm.MethodName)) ∈ TBL := tb_0 16 rfl rfl
theorem tw_773 : (Jvm.Cond.selects "WallPlannerModel" ({ cls := "WallPlannerModel", name := "isNeeded", desc := "(II)Z" } : Jvm.MethodName) ({ cls := "WallPlannerModel", name := "isNeeded", desc := "(II)Z" } : Jvm.MethodName)) ∈ TBL := tb_0 17 rfl rfl
theorem tw_774 : (Jvm.Cond.selects "WallPlannerModel" ({ cls := "WallPlannerModel", name := "dues", desc := "(I)V" } : Jvm.MethodName) ({ cls := "WallPlannerModel", name := "dues", desc := "(I)V" } : Jvm.MethodName)) ∈ TBL := tb_0 18 rfl rfl
theorem tw_775 : (Jvm.Cond.selects "WallPlannerModel" ({ cls := "WallPlannerModel", name := "mixes", desc := "()Z" } : Jvm.MethodName) ({ cls := "WallPlannerModel", name := "mixes", desc := "()Z" } : Jvm.MethodName)) ∈ TBL := tb_0 19 rfl rfl
theorem tw_776 : (Jvm.Cond.selects "WallPlannerModel" ({ cls := "WallPlannerModel", name := "costs", desc := "()I" } : Jvm.MethodName) ({ cls := "WallPlannerModel", name := "costs", desc := "()I" } : Jvm.MethodName)) ∈ TBL := tb_0 20 rfl rfl
theorem tw_777 : (Jvm.Cond.selects "WallPlannerModel" ({ cls := "WallPlannerModel", name := "isTried", desc := "(I)Z" } : Jvm.MethodName) ({ cls := "WallPlannerModel", name := "isTried", desc := "(I)Z" } : Jvm.MethodName)) ∈ TBL := tb_0 21 rfl rfl
theorem tw_778 : (Jvm.Cond.selects "WallPlannerModel" ({ cls := "WallPlannerModel", name := "between", desc := "(I)I" } : Jvm.MethodName) ({ cls := "WallPlannerModel", name := "between", desc := "(I)I" } : Jvm.MethodName)) ∈ TBL := tb_0 22 rfl rfl
theorem tw_779 : (Jvm.Cond.selects "WallPlannerModel" ({ cls := "WallPlannerModel", name := "goesOn", desc := "()Z" } : Jvm.MethodName) ({ cls := "WallPlannerModel", name := "goesOn", desc := "()Z" } : Jvm.MethodName)) ∈ TBL := tb_0 23 rfl rfl
theorem tw_780 : (Jvm.Cond.selects "WallPlannerModel" ({ cls := "WallPlannerModel", name := "comes", desc := "(I)V" } : Jvm.MethodName) ({ cls := "WallPlannerModel", name := "comes", desc := "(I)V" } : Jvm.MethodName)) ∈ TBL := tb_0 24 rfl rfl
theorem tw_781 : (Jvm.Cond.selects "WallPlannerModel" ({ cls := "WallPlannerModel", name := "ruleAt", desc := "(I)I" } : Jvm.MethodName) ({ cls := "WallPlannerModel", name := "ruleAt", desc := "(I)I" } : Jvm.MethodName)) ∈ TBL := tb_0 25 rfl rfl
theorem tw_782 : (Jvm.Cond.selects "WallPlannerModel" ({ cls := "WallPlannerModel", name := "isBy", desc := "(II)Z" } : Jvm.MethodName) ({ cls := "WallPlannerModel", name := "isBy", desc := "(II)Z" } : Jvm.MethodName)) ∈ TBL := tb_0 26 rfl rfl
theorem tw_783 : (Jvm.Cond.selects "WallPlannerModel" ({ cls := "WallPlannerModel", name := "canShut", desc := "(I)Z" } : Jvm.MethodName) ({ cls := "WallPlannerModel", name := "canShut", desc := "(I)Z" } : Jvm.MethodName)) ∈ TBL := tb_0 27 rfl rfl
theorem tw_784 : (Jvm.Cond.selects "WallPlannerModel" ({ cls := "WallPlannerModel", name := "letsBy", desc := "(I)I" } : Jvm.MethodName) ({ cls := "WallPlannerModel", name := "letsBy", desc := "(I)I" } : Jvm.MethodName)) ∈ TBL := tb_0 28 rfl rfl
theorem tw_785 : (Jvm.Cond.selects "WallPlannerModel" ({ cls := "WallPlannerModel", name := "opens", desc := "()V" } : Jvm.MethodName) ({ cls := "WallPlannerModel", name := "opens", desc := "()V" } : Jvm.MethodName)) ∈ TBL := tb_0 29 rfl rfl
theorem tw_786 : (Jvm.Cond.selects "WallPlannerModel" ({ cls := "WallPlannerModel", name := "reachOf", desc := "(I)I" } : Jvm.MethodName) ({ cls := "WallPlannerModel", name := "reachOf", desc := "(I)I" } : Jvm.MethodName)) ∈ TBL := tb_0 30 rfl rfl
theorem tw_787 : (Jvm.Cond.selects "WallPlannerModel" ({ cls := "WallPlannerModel", name := "spreads", desc := "()I" } : Jvm.MethodName) ({ cls := "WallPlannerModel", name := "spreads", desc := "()I" } : Jvm.MethodName)) ∈ TBL := tb_0 31 rfl rfl
theorem tw_788 : (Jvm.Cond.selects "WallPlannerModel" ({ cls := "WallPlannerModel", name := "nearOf", desc := "(I)I" } : Jvm.MethodName) ({ cls := "WallPlannerModel", name := "nearOf", desc := "(I)I" } : Jvm.MethodName)) ∈ TBL := tb_0 32 rfl rfl
theorem tw_789 : (Jvm.Cond.selects "WallPlannerModel" ({ cls := "WallPlannerModel", name := "roomMany", desc := "()I" } : Jvm.MethodName) ({ cls := "WallPlannerModel", name := "roomMany", desc := "()I" } : Jvm.MethodName)) ∈ TBL := tb_0 33 rfl rfl
theorem tw_790 : (Jvm.Cond.selects "WallPlannerModel" ({ cls := "WallPlannerModel", name := "putsIn", desc := "(II)V" } : Jvm.MethodName) ({ cls := "WallPlannerModel", name := "putsIn", desc := "(II)V" } : Jvm.MethodName)) ∈ TBL := tb_0 34 rfl rfl
theorem tw_791 : (Jvm.Cond.selects "WallPlannerModel" ({ cls := "WallPlannerModel", name := "isUnlike", desc := "(II)Z" } : Jvm.MethodName) ({ cls := "WallPlannerModel", name := "isUnlike", desc := "(II)Z" } : Jvm.MethodName)) ∈ TBL := tb_0 35 rfl rfl
theorem inT_X0 : ∀ w ∈ u_ws RX0 TX0 4, w ∈ TBL := List.forall_mem_cons.mpr ⟨tw_63, List.forall_mem_cons.mpr ⟨tw_64, List.forall_mem_cons.mpr ⟨tw_65, List.forall_mem_cons.mpr ⟨tw_66, fun _ h => absurd h List.not_mem_nil⟩⟩⟩⟩
theorem inT_X1 : ∀ w ∈ u_ws RX1 TX1 5, w ∈ TBL := List.forall_mem_cons.mpr ⟨tw_49, List.forall_mem_cons.mpr ⟨tw_50, List.forall_mem_cons.mpr ⟨tw_51, List.forall_mem_cons.mpr ⟨tw_52, List.forall_mem_cons.mpr ⟨tw_53, fun _ h => absurd h List.not_mem_nil⟩⟩⟩⟩⟩
theorem inT_X2 : ∀ w ∈ u_ws RX2 TX2 5, w ∈ TBL := List.forall_mem_cons.mpr ⟨tw_86, List.forall_mem_cons.mpr ⟨tw_87, List.forall_mem_cons.mpr ⟨tw_88, List.forall_mem_cons.mpr ⟨tw_89, List.forall_mem_cons.mpr ⟨tw_90, fun _ h => absurd h List.not_mem_nil⟩⟩⟩⟩⟩
theorem inT_X3 : ∀ w ∈ u_ws RX3 TX3 2, w ∈ TBL := List.forall_mem_cons.mpr ⟨tw_98, List.forall_mem_cons.mpr ⟨tw_99, fun _ h => absurd h List.not_mem_nil⟩⟩
theorem inT_X4 : ∀ w ∈ u_ws RX4 TX4 4, w ∈ TBL := List.forall_mem_cons.mpr ⟨tw_34, List.forall_mem_cons.mpr ⟨tw_35, List.forall_mem_cons.mpr ⟨tw_36, List.forall_mem_cons.mpr ⟨tw_37, fun _ h => absurd h List.not_mem_nil⟩⟩⟩⟩
theorem inT_X5 : ∀ w ∈ u_ws RX5 TX5 3, w ∈ TBL := List.forall_mem_cons.mpr ⟨tw_171, List.forall_mem_cons.mpr ⟨tw_172, List.forall_mem_cons.mpr ⟨tw_173, fun _ h => absurd h List.not_mem_nil⟩⟩⟩
theorem inT_X6 : ∀ w ∈ u_ws RX6 TX6 6, w ∈ TBL := List.forall_mem_cons.mpr ⟨tw_106, List.forall_mem_cons.mpr ⟨tw_107, List.forall_mem_cons.mpr ⟨tw_108, List.forall_mem_cons.mpr ⟨tw_109, List.forall_mem_cons.mpr ⟨tw_110, List.forall_mem_cons.mpr ⟨tw_111, fun _ h => absurd h List.not_mem_nil⟩⟩⟩⟩⟩⟩
theorem inT_X7 : ∀ w ∈ u_ws RX7 TX7 5, w ∈ TBL := List.forall_mem_cons.mpr ⟨tw_125, List.forall_mem_cons.mpr ⟨tw_126, List.forall_mem_cons.mpr ⟨tw_127, List.forall_mem_cons.mpr ⟨tw_128, List.forall_mem_cons.mpr ⟨tw_129, fun _ h => absurd h List.not_mem_nil⟩⟩⟩⟩⟩
theorem inT_X8 : ∀ w ∈ u_ws RX8 TX8 8, w ∈ TBL := List.forall_mem_cons.mpr ⟨tw_155, List.forall_mem_cons.mpr ⟨tw_156, List.forall_mem_cons.mpr ⟨tw_157, List.forall_mem_cons.mpr ⟨tw_158, List.forall_mem_cons.mpr ⟨tw_159, List.forall_mem_cons.mpr ⟨tw_160, List.forall_mem_cons.mpr ⟨tw_161, List.forall_mem_cons.mpr ⟨tw_162, fun _ h => absurd h List.not_mem_nil⟩⟩⟩⟩⟩⟩⟩⟩
theorem inT_X9 : ∀ w ∈ u_ws RX9 TX9 3, w ∈ TBL := List.forall_mem_cons.mpr ⟨tw_138, List.forall_mem_cons.mpr ⟨tw_139, List.forall_mem_cons.mpr ⟨tw_140, fun _ h => absurd h List.not_mem_nil⟩⟩⟩
theorem inT_X10 : ∀ w ∈ u_ws RX10 TX10 9, w ∈ TBL := List.forall_mem_cons.mpr ⟨tw_183, List.forall_mem_cons.mpr ⟨tw_184, List.forall_mem_cons.mpr ⟨tw_185, List.forall_mem_cons.mpr ⟨tw_186, List.forall_mem_cons.mpr ⟨tw_187, List.forall_mem_cons.mpr ⟨tw_188, List.forall_mem_cons.mpr ⟨tw_189, List.forall_mem_cons.mpr ⟨tw_190, List.forall_mem_cons.mpr ⟨tw_191, fun _ h => absurd h List.not_mem_nil⟩⟩⟩⟩⟩⟩⟩⟩⟩
theorem inT_X11 : ∀ w ∈ u_ws RX11 TX11 39, w ∈ TBL := List.forall_mem_cons.mpr ⟨tw_566, List.forall_mem_cons.mpr ⟨tw_567, List.forall_mem_cons.mpr ⟨tw_568, List.forall_mem_cons.mpr ⟨tw_569, List.forall_mem_cons.mpr ⟨tw_570, List.forall_mem_cons.mpr ⟨tw_571, List.forall_mem_cons.mpr ⟨tw_572, List.forall_mem_cons.mpr ⟨tw_573, List.forall_mem_cons.mpr ⟨tw_574, List.forall_mem_cons.mpr ⟨tw_575, List.forall_mem_cons.mpr ⟨tw_576, List.forall_mem_cons.mpr ⟨tw_577, List.forall_mem_cons.mpr ⟨tw_578, List.forall_mem_cons.mpr ⟨tw_579, List.forall_mem_cons.mpr ⟨tw_580, List.forall_mem_cons.mpr ⟨tw_581, List.forall_mem_cons.mpr ⟨tw_582, List.forall_mem_cons.mpr ⟨tw_583, List.forall_mem_cons.mpr ⟨tw_584, List.forall_mem_cons.mpr ⟨tw_585, List.forall_mem_cons.mpr ⟨tw_586, List.forall_mem_cons.mpr ⟨tw_587, List.forall_mem_cons.mpr ⟨tw_588, List.forall_mem_cons.mpr ⟨tw_589, List.forall_mem_cons.mpr ⟨tw_590, List.forall_mem_cons.mpr ⟨tw_591, List.forall_mem_cons.mpr ⟨tw_592, List.forall_mem_cons.mpr ⟨tw_593, List.forall_mem_cons.mpr ⟨tw_594, List.forall_mem_cons.mpr ⟨tw_595, List.forall_mem_cons.mpr ⟨tw_596, List.forall_mem_cons.mpr ⟨tw_597, List.forall_mem_cons.mpr ⟨tw_598, List.forall_mem_cons.mpr ⟨tw_599, List.forall_mem_cons.mpr ⟨tw_600, List.forall_mem_cons.mpr ⟨tw_601, List.forall_mem_cons.mpr ⟨tw_602, List.forall_mem_cons.mpr ⟨tw_603, List.forall_mem_cons.mpr ⟨tw_604, fun _ h => absurd h List.not_mem_nil⟩⟩⟩⟩⟩⟩⟩⟩⟩⟩⟩⟩⟩⟩⟩⟩⟩⟩⟩⟩⟩⟩⟩⟩⟩⟩⟩⟩⟩⟩⟩⟩⟩⟩⟩⟩⟩⟩⟩
def nF : List (String × Nat × String × String × String) := [("WallPlanner$Seeker", 93, "WallPlanner$Net", "marks", "[I"), ("WallPlanner", 94, "WallPlanner$Net", "musts", "[I"), ("WallPlanner$Plan", 51, "WallPlanner$Net", "bars", "[I"), ("WallPlanner", 98, "WallPlanner$Net", "bars", "[I"), ("WallPlanner$Seeker", 103, "WallPlanner$Net", "bars", "[I"), ("WallPlanner$Plan", 56, "WallPlanner$Net", "hosts", "I"), ("WallPlanner$Seeker", 58, "WallPlanner$Net", "hosts", "I"), ("WallPlanner", 133, "WallPlanner$Net", "hosts", "I"), ("WallPlanner$Needs", 18, "WallPlanner$Law", "window", "I"), ("WallPlanner", 109, "WallPlanner$Law", "window", "I"), ("WallPlanner$Needs", 30, "WallPlanner$Law", "least", "I"), ("WallPlanner", 113, "WallPlanner$Law", "least", "I"), ("WallPlanner$Seeker", 89, "WallPlanner$Law", "strict", "Z"), ("WallPlanner", 116, "WallPlanner$Law", "strict", "Z"), ("WallPlanner", 120, "WallPlanner$Law", "rulePrice", "I"), ("WallPlanner", 123, "WallPlanner$Law", "strayPrice", "I"), ("WallPlanner$OddList", 25, "WallPlanner$Diary", "wayAt", "[I"), ("WallPlanner", 236, "WallPlanner$Diary", "wayAt", "[I"), ("WallPlanner$OddList", 28, "WallPlanner$Diary", "dayAt", "[I"), ("WallPlanner", 239, "WallPlanner$Diary", "countAt", "[I"), ("WallPlanner$OddList", 22, "WallPlanner$Diary", "size", "I"), ("WallPlanner", 249, "WallPlanner$Diary", "size", "I"), ("WallPlanner$Seeker", 44, "WallPlanner$Layout", "roomOf", "[I"), ("WallPlanner$Spreading", 51, "WallPlanner$Layout", "roomOf", "[I"), ("WallPlanner$Plan", 91, "WallPlanner$Layout", "roomOf", "[I"), ("WallPlanner", 161, "WallPlanner$Layout", "roomOf", "[I"), ("WallPlanner$Plan", 83, "WallPlanner$Layout", "doors", "[I"), ("WallPlanner$Plan", 63, "WallPlanner$Layout", "rules", "I"), ("WallPlanner$Seeker", 110, "WallPlanner$Layout", "rules", "I"), ("WallPlanner$Plan", 64, "WallPlanner$Layout", "strays", "I"), ("WallPlanner$Seeker", 113, "WallPlanner$Layout", "strays", "I"), ("WallPlanner", 253, "WallPlanner$Layout", "strays", "I"), ("WallPlanner$Seeker", 116, "WallPlanner$Layout", "letsBarred", "Z"), ("WallPlanner$Plan", 48, "WallPlanner$Needs", "doors", "[I"), ("WallPlanner$Seeker", 100, "WallPlanner$Needs", "doors", "[I"), ("WallPlanner$Plan", 104, "WallPlanner$Needs", "weights", "[I"), ("WallPlanner$Spreading", 22, "WallPlanner$Plan", "layout", "LWallPlanner$Layout;"), ("WallPlanner$Shutter", 56, "WallPlanner$Plan", "layout", "LWallPlanner$Layout;"), ("WallPlanner$Seeker", 77, "WallPlanner$Plan", "layout", "LWallPlanner$Layout;"), ("WallPlanner", 157, "WallPlanner$Plan", "layout", "LWallPlanner$Layout;"), ("WallPlanner$Spreading", 35, "WallPlanner$Plan", "ruleAt", "[I"), ("WallPlanner$Shutter", 69, "WallPlanner$Plan", "ruleAt", "[I"), ("WallPlanner", 169, "WallPlanner$Plan", "ruleAt", "[I"), ("WallPlanner$Spreading", 32, "WallPlanner$Plan", "rules", "I"), ("WallPlanner$Shutter", 66, "WallPlanner$Plan", "rules", "I"), ("WallPlanner", 166, "WallPlanner$Plan", "rules", "I"), ("WallPlanner", 151, "WallPlanner$Plan", "cost", "I"), ("WallPlanner", 205, "WallPlanner$Plan", "made", "Z"), ("WallPlanner", 144, "WallPlanner$Seeker", "found", "[I"), ("WallPlanner$Shutter", 81, "WallPlanner$Spreading", "next", "[I"), ("WallPlanner", 223, "WallPlanner$Shutter", "chosen", "[I"), ("WallPlanner", 220, "WallPlanner$Shutter", "chosenCount", "I"), ("WallPlanner", 233, "WallPlanner$OddList", "talkAt", "[I"), ("WallPlanner", 242, "WallPlanner$OddList", "nearAt", "[I"), ("WallPlanner", 230, "WallPlanner$OddList", "size", "I")]
def nM : List (String × Nat × MethodName) := [("WallPlanner", 9, ({ cls := "WallPlanner$Net", name := "<init>", desc := "()V" } : Jvm.MethodName)), ("WallPlanner", 18, ({ cls := "WallPlanner$Law", name := "<init>", desc := "()V" } : Jvm.MethodName)), ("WallPlanner", 25, ({ cls := "WallPlanner$Diary", name := "<init>", desc := "()V" } : Jvm.MethodName)), ("WallPlanner", 32, ({ cls := "WallPlanner$Plan", name := "<init>", desc := "()V" } : Jvm.MethodName)), ("WallPlanner$Plan", 20, ({ cls := "WallPlanner$Needs", name := "<init>", desc := "()V" } : Jvm.MethodName)), ("WallPlanner", 39, ({ cls := "WallPlanner$Needs", name := "<init>", desc := "()V" } : Jvm.MethodName)), ("WallPlanner", 46, ({ cls := "WallPlanner$Seeker", name := "<init>", desc := "()V" } : Jvm.MethodName)), ("WallPlanner", 53, ({ cls := "WallPlanner$Spreading", name := "<init>", desc := "()V" } : Jvm.MethodName)), ("WallPlanner", 60, ({ cls := "WallPlanner$Shutter", name := "<init>", desc := "()V" } : Jvm.MethodName)), ("WallPlanner$Shutter", 11, ({ cls := "WallPlanner$Spreading", name := "<init>", desc := "()V" } : Jvm.MethodName)), ("WallPlanner", 67, ({ cls := "WallPlanner$OddList", name := "<init>", desc := "()V" } : Jvm.MethodName)), ("WallPlanner$Net", 25, ({ cls := "WallPlanner", name := "isBetween", desc := "(III)Z" } : Jvm.MethodName)), ("WallPlanner$Net", 33, ({ cls := "WallPlanner", name := "hasDoor", desc := "(II)Z" } : Jvm.MethodName)), ("WallPlanner$Layout", 35, ({ cls := "WallPlanner", name := "pairOf", desc := "(II)I" } : Jvm.MethodName)), ("WallPlanner$Plan", 76, ({ cls := "WallPlanner", name := "firstOf", desc := "(I)I" } : Jvm.MethodName)), ("WallPlanner$Plan", 80, ({ cls := "WallPlanner", name := "secondOf", desc := "(I)I" } : Jvm.MethodName)), ("WallPlanner$Plan", 84, ({ cls := "WallPlanner", name := "doorOf", desc := "(I)I" } : Jvm.MethodName)), ("WallPlanner$Plan", 87, ({ cls := "WallPlanner", name := "hasDoor", desc := "(II)Z" } : Jvm.MethodName)), ("WallPlanner$Plan", 98, ({ cls := "WallPlanner", name := "pairOf", desc := "(II)I" } : Jvm.MethodName)), ("WallPlanner$Plan", 107, ({ cls := "WallPlanner", name := "wayOf", desc := "(III)I" } : Jvm.MethodName)), ("WallPlanner$Layout", 46, ({ cls := "WallPlanner", name := "hasDoor", desc := "(II)Z" } : Jvm.MethodName)), ("WallPlanner$Spreading", 54, ({ cls := "WallPlanner", name := "firstOf", desc := "(I)I" } : Jvm.MethodName)), ("WallPlanner$Spreading", 58, ({ cls := "WallPlanner", name := "secondOf", desc := "(I)I" } : Jvm.MethodName)), ("WallPlanner$OddList", 31, ({ cls := "WallPlanner", name := "firstOf", desc := "(I)I" } : Jvm.MethodName)), ("WallPlanner$OddList", 35, ({ cls := "WallPlanner", name := "secondOf", desc := "(I)I" } : Jvm.MethodName)), ("WallPlanner$OddList", 38, ({ cls := "WallPlanner", name := "doorOf", desc := "(I)I" } : Jvm.MethodName)), ("WallPlanner$OddList", 59, ({ cls := "WallPlanner", name := "hasDoor", desc := "(II)Z" } : Jvm.MethodName))]
def nwF (q : String × Nat × String × String × String) : Cond := .fieldLinkNest q.1 q.2.1 q.2.2.1 q.2.2.2.1 q.2.2.2.2 "WallPlanner"
def nwM (q : String × Nat × MethodName) : Cond := .methodLinkNest q.1 q.2.1 q.2.2 "WallPlanner"
def nwOK (U : State) : Prop := (∀ q ∈ nF, va_Nw (nwF q) U) ∧ ∀ q ∈ nM, va_Nw (nwM q) U
theorem nwOK.warm {s U : State} (h : nwOK s) (hW : s.WarmedH U.vm) : nwOK U := ⟨fun q hq => va_Nw.warmF hW (h.1 q hq), fun q hq => va_Nw.warmM hW (h.2 q hq)⟩
theorem nwOK.f {s : State} (h : nwOK s) (i : Nat) {a b n d : String} {k : Nat} (hi : nF[i]? = some (a, k, b, n, d)) : va_Nw (.fieldLinkNest a k b n d "WallPlanner") s := h.1 _ (List.mem_of_getElem? hi)
theorem nwOK.m {s : State} (h : nwOK s) (i : Nat) {a : String} {k : Nat} {y : MethodName} (hi : nM[i]? = some (a, k, y)) : va_Nw (.methodLinkNest a k y "WallPlanner") s := h.2 _ (List.mem_of_getElem? hi)
theorem tz_1 {w : Cond} (i : Nat) (h : tables_1_1[i]? = some w) : w ∈ lw_tbl := List.mem_append_right _ (List.mem_append_left _ (List.mem_of_getElem? h))
theorem tz_2 {w : Cond} (i : Nat) (h : tables_1_2[i]? = some w) : w ∈ lw_tbl := List.mem_append_right _ (List.mem_append_right _ (List.mem_append_left _ (List.mem_of_getElem? h)))
theorem tz_3 {w : Cond} (i : Nat) (h : tables_1_3[i]? = some w) : w ∈ lw_tbl := List.mem_append_right _ (List.mem_append_right _ (List.mem_append_right _ (List.mem_append_left _ (List.mem_of_getElem? h))))
theorem tz_4 {w : Cond} (i : Nat) (h : tables_1_4[i]? = some w) : w ∈ lw_tbl := List.mem_append_right _ (List.mem_append_right _ (List.mem_append_right _ (List.mem_append_right _ (List.mem_append_left _ (List.mem_of_getElem? h)))))
theorem tz_5 {w : Cond} (i : Nat) (h : tables_1_5[i]? = some w) : w ∈ lw_tbl := List.mem_append_right _ (List.mem_append_right _ (List.mem_append_right _ (List.mem_append_right _ (List.mem_append_right _ (List.mem_of_getElem? h)))))
theorem nF_in : ∀ q ∈ nF, nwF q ∈ lw_tbl := List.forall_mem_cons.mpr ⟨tz_1 32 rfl, List.forall_mem_cons.mpr ⟨tz_1 34 rfl, List.forall_mem_cons.mpr ⟨tz_1 36 rfl, List.forall_mem_cons.mpr ⟨tz_1 37 rfl, List.forall_mem_cons.mpr ⟨tz_1 38 rfl, List.forall_mem_cons.mpr ⟨tz_1 40 rfl, List.forall_mem_cons.mpr ⟨tz_1 41 rfl, List.forall_mem_cons.mpr ⟨tz_1 42 rfl, List.forall_mem_cons.mpr ⟨tz_1 60 rfl, List.forall_mem_cons.mpr ⟨tz_1 61 rfl, List.forall_mem_cons.mpr ⟨tz_1 63 rfl, List.forall_mem_cons.mpr ⟨tz_1 64 rfl, List.forall_mem_cons.mpr ⟨tz_1 66 rfl, List.forall_mem_cons.mpr ⟨tz_1 67 rfl, List.forall_mem_cons.mpr ⟨tz_1 69 rfl, List.forall_mem_cons.mpr ⟨tz_1 71 rfl, List.forall_mem_cons.mpr ⟨tz_1 90 rfl, List.forall_mem_cons.mpr ⟨tz_1 91 rfl, List.forall_mem_cons.mpr ⟨tz_1 93 rfl, List.forall_mem_cons.mpr ⟨tz_1 95 rfl, List.forall_mem_cons.mpr ⟨tz_1 97 rfl, List.forall_mem_cons.mpr ⟨tz_1 98 rfl, List.forall_mem_cons.mpr ⟨tz_1 124 rfl, List.forall_mem_cons.mpr ⟨tz_1 125 rfl, List.forall_mem_cons.mpr ⟨tz_1 126 rfl, List.forall_mem_cons.mpr ⟨tz_1 127 rfl, List.forall_mem_cons.mpr ⟨tz_1 129 rfl, List.forall_mem_cons.mpr ⟨tz_1 131 rfl, List.forall_mem_cons.mpr ⟨tz_1 132 rfl, List.forall_mem_cons.mpr ⟨tz_1 134 rfl, List.forall_mem_cons.mpr ⟨tz_1 135 rfl, List.forall_mem_cons.mpr ⟨tz_1 136 rfl, List.forall_mem_cons.mpr ⟨tz_1 138 rfl, List.forall_mem_cons.mpr ⟨tz_1 157 rfl, List.forall_mem_cons.mpr ⟨tz_1 158 rfl, List.forall_mem_cons.mpr ⟨tz_1 160 rfl, List.forall_mem_cons.mpr ⟨tz_1 167 rfl, List.forall_mem_cons.mpr ⟨tz_1 168 rfl, List.forall_mem_cons.mpr ⟨tz_1 169 rfl, List.forall_mem_cons.mpr ⟨tz_1 170 rfl, List.forall_mem_cons.mpr ⟨tz_1 173 rfl, List.forall_mem_cons.mpr ⟨tz_1 174 rfl, List.forall_mem_cons.mpr ⟨tz_1 175 rfl, List.forall_mem_cons.mpr ⟨tz_1 177 rfl, List.forall_mem_cons.mpr ⟨tz_1 178 rfl, List.forall_mem_cons.mpr ⟨tz_1 179 rfl, List.forall_mem_cons.mpr ⟨tz_1 181 rfl, List.forall_mem_cons.mpr ⟨tz_1 183 rfl, List.forall_mem_cons.mpr ⟨tz_1 210 rfl, List.forall_mem_cons.mpr ⟨tz_1 232 rfl, List.forall_mem_cons.mpr ⟨tz_2 16 rfl, List.forall_mem_cons.mpr ⟨tz_2 18 rfl, List.forall_mem_cons.mpr ⟨tz_2 43 rfl, List.forall_mem_cons.mpr ⟨tz_2 45 rfl, List.forall_mem_cons.mpr ⟨tz_2 47 rfl, fun _ h => absurd h List.not_mem_nil⟩⟩⟩⟩⟩⟩⟩⟩⟩⟩⟩⟩⟩⟩⟩⟩⟩⟩⟩⟩⟩⟩⟩⟩⟩⟩⟩⟩⟩⟩⟩⟩⟩⟩⟩⟩⟩⟩⟩⟩⟩⟩⟩⟩⟩⟩⟩⟩⟩⟩⟩⟩⟩⟩⟩
theorem nM_in : ∀ q ∈ nM, nwM q ∈ lw_tbl := List.forall_mem_cons.mpr ⟨tz_1 27 rfl, List.forall_mem_cons.mpr ⟨tz_1 55 rfl, List.forall_mem_cons.mpr ⟨tz_1 85 rfl, List.forall_mem_cons.mpr ⟨tz_1 110 rfl, List.forall_mem_cons.mpr ⟨tz_1 152 rfl, List.forall_mem_cons.mpr ⟨tz_1 198 rfl, List.forall_mem_cons.mpr ⟨tz_1 201 rfl, List.forall_mem_cons.mpr ⟨tz_1 226 rfl, List.forall_mem_cons.mpr ⟨tz_2 3 rfl, List.forall_mem_cons.mpr ⟨tz_2 8 rfl, List.forall_mem_cons.mpr ⟨tz_2 38 rfl, List.forall_mem_cons.mpr ⟨tz_2 106 rfl, List.forall_mem_cons.mpr ⟨tz_2 162 rfl, List.forall_mem_cons.mpr ⟨tz_2 217 rfl, List.forall_mem_cons.mpr ⟨tz_3 21 rfl, List.forall_mem_cons.mpr ⟨tz_3 24 rfl, List.forall_mem_cons.mpr ⟨tz_3 27 rfl, List.forall_mem_cons.mpr ⟨tz_3 30 rfl, List.forall_mem_cons.mpr ⟨tz_3 55 rfl, List.forall_mem_cons.mpr ⟨tz_3 60 rfl, List.forall_mem_cons.mpr ⟨tz_3 83 rfl, List.forall_mem_cons.mpr ⟨tz_3 105 rfl, List.forall_mem_cons.mpr ⟨tz_3 106 rfl, List.forall_mem_cons.mpr ⟨tz_3 172 rfl, List.forall_mem_cons.mpr ⟨tz_3 173 rfl, List.forall_mem_cons.mpr ⟨tz_3 174 rfl, List.forall_mem_cons.mpr ⟨tz_3 181 rfl, fun _ h => absurd h List.not_mem_nil⟩⟩⟩⟩⟩⟩⟩⟩⟩⟩⟩⟩⟩⟩⟩⟩⟩⟩⟩⟩⟩⟩⟩⟩⟩⟩⟩
theorem nwOK.of {s : State} {args : Array Value} (h : ∀ w ∈ lw_tbl, w.before args s = true) : nwOK s := ⟨fun q hq => va_Nw.of rfl (h _ (nF_in q hq)), fun q hq => va_Nw.of rfl (h _ (nM_in q hq))⟩
end
section
abbrev Hp : Type := Nat → Nat → Int32
abbrev GT : Type := va_G × (Nat → Nat) × ClassId × ClassId × Nat
def aG (G : GT) (k : Nat) : Nat := G.2.1 k
def zG (G : GT) : Nat := G.2.2.2.2
def upR (τ : Hp) (k : Nat) (r : Nat → Int32) : Hp := fun j => if j = k then r else τ j
theorem upR_s (τ : Hp) (k : Nat) (r : Nat → Int32) : upR τ k r k = r := if_pos rfl
theorem upR_n {τ : Hp} {k j : Nat} {r : Nat → Int32} (h : j ≠ k) : upR τ k r j = τ j := if_neg h
def entL (G : GT) : List ((Nat → Int32) → va_E) := [fun r => .inr (10, [.ref (aG G 1), .ref (aG G 5), .ref (aG G 6), .ref (aG G 10), .ref (aG G 18), .ref (aG G 21), .ref (aG G 27), .ref (aG G 30), .ref (aG G 39)]), fun r => .inr (4, [.ref (aG G 2), .ref (aG G 3), .ref (aG G 4), .int (r 3)]), fun r => .inl (G.2.2.1, 8, .inl r), fun r => .inl (G.2.2.1, 64, .inl r), fun r => .inl (G.2.2.1, 64, .inl r), fun r => .inr (1, [.int (r 0), .int (r 1), .int (r 2), .int (r 3), .int (r 4)]), fun r => .inr (0, [.ref (aG G 7), .ref (aG G 8), .ref (aG G 9), .int (r 3)]), fun r => .inl (G.2.2.1, 300, .inl r), fun r => .inl (G.2.2.1, 300, .inl r), fun r => .inl (G.2.2.1, 300, .inl r), fun r => .inr (6, [.ref (aG G 11), .ref (aG G 14), .ref (aG G 17), .int (r 3), .int (r 4), .int (r 5)]), fun r => .inr (2, [.ref (aG G 12), .ref (aG G 13), .int (r 2), .int (r 3), .int (r 4)]), fun r => .inl (G.2.2.1, 8, .inl r), fun r => .inl (G.2.2.1, 64, .inl r), fun r => .inr (3, [.ref (aG G 15), .ref (aG G 16)]), fun r => .inl (G.2.2.1, 64, .inl r), fun r => .inl (G.2.2.1, 256, .inl r), fun r => .inl (G.2.2.1, 224, .inl r), fun r => .inr (3, [.ref (aG G 19), .ref (aG G 20)]), fun r => .inl (G.2.2.1, 64, .inl r), fun r => .inl (G.2.2.1, 256, .inl r), fun r => .inr (7, [.ref (aG G 22), .ref (aG G 25), .ref (aG G 26), .int (r 3), .int (r 4)]), fun r => .inr (2, [.ref (aG G 23), .ref (aG G 24), .int (r 2), .int (r 3), .int (r 4)]), fun r => .inl (G.2.2.1, 8, .inl r), fun r => .inl (G.2.2.1, 64, .inl r), fun r => .inl (G.2.2.1, 8, .inl r), fun r => .inl (G.2.2.1, 8, .inl r), fun r => .inr (9, [.ref (aG G 28), .ref (aG G 29), .int (r 2)]), fun r => .inl (G.2.2.1, 8, .inl r), fun r => .inl (G.2.2.1, 8, .inl r), fun r => .inr (8, [.ref (aG G 31), .ref (aG G 34), .ref (aG G 35), .ref (aG G 36), .ref (aG G 37), .int (r 5), .ref (aG G 38), .int (r 7)]), fun r => .inr (9, [.ref (aG G 32), .ref (aG G 33), .int (r 2)]), fun r => .inl (G.2.2.1, 8, .inl r), fun r => .inl (G.2.2.1, 8, .inl r), fun r => .inl (G.2.2.1, 8, .inl r), fun r => .inl (G.2.2.1, 12, .inl r), fun r => .inl (G.2.2.1, 12, .inl r), fun r => .inl (G.2.2.1, 12, .inl r), fun r => .inl (G.2.2.1, 12, .inl r), fun r => .inr (5, [.ref (aG G 40), .ref (aG G 41), .int (r 2)]), fun r => .inl (G.2.2.1, 300, .inl r), fun r => .inl (G.2.2.1, 300, .inl r), fun r => .inr (11, [.int (r 0), .int (r 1), .ref (aG G 43), .ref (aG G 44), .int (r 4), .ref (aG G 45), .ref (aG G 46), .ref (aG G 47), .ref (aG G 48), .ref (aG G 49), .int (r 10), .int (r 11), .int (r 12), .int (r 13), .int (r 14), .ref (aG G 50), .ref (aG G 51), .ref (aG G 52), .ref (aG G 53), .int (r 19), .int (r 20), .int (r 21), .ref (aG G 54), .ref (aG G 55), .ref (aG G 56), .ref (aG G 57), .int (r 26), .ref (aG G 58), .int (r 28), .ref (aG G 59), .ref (aG G 60), .ref (aG G 61), .int (r 32), .ref (aG G 62), .int (r 34), .ref (aG G 63), .ref (aG G 64), .ref (aG G 65), .int (r 38)]), fun r => .inl (G.2.2.1, 8, .inl r), fun r => .inl (G.2.2.1, 8, .inl r), fun r => .inl (G.2.2.1, 300, .inl r), fun r => .inl (G.2.2.1, 300, .inl r), fun r => .inl (G.2.2.1, 300, .inl r), fun r => .inl (G.2.2.2.1, 256, .inl r), fun r => .inl (G.2.2.2.1, 256, .inl r), fun r => .inl (G.2.2.2.1, 256, .inl r), fun r => .inl (G.2.2.1, 256, .inl r), fun r => .inl (G.2.2.2.1, 256, .inl r), fun r => .inl (G.2.2.1, 256, .inl r), fun r => .inl (G.2.2.1, 8, .inl r), fun r => .inl (G.2.2.1, 8, .inl r), fun r => .inl (G.2.2.2.1, 256, .inl r), fun r => .inl (G.2.2.2.1, 256, .inl r), fun r => .inl (G.2.2.2.1, 256, .inl r), fun r => .inl (G.2.2.1, 12, .inl r), fun r => .inl (G.2.2.1, 12, .inl r), fun r => .inl (G.2.2.1, 12, .inl r), fun r => .inl (G.2.2.1, 12, .inl r), fun r => .inl (G.2.2.1, 300, .inl r), fun r => .inl (G.2.2.1, 300, .inl r), fun r => .inl (G.2.2.1, 300, .inl r)]
def ent (G : GT) (k : Nat) (r : Nat → Int32) : va_E := (entL G).getD k (fun _ => .inr (0, [])) r
def wd (G : GT) (τ : Hp) : va_W := (List.range 66).map (fun k => (aG G k, ent G k (τ k)))
theorem wd_get {G : GT} {τ : Hp} {k : Nat} (hk : k < 66) : (wd G τ)[k]? = some (aG G k, ent G k (τ k)) := by
  unfold wd
  rw [List.getElem?_map, List.getElem?_range hk]
  rfl
theorem wd_len {G : GT} {τ : Hp} : (wd G τ).length = 66 := by unfold wd; rw [List.length_map, List.length_range]
theorem wd_out {G : GT} {τ : Hp} {k : Nat} (hk : ¬ k < 66) : (wd G τ)[k]? = none := by
  rw [List.getElem?_eq_none_iff, wd_len]; omega
theorem wd_set {G : GT} {τ : Hp} {k : Nat} (hk : k < 66) (r : Nat → Int32) : (wd G τ).set k (aG G k, ent G k r) = wd G (upR τ k r) := by
  apply List.ext_getElem?
  intro j
  rw [List.getElem?_set]
  by_cases hj : k = j
  · subst hj
    rw [if_pos rfl, if_pos (by rw [wd_len]; exact hk), wd_get hk, upR_s]
  · rw [if_neg hj]
    by_cases h6 : j < 66
    · rw [wd_get h6, wd_get h6, upR_n (fun q => hj q.symm)]
    · rw [wd_out h6, wd_out h6]
def adOK (G : GT) : Prop := (∀ i j : Nat, i < 66 → j < 66 → aG G i = aG G j → i = j) ∧ ∀ k : Nat, k < 66 → zG G ≤ aG G k
def Fr (G : GT) : Nat → Prop := fun q => zG G ≤ q
theorem wd_in {G : GT} {τ : Hp} {k : Nat} {q : Nat × va_E} (h : (wd G τ)[k]? = some q) : k < 66 ∧ q.1 = aG G k := by
  by_cases hk : k < 66
  · rw [wd_get hk] at h; cases h; exact ⟨hk, rfl⟩
  · rw [wd_out hk] at h; cases h
theorem wd_D {G : GT} (h : adOK G) (τ : Hp) : va_D (Fr G) (wd G τ) := by
  refine ⟨fun i j p q hi hj e => ?_, fun k q hk => ?_⟩
  · obtain ⟨a1, a2⟩ := wd_in hi
    obtain ⟨b1, b2⟩ := wd_in hj
    exact h.1 i j a1 b1 (by rw [← a2, ← b2]; exact e)
  · obtain ⟨a1, a2⟩ := wd_in hk
    show zG G ≤ q.1
    rw [a2]; exact h.2 k a1
abbrev tyG (G : GT) : List (ClassId × FieldType) := [(G.2.2.1, .int), (G.2.2.2.1, .boolean)]
def Bd (G : GT) (τ : Hp) (U : State) : Prop := va_P G.1 vwCl (wd G τ) U.heap ∧ va_K G.1 vwCl (tyG G) U ∧ zG G ≤ U.heap.size ∧ nwOK U ∧ adOK G
theorem Bd.blind {G : GT} {τ : Hp} {av : List Value} : FrameBlind (va_Pc av (Bd G τ)) := fun a U g mk q => ⟨q.1, q.2.1, va_K.moved (u := U) (U := U.calling g mk a) (Vm.Alike.refl U.vm) q.2.2.1, q.2.2.2.1, ⟨fun z hz => va_Nw.same rfl rfl (q.2.2.2.2.1.1 z hz), fun z hz => va_Nw.same rfl rfl (q.2.2.2.2.1.2 z hz)⟩, q.2.2.2.2.2⟩
def QI (G : GT) (r : Int32) (τ : Hp) : Array Value → State → Outcome → State → Prop := va_Qi (fun (r' : Int32) (υ : Hp) => r' = r ∧ υ = τ) (fun υ t => va_P G.1 vwCl (wd G υ) t.heap) (Fr G)
def QV (G : GT) (τ : Hp) : Array Value → State → Outcome → State → Prop := va_Qv (fun υ : Hp => υ = τ) (fun υ t => va_P G.1 vwCl (wd G υ) t.heap) (Fr G)
abbrev rmG (fr lo : Nat) : Room := { frames := fr, cells := 0, slots := 0, locals := lo }
def MI (l : Launch) (G : GT) (y : MethodName) (cc : ByteArray) (nL : Nat) (ret : Option FieldType) (fr lo : Nat) (av : List Value) (τ : Hp) (r : Int32) (υ : Hp) : Prop := Met l y (.code y cc nL ret :: TBL) (rmG fr lo) (va_Pc av (Bd G τ)) (QI G r υ) 0 0 (Fr G)
def MV (l : Launch) (G : GT) (y : MethodName) (cc : ByteArray) (nL : Nat) (fr lo : Nat) (av : List Value) (τ υ : Hp) : Prop := Met l y (.code y cc nL none :: TBL) (rmG fr lo) (va_Pc av (Bd G τ)) (QV G υ) 0 0 (Fr G)
/-- what stands through a method: the machine, its code, the words, the classes -/
def Cx (G : GT) (p : Program) (s : State) (m : MethodId) (args : Array Value) (meth : Method) (c : Code) (cc : ByteArray) (nL : Nat) (own : String) (ret : Option FieldType) : Prop :=
  p.tables.exec = Jvm.exec ∧ c.code = cc ∧ c.maxLocals = nL ∧ s.vm.findClass own = some m.cls ∧ (∀ w ∈ TBL, w.before args s = true) ∧ va_K G.1 vwCl (tyG G) s ∧ zG G ≤ s.heap.size ∧ nwOK s ∧ adOK G ∧ meth.sig.returnType = ret ∧ meth.locks = false
section CX
variable {G : GT} {p : Program} {s : State} {m : MethodId} {args : Array Value} {meth : Method} {c : Code} {cc : ByteArray} {nL : Nat} {own : String} {ret : Option FieldType}
theorem Cx.hx (X : Cx G p s m args meth c cc nL own ret) : p.tables.exec = Jvm.exec := X.1
theorem Cx.hb (X : Cx G p s m args meth c cc nL own ret) : c.code = cc := X.2.1
theorem Cx.hml (X : Cx G p s m args meth c cc nL own ret) : c.maxLocals = nL := X.2.2.1
theorem Cx.hown (X : Cx G p s m args meth c cc nL own ret) : s.vm.findClass own = some m.cls := X.2.2.2.1
theorem Cx.hts (X : Cx G p s m args meth c cc nL own ret) : ∀ w ∈ TBL, w.before args s = true := X.2.2.2.2.1
theorem Cx.hK (X : Cx G p s m args meth c cc nL own ret) : va_K G.1 vwCl (tyG G) s := X.2.2.2.2.2.1
theorem Cx.hz (X : Cx G p s m args meth c cc nL own ret) : zG G ≤ s.heap.size := X.2.2.2.2.2.2.1
theorem Cx.nw (X : Cx G p s m args meth c cc nL own ret) : nwOK s := X.2.2.2.2.2.2.2.1
theorem Cx.ad (X : Cx G p s m args meth c cc nL own ret) : adOK G := X.2.2.2.2.2.2.2.2.1
theorem Cx.hr (X : Cx G p s m args meth c cc nL own ret) : meth.sig.returnType = ret := X.2.2.2.2.2.2.2.2.2.1
theorem Cx.lk (X : Cx G p s m args meth c cc nL own ret) : meth.locks = false := X.2.2.2.2.2.2.2.2.2.2
end CX
/-- the heap now: the picture, and nothing else has changed -/
def Hs (G : GT) (τ : Hp) (s : State) (H : Heap) (locs : List Loc) : Prop := va_P G.1 vwCl (wd G τ) H ∧ va_S (Fr G) s.heap H locs
def FA (G : GT) (k ci j : Nat) (C : String) (T : u_T) (N : Nat) (fs : (Nat → Int32) → List Value) (v : (Nat → Int32) → Value) : Prop := k < 66 ∧ (∀ r, ent G k r = .inr (ci, fs r)) ∧ vwCl[ci]? = some (C, T, N) ∧ j < N ∧ (∀ w ∈ u_ws C T N, w ∈ TBL) ∧ ∀ r, (fs r)[j]? = some (v r)
def FP (G : GT) (k ci j : Nat) (C : String) (T : u_T) (N : Nat) (ty : FieldType) (ty0 : Nat → FieldType) (fs : (Nat → Int32) → List Value) : Prop := k < 66 ∧ (∀ r, ent G k r = .inr (ci, fs r)) ∧ vwCl[ci]? = some (C, T, N) ∧ j < N ∧ (∀ w ∈ u_ws C T N, w ∈ TBL) ∧ (∀ r x, (fs r).set j (.int x) = fs (upd r j x)) ∧ (∀ r, j < (fs r).length) ∧ (T j).2.2.2 = false ∧ parseFieldDescriptor (T j).2.2.1 = some ty ∧ (∀ k, k < N → parseFieldDescriptor (T k).2.2.1 = some (ty0 k)) ∧ (∀ a, a < N → ∀ b, b < N → a ≠ b → (T a).2.1 ≠ (T b).2.1)
def AI (G : GT) (k n : Nat) : Prop := k < 66 ∧ ∀ r, ent G k r = .inl (G.2.2.1, n, .inl r)
def AZ (G : GT) (k n : Nat) : Prop := k < 66 ∧ ∀ r, ent G k r = .inl (G.2.2.2.1, n, .inl r)
def inb (i : Int32) (n : Nat) : Bool := decide (0 ≤ i.toInt ∧ i.toInt < n)
theorem inb_in {i : Int32} {n : Nat} (h : inb i n = true) : vp_in i n := vp_in_iff.mpr (of_decide_eq_true h)
def isB (x : Int32) : Bool := x == 0 || x == 1
theorem isB_or {x : Int32} (h : isB x = true) : x = 0 ∨ x = 1 := by
  unfold isB at h
  rcases (Bool.or_eq_true _ _).mp h with h | h
  · exact Or.inl (eq_of_beq h)
  · exact Or.inr (eq_of_beq h)
theorem isB_n {x : Int32} (h : isB x = true) : narrow .boolean (.int x) = .int x := by
  rcases isB_or h with rfl | rfl <;> rfl
theorem isB_f {x : Int32} (h : isB x = true) : fits .boolean (.int x) = true := by
  rcases isB_or h with rfl | rfl <;> decide
abbrev OR : Type := Option (Int32 × Hp)
def ogd (b : Bool) (x : OR) : OR := if b = true then x else none
def ilet {α : Type} (x : α) (f : α → OR) : OR := f x
def obd (o : OR) (f : Int32 → Hp → OR) : OR := match o with
  | some (r, τ) => f r τ
  | none => none
theorem e_t {c : Prop} {_ : Decidable c} {a b : OR} {z : Int32 × Hp} (hc : c) (h : (if c then a else b) = some z) : a = some z := by rw [if_pos hc] at h; exact h
theorem e_f {c : Prop} {_ : Decidable c} {a b : OR} {z : Int32 × Hp} (hc : ¬ c) (h : (if c then a else b) = some z) : b = some z := by rw [if_neg hc] at h; exact h
theorem e_g {b : Bool} {x : OR} {z : Int32 × Hp} (h : ogd b x = some z) : b = true ∧ x = some z := by
  unfold ogd at h
  by_cases hb : b = true
  · rw [if_pos hb] at h; exact ⟨hb, h⟩
  · rw [if_neg hb] at h; cases h
theorem e_l {α : Type} {x : α} {f : α → OR} {z : Int32 × Hp} (h : ilet x f = some z) : ∃ y : α, y = x ∧ f y = some z := ⟨x, rfl, h⟩
theorem e_b {o : OR} {f : Int32 → Hp → OR} {z : Int32 × Hp} (h : obd o f = some z) : ∃ (r : Int32) (τ : Hp), o = some (r, τ) ∧ f r τ = some z := by
  cases o with
  | none => cases h
  | some q => exact ⟨q.1, q.2, rfl, h⟩
def nz (x : Int32) : Int32 := vp_nar .boolean x
def imax (x y : Int32) : Int32 := if x < y then y else x
section WR
variable {G : GT} {p : Program} {l : Launch} {e : Env} {R : Room} {s : State} {m : MethodId} {args : Array Value} {below : List Frame} {meth : Method} {c : Code} {H : Heap} {locs : List Loc} {Q : State → Prop} {cc : ByteArray} {nL : Nat} {own : String} {ret : Option FieldType} {τ : Hp} {pc cells slots : Nat} {ls : Array Slot} {rest : List Value}
theorem g_nm {x y : Int32} (h : y = x) (k : W p l e R s m args below meth c H locs cells slots Q (F0 m pc ls (.int y :: rest))) : W p l e R s m args below meth c H locs cells slots Q (F0 m pc ls (.int x :: rest)) := h ▸ k
theorem g_get (X : Cx G p s m args meth c cc nL own ret) (hH : Hs G τ s H locs) {k ci j N : Nat} {C : String} {T : u_T} {fs : (Nat → Int32) → List Value} {v : (Nat → Int32) → Value} (hF : FA G k ci j C T N fs v) {index : Nat} (hw : Cond.fieldLink own index (T j).1 (T j).2.1 (T j).2.2.1 ∈ TBL) (hd : decode cc pc = .ok (.getfield index, 3))
    (kk : W p l e R s m args below meth c H locs cells slots Q (F0 m (pc + 3) ls (v (τ k) :: rest))) : W p l e R s m args below meth c H locs cells slots Q (F0 m pc ls (.ref (aG G k) :: rest)) :=
  va_get X.hx X.hb X.hts hF.2.2.2.2.1 X.hown X.hK hH.1 k ((wd_get hF.1).trans (by rw [hF.2.1 (τ k)])) hF.2.2.1 j hF.2.2.2.1 (X.hts _ hw) (fun _ h => h) (hF.2.2.2.2.2 (τ k)) hd kk
theorem g_getN (X : Cx G p s m args meth c cc nL own ret) (hH : Hs G τ s H locs) {k ci j N : Nat} {C : String} {T : u_T} {fs : (Nat → Int32) → List Value} {v : (Nat → Int32) → Value} (hF : FA G k ci j C T N fs v) {index : Nat} (i : Nat) (hw : nF[i]? = some (own, index, (T j).1, (T j).2.1, (T j).2.2.1)) (hd : decode cc pc = .ok (.getfield index, 3))
    (kk : W p l e R s m args below meth c H locs cells slots Q (F0 m (pc + 3) ls (v (τ k) :: rest))) : W p l e R s m args below meth c H locs cells slots Q (F0 m pc ls (.ref (aG G k) :: rest)) :=
  va_getN X.hx X.hb X.hts hF.2.2.2.2.1 X.hown X.hK hH.1 k ((wd_get hF.1).trans (by rw [hF.2.1 (τ k)])) hF.2.2.1 j hF.2.2.2.1 (va_Nw.use rfl (X.nw.f i hw)) (fun _ h => h) (hF.2.2.2.2.2 (τ k)) hd kk
theorem hs_put (X : Cx G p s m args meth c cc nL own ret) {k ci j N : Nat} {C : String} {T : u_T} {ty : FieldType} {ty0 : Nat → FieldType} {fs : (Nat → Int32) → List Value} (hF : FP G k ci j C T N ty ty0 fs) {x : Int32} {H1 : Heap} {locs1 : List Loc} (h1 : va_P G.1 vwCl ((wd G τ).set k (aG G k, .inr (ci, (fs (τ k)).set j (.int x)))) H1) (h2 : va_S (Fr G) s.heap H1 locs1) : Hs G (upR τ k (upd (τ k) j x)) s H1 locs1 := by
  refine ⟨?_, h2⟩
  rw [hF.2.2.2.2.2.1, ← hF.2.1, wd_set hF.1] at h1
  exact h1
theorem g_put (X : Cx G p s m args meth c cc nL own ret) (hH : Hs G τ s H locs) {k ci j N : Nat} {C : String} {T : u_T} {ty : FieldType} {ty0 : Nat → FieldType} {fs : (Nat → Int32) → List Value} (hF : FP G k ci j C T N ty ty0 fs) {index : Nat} (hw : Cond.fieldLink own index (T j).1 (T j).2.1 (T j).2.2.1 ∈ TBL) {x : Int32} (hn : narrow ty (.int x) = .int x) (hfit : fits ty (.int x) = true) (hd : decode cc pc = .ok (.putfield index, 3))
    (kk : ∀ (H1 : Heap) (locs1 : List Loc), Hs G (upR τ k (upd (τ k) j x)) s H1 locs1 → W p l e R s m args below meth c H1 locs1 cells slots Q (F0 m (pc + 3) ls rest)) : W p l e R s m args below meth c H locs cells slots Q (F0 m pc ls (.int x :: .ref (aG G k) :: rest)) :=
  va_put X.hx X.hb X.hts hF.2.2.2.2.1 ty0 hF.2.2.2.2.2.2.2.2.2.1 hF.2.2.2.2.2.2.2.2.2.2 X.hown X.hK hH.1 (wd_D X.ad τ) hH.2 k ((wd_get hF.1).trans (by rw [hF.2.1 (τ k)])) hF.2.2.1 j hF.2.2.2.1 (X.hts _ hw) (fun _ h => h) hF.2.2.2.2.2.2.2.1 hF.2.2.2.2.2.2.2.2.1 hn hfit (hF.2.2.2.2.2.2.1 (τ k)) hd (fun H1 locs1 h1 _ h3 => kk H1 locs1 (hs_put X hF h1 h3))
theorem g_putN (X : Cx G p s m args meth c cc nL own ret) (hH : Hs G τ s H locs) {k ci j N : Nat} {C : String} {T : u_T} {ty : FieldType} {ty0 : Nat → FieldType} {fs : (Nat → Int32) → List Value} (hF : FP G k ci j C T N ty ty0 fs) {index : Nat} (i : Nat) (hw : nF[i]? = some (own, index, (T j).1, (T j).2.1, (T j).2.2.1)) {x : Int32} (hn : narrow ty (.int x) = .int x) (hfit : fits ty (.int x) = true) (hd : decode cc pc = .ok (.putfield index, 3))
    (kk : ∀ (H1 : Heap) (locs1 : List Loc), Hs G (upR τ k (upd (τ k) j x)) s H1 locs1 → W p l e R s m args below meth c H1 locs1 cells slots Q (F0 m (pc + 3) ls rest)) : W p l e R s m args below meth c H locs cells slots Q (F0 m pc ls (.int x :: .ref (aG G k) :: rest)) :=
  va_putN X.hx X.hb X.hts hF.2.2.2.2.1 ty0 hF.2.2.2.2.2.2.2.2.2.1 hF.2.2.2.2.2.2.2.2.2.2 X.hown X.hK hH.1 (wd_D X.ad τ) hH.2 k ((wd_get hF.1).trans (by rw [hF.2.1 (τ k)])) hF.2.2.1 j hF.2.2.2.1 (va_Nw.use rfl (X.nw.f i hw)) (fun _ h => h) hF.2.2.2.2.2.2.2.1 hF.2.2.2.2.2.2.2.2.1 hn hfit (hF.2.2.2.2.2.2.1 (τ k)) hd (fun H1 locs1 h1 _ h3 => kk H1 locs1 (hs_put X hF h1 h3))
theorem a_ld (X : Cx G p s m args meth c cc nL own ret) (hH : Hs G τ s H locs) {k n : Nat} (hA : AI G k n) {i : Int32} (hi : inb i n = true) (hd : decode cc pc = .ok (.iaload, 1))
    (kk : W p l e R s m args below meth c H locs cells slots Q (F0 m (pc + 1) ls (.int (τ k i.toNatClampNeg) :: rest))) : W p l e R s m args below meth c H locs cells slots Q (F0 m pc ls (.int i :: .ref (aG G k) :: rest)) :=
  va_iald X.hx X.hb X.hK hH.1 k 0 ((wd_get hA.1).trans (by rw [hA.2 (τ k)])) rfl (inb_in hi) hd kk
theorem z_ld (X : Cx G p s m args meth c cc nL own ret) (hH : Hs G τ s H locs) {k n : Nat} (hA : AZ G k n) {i : Int32} (hi : inb i n = true) (hd : decode cc pc = .ok (.baload, 1))
    (kk : W p l e R s m args below meth c H locs cells slots Q (F0 m (pc + 1) ls (.int (τ k i.toNatClampNeg) :: rest))) : W p l e R s m args below meth c H locs cells slots Q (F0 m pc ls (.int i :: .ref (aG G k) :: rest)) :=
  va_zald X.hx X.hb X.hK hH.1 k 1 ((wd_get hA.1).trans (by rw [hA.2 (τ k)])) rfl (inb_in hi) hd kk
theorem a_st (X : Cx G p s m args meth c cc nL own ret) (hH : Hs G τ s H locs) {k n : Nat} (hA : AI G k n) {i x : Int32} (hi : inb i n = true) (hd : decode cc pc = .ok (.iastore, 1))
    (kk : ∀ (H1 : Heap) (locs1 : List Loc), Hs G (upR τ k (upd (τ k) i.toNatClampNeg x)) s H1 locs1 → W p l e R s m args below meth c H1 locs1 cells slots Q (F0 m (pc + 1) ls rest)) : W p l e R s m args below meth c H locs cells slots Q (F0 m pc ls (.int x :: .int i :: .ref (aG G k) :: rest)) :=
  va_iast X.hx X.hb X.hK hH.1 (wd_D X.ad τ) hH.2 k 0 ((wd_get hA.1).trans (by rw [hA.2 (τ k)])) rfl (inb_in hi) hd (fun H1 locs1 h1 _ h3 => kk H1 locs1 ⟨by rw [← hA.2, wd_set hA.1] at h1; exact h1, h3⟩)
theorem z_st (X : Cx G p s m args meth c cc nL own ret) (hH : Hs G τ s H locs) {k n : Nat} (hA : AZ G k n) {i x : Int32} (hi : inb i n = true) (hd : decode cc pc = .ok (.bastore, 1))
    (kk : ∀ (H1 : Heap) (locs1 : List Loc), Hs G (upR τ k (upd (τ k) i.toNatClampNeg (nz x))) s H1 locs1 → W p l e R s m args below meth c H1 locs1 cells slots Q (F0 m (pc + 1) ls rest)) : W p l e R s m args below meth c H locs cells slots Q (F0 m pc ls (.int x :: .int i :: .ref (aG G k) :: rest)) :=
  va_zast X.hx X.hb X.hK hH.1 (wd_D X.ad τ) hH.2 k 1 ((wd_get hA.1).trans (by rw [hA.2 (τ k)])) rfl (inb_in hi) hd (fun H1 locs1 h1 _ h3 => kk H1 locs1 ⟨by rw [← hA.2, wd_set hA.1] at h1; exact h1, h3⟩)
theorem a_len (X : Cx G p s m args meth c cc nL own ret) (hH : Hs G τ s H locs) {k n : Nat} (hA : AI G k n) (hd : decode cc pc = .ok (.arraylength, 1))
    (kk : W p l e R s m args below meth c H locs cells slots Q (F0 m (pc + 1) ls (.int (nI n) :: rest))) : W p l e R s m args below meth c H locs cells slots Q (F0 m pc ls (.ref (aG G k) :: rest)) :=
  va_alen (x := (n, .inl (τ k))) X.hx X.hb X.hK hH.1 k 0 ((wd_get hA.1).trans (by rw [hA.2 (τ k)])) rfl rfl hd kk
def cpR (τ : Hp) (a b n : Nat) : Hp := upR τ b (va_cpy (τ a) (τ b) 0 0 n)
theorem a_cp (X : Cx G p s m args meth c cc nL own ret) (hH : Hs G τ s H locs) {k0 k1 n0 n1 N : Nat} (hA : AI G k0 n0) (hB : AI G k1 n1) (hls : nL = ls.size) {index : Nat} (hw : Cond.methodLink own index arraycopyName ∈ TBL) (hnat : Cond.native arraycopyName ∈ TBL) (hst : Cond.static arraycopyName ∈ TBL) (hini : Cond.initialized "java/lang/System" ∈ TBL)
    {n : Int32} (hn : n.toNatClampNeg = N) (h3 : ¬ n < 0) (h4 : N ≤ n0) (h5 : N ≤ n1) (hfr : 1 ≤ R.frames) (hlo : (rest.map fun v => v.category).sum + (nativeFrameWords "java/lang/System" "arraycopy" 5 + 11) ≤ R.locals) (hd : decode cc pc = .ok (.invokestatic index, 3))
    (kk : ∀ (H1 : Heap) (locs1 : List Loc), Hs G (cpR τ k0 k1 N) s H1 locs1 → W p l e R s m args below meth c H1 locs1 cells slots Q (F0 m (pc + 3) ls rest)) : W p l e R s m args below meth c H locs cells slots Q (F0 m pc ls (.int n :: .int 0 :: .ref (aG G k1) :: .int 0 :: .ref (aG G k0) :: rest)) := by
  subst hn
  refine va_copyi X.hx X.hb (X.hml.trans hls) X.hown (X.hts _ hw) (X.hts _ hnat) (X.hts _ hst) (X.hts _ hini) X.hK hH.1 (wd_D X.ad τ) hH.2 k0 k1 0 0 ((wd_get hA.1).trans (by rw [hA.2 (τ k0)])) ((wd_get hB.1).trans (by rw [hB.2 (τ k1)])) rfl rfl rfl (by decide) (by decide) h3 (by rw [sb_cl0, Nat.zero_add]; exact h4) (by rw [sb_cl0, Nat.zero_add]; exact h5) (fun _ _ => rfl) hfr hlo hd (fun H1 locs1 h1 _ h3 => kk H1 locs1 ⟨?_, h3⟩)
  rw [← hB.2, wd_set hB.1, sb_cl0] at h1
  exact h1
theorem pre_G (X : Cx G p s m args meth c cc nL own ret) (hH : Hs G τ s H locs) {av : List Value} : ∀ U : State, U.heap = H → s.WarmedH U.vm → va_Pc av (Bd G τ) av.toArray U := fun U hU hW => ⟨rfl, by rw [hU]; exact hH.1, va_K.moved hW.alike X.hK, by rw [hU]; exact Nat.le_trans X.hz hH.2.1, X.nw.warm hW, X.ad⟩
theorem good_G {y : MethodName} {cc' : ByteArray} {n : Nat} {rt : Option FieldType} (h : Cond.code y cc' n rt ∈ TBL) : GoodIn TBL (.code y cc' n rt :: TBL) := fun w hw => by
  rcases List.mem_cons.mp hw with rfl | hw
  · exact ⟨h, tb_good h⟩
  · exact ⟨hw, tb_good hw⟩
theorem good_V {y : MethodName} {cc' : ByteArray} {n index : Nat} {rt : Option FieldType} {C : String} (h : Cond.code y cc' n rt ∈ TBL) (h1 : Cond.methodLink own index y ∈ TBL) (h2 : Cond.instanceMethod y ∈ TBL) (h3 : Cond.selects C y y ∈ TBL) (h4 : Cond.initialized C ∈ TBL) : GoodIn TBL (wsV own index C y (.code y cc' n rt :: TBL)) := fun w hw => by
  rcases List.mem_append.mp hw with hw | hw
  · have : w ∈ TBL := by
      rcases List.mem_cons.mp hw with rfl | hw
      · exact h1
      rcases List.mem_cons.mp hw with rfl | hw
      · exact h2
      rcases List.mem_cons.mp hw with rfl | hw
      · exact h3
      rcases List.mem_cons.mp hw with rfl | hw
      · exact h4
      cases hw
    exact ⟨this, tb_good this⟩
  · exact good_G h w hw
theorem good_S {y : MethodName} {cc' : ByteArray} {n index : Nat} {rt : Option FieldType} (h : Cond.code y cc' n rt ∈ TBL) (h1 : Cond.methodLink own index y ∈ TBL) (h2 : Cond.static y ∈ TBL) (h4 : Cond.initialized y.cls ∈ TBL) : GoodIn TBL (va_wsS own index y (.code y cc' n rt :: TBL)) := fun w hw => by
  rcases List.mem_append.mp hw with hw | hw
  · have : w ∈ TBL := by
      rcases List.mem_cons.mp hw with rfl | hw
      · exact h1
      rcases List.mem_cons.mp hw with rfl | hw
      · exact h2
      rcases List.mem_cons.mp hw with rfl | hw
      · exact h4
      cases hw
    exact ⟨this, tb_good this⟩
  · exact good_G h w hw
theorem fr_call {H : Heap} : ∀ q : Nat, Fr G q → Fr G q := fun _ h => h
/-- a virtual call, an int (or a boolean) comes back -/
theorem c_Vi (X : Cx G p s m args meth c cc nL own ret) (hH : Hs G τ s H locs) {y : MethodName} {cc' : ByteArray} {mL fr lo index n : Nat} {rt : Option FieldType} {r : Int32} {υ : Hp} {As : List Value} {k ci : Nat} {C : String} {T : u_T} {N : Nat} {fs : List Value} {st : List Value} (hM : MI l G y cc' mL rt fr lo (.ref (aG G k) :: As) τ r υ)
    (hk : k < 66) (he : ent G k (τ k) = .inr (ci, fs)) (hc : vwCl[ci]? = some (C, T, N)) (w0 : Cond.code y cc' mL rt ∈ TBL) (w1 : Cond.methodLink own index y ∈ TBL) (w2 : Cond.instanceMethod y ∈ TBL) (w3 : Cond.selects C y y ∈ TBL) (w4 : Cond.initialized C ∈ TBL) (hy : y.cls = C ∧ y.cls ≠ "java/lang/invoke/MethodHandle" ∧ y.cls ≠ "java/lang/invoke/VarHandle" ∧ (parseMethodDescriptor y.desc).map (fun d => d.parameters.length) = some n) (hR : fr + 1 ≤ R.frames ∧ 8 + (mL + 11) + lo ≤ R.locals)
    (hn : As.length = n) (hls : ls.size = nL) (hst : st = As.reverse ++ .ref (aG G k) :: rest) (hroom : (rest.map fun v => v.category).sum ≤ 8) (hcs : cells ≤ R.cells ∧ slots ≤ R.slots) (hd : decode cc pc = .ok (.invokevirtual index, 3))
    (kk : ∀ (H1 : Heap) (locs1 : List Loc), Hs G υ s H1 locs1 → W p l e R s m args below meth c H1 locs1 cells slots Q (F0 m (pc + 3) ls (.int r :: rest))) : W p l e R s m args below meth c H locs cells slots Q (F0 m pc ls st) := by
  refine va_calli (va_runV (As := As) (rest := rest) ⟨X.hx, X.hb, X.hml, X.hown, X.hts⟩ hM (cwV n X.hts (good_V w0 w1 w2 w3 w4) rfl rfl rfl hy hR) ⟨Bd.blind, va_recv X.hK hH.1 hc ((wd_get hk).trans (by rw [he])), pre_G X hH⟩ rfl hn hls hst (lv_room hroom) hd hcs) hH.2 (fun _ _ h => h) (fun _ h => h) (fun r1 υ1 t H1 locs1 ht _ hw hB _ _ hS => ?_)
  obtain ⟨rfl, rfl⟩ := hw
  exact kk H1 locs1 ⟨by rw [← ht]; exact hB, hS⟩
theorem c_Vv (X : Cx G p s m args meth c cc nL own ret) (hH : Hs G τ s H locs) {y : MethodName} {cc' : ByteArray} {mL fr lo index n : Nat} {υ : Hp} {As : List Value} {k ci : Nat} {C : String} {T : u_T} {N : Nat} {fs : List Value} {st : List Value} (hM : MV l G y cc' mL fr lo (.ref (aG G k) :: As) τ υ)
    (hk : k < 66) (he : ent G k (τ k) = .inr (ci, fs)) (hc : vwCl[ci]? = some (C, T, N)) (w0 : Cond.code y cc' mL none ∈ TBL) (w1 : Cond.methodLink own index y ∈ TBL) (w2 : Cond.instanceMethod y ∈ TBL) (w3 : Cond.selects C y y ∈ TBL) (w4 : Cond.initialized C ∈ TBL) (hy : y.cls = C ∧ y.cls ≠ "java/lang/invoke/MethodHandle" ∧ y.cls ≠ "java/lang/invoke/VarHandle" ∧ (parseMethodDescriptor y.desc).map (fun d => d.parameters.length) = some n) (hR : fr + 1 ≤ R.frames ∧ 8 + (mL + 11) + lo ≤ R.locals)
    (hn : As.length = n) (hls : ls.size = nL) (hst : st = As.reverse ++ .ref (aG G k) :: rest) (hroom : (rest.map fun v => v.category).sum ≤ 8) (hcs : cells ≤ R.cells ∧ slots ≤ R.slots) (hd : decode cc pc = .ok (.invokevirtual index, 3))
    (kk : ∀ (H1 : Heap) (locs1 : List Loc), Hs G υ s H1 locs1 → W p l e R s m args below meth c H1 locs1 cells slots Q (F0 m (pc + 3) ls rest)) : W p l e R s m args below meth c H locs cells slots Q (F0 m pc ls st) := by
  refine va_callv (va_runV (As := As) (rest := rest) ⟨X.hx, X.hb, X.hml, X.hown, X.hts⟩ hM (cwV n X.hts (good_V w0 w1 w2 w3 w4) rfl rfl rfl hy hR) ⟨Bd.blind, va_recv X.hK hH.1 hc ((wd_get hk).trans (by rw [he])), pre_G X hH⟩ rfl hn hls hst (lv_room hroom) hd hcs) hH.2 (fun _ _ h => h) (fun _ h => h) (fun υ1 t H1 locs1 ht _ hw hB _ _ hS => ?_)
  obtain rfl := hw
  exact kk H1 locs1 ⟨by rw [← ht]; exact hB, hS⟩
theorem c_Si (X : Cx G p s m args meth c cc nL own ret) (hH : Hs G τ s H locs) {y : MethodName} {cc' : ByteArray} {mL fr lo index n : Nat} {rt : Option FieldType} {r : Int32} {υ : Hp} {As : List Value} {st : List Value} (hM : MI l G y cc' mL rt fr lo As τ r υ)
    (w0 : Cond.code y cc' mL rt ∈ TBL) (w1 : Cond.methodLink own index y ∈ TBL) (w2 : Cond.static y ∈ TBL) (w4 : Cond.initialized y.cls ∈ TBL) (hy : y.cls ≠ "java/lang/invoke/MethodHandle" ∧ y.cls ≠ "java/lang/invoke/VarHandle" ∧ (parseMethodDescriptor y.desc).map (fun d => d.parameters.length) = some n) (hR : fr + 1 ≤ R.frames ∧ 8 + (mL + 11) + lo ≤ R.locals)
    (hn : As.length = n) (hls : ls.size = nL) (hst : st = As.reverse ++ rest) (hroom : (rest.map fun v => v.category).sum ≤ 8) (hcs : cells ≤ R.cells ∧ slots ≤ R.slots) (hd : decode cc pc = .ok (.invokestatic index, 3))
    (kk : ∀ (H1 : Heap) (locs1 : List Loc), Hs G υ s H1 locs1 → W p l e R s m args below meth c H1 locs1 cells slots Q (F0 m (pc + 3) ls (.int r :: rest))) : W p l e R s m args below meth c H locs cells slots Q (F0 m pc ls st) := by
  refine va_calli (va_runS (As := As) (rest := rest) ⟨X.hx, X.hb, X.hml, X.hown, X.hts⟩ hM (va_cwS n X.hts (good_S w0 w1 w2 w4) rfl rfl rfl hy hR) ⟨Bd.blind, pre_G X hH⟩ rfl hn hls hst (lv_room hroom) hd hcs) hH.2 (fun _ _ h => h) (fun _ h => h) (fun r1 υ1 t H1 locs1 ht _ hw hB _ _ hS => ?_)
  obtain ⟨rfl, rfl⟩ := hw
  exact kk H1 locs1 ⟨by rw [← ht]; exact hB, hS⟩
theorem c_Sv (X : Cx G p s m args meth c cc nL own ret) (hH : Hs G τ s H locs) {y : MethodName} {cc' : ByteArray} {mL fr lo index n : Nat} {υ : Hp} {As : List Value} {st : List Value} (hM : MV l G y cc' mL fr lo As τ υ)
    (w0 : Cond.code y cc' mL none ∈ TBL) (w1 : Cond.methodLink own index y ∈ TBL) (w2 : Cond.static y ∈ TBL) (w4 : Cond.initialized y.cls ∈ TBL) (hy : y.cls ≠ "java/lang/invoke/MethodHandle" ∧ y.cls ≠ "java/lang/invoke/VarHandle" ∧ (parseMethodDescriptor y.desc).map (fun d => d.parameters.length) = some n) (hR : fr + 1 ≤ R.frames ∧ 8 + (mL + 11) + lo ≤ R.locals)
    (hn : As.length = n) (hls : ls.size = nL) (hst : st = As.reverse ++ rest) (hroom : (rest.map fun v => v.category).sum ≤ 8) (hcs : cells ≤ R.cells ∧ slots ≤ R.slots) (hd : decode cc pc = .ok (.invokestatic index, 3))
    (kk : ∀ (H1 : Heap) (locs1 : List Loc), Hs G υ s H1 locs1 → W p l e R s m args below meth c H1 locs1 cells slots Q (F0 m (pc + 3) ls rest)) : W p l e R s m args below meth c H locs cells slots Q (F0 m pc ls st) := by
  refine va_callv (va_runS (As := As) (rest := rest) ⟨X.hx, X.hb, X.hml, X.hown, X.hts⟩ hM (va_cwS n X.hts (good_S w0 w1 w2 w4) rfl rfl rfl hy hR) ⟨Bd.blind, pre_G X hH⟩ rfl hn hls hst (lv_room hroom) hd hcs) hH.2 (fun _ _ h => h) (fun _ h => h) (fun υ1 t H1 locs1 ht _ hw hB _ _ hS => ?_)
  obtain rfl := hw
  exact kk H1 locs1 ⟨by rw [← ht]; exact hB, hS⟩
/-- a nest mate's private static -/
theorem c_SNi (X : Cx G p s m args meth c cc nL own ret) (hH : Hs G τ s H locs) {y : MethodName} {cc' : ByteArray} {mL fr lo index n : Nat} {rt : Option FieldType} {r : Int32} {υ : Hp} {As : List Value} {st : List Value} (hM : MI l G y cc' mL rt fr lo As τ r υ)
    (w0 : Cond.code y cc' mL rt ∈ TBL) (i : Nat) (w1 : nM[i]? = some (own, index, y)) (w2 : Cond.static y ∈ TBL) (w4 : Cond.initialized y.cls ∈ TBL) (hy : y.cls ≠ "java/lang/invoke/MethodHandle" ∧ y.cls ≠ "java/lang/invoke/VarHandle" ∧ (parseMethodDescriptor y.desc).map (fun d => d.parameters.length) = some n) (hR : fr + 1 ≤ R.frames ∧ 8 + (mL + 11) + lo ≤ R.locals)
    (hn : As.length = n) (hls : ls.size = nL) (hst : st = As.reverse ++ rest) (hroom : (rest.map fun v => v.category).sum ≤ 8) (hcs : cells ≤ R.cells ∧ slots ≤ R.slots) (hd : decode cc pc = .ok (.invokestatic index, 3))
    (kk : ∀ (H1 : Heap) (locs1 : List Loc), Hs G υ s H1 locs1 → W p l e R s m args below meth c H1 locs1 cells slots Q (F0 m (pc + 3) ls (.int r :: rest))) : W p l e R s m args below meth c H locs cells slots Q (F0 m pc ls st) := by
  refine va_calli (va_runSN (As := As) (rest := rest) ⟨X.hx, X.hb, X.hml, X.hown, X.hts⟩ hM ⟨va_cnB n X.hts (good_G w0) rfl rfl rfl (X.nw.m i w1) (X.hts _ w4) hy hR, X.hts _ w2, trivial⟩ ⟨Bd.blind, pre_G X hH⟩ rfl hn hls hst (lv_room hroom) hd hcs) hH.2 (fun _ _ h => h) (fun _ h => h) (fun r1 υ1 t H1 locs1 ht _ hw hB _ _ hS => ?_)
  obtain ⟨rfl, rfl⟩ := hw
  exact kk H1 locs1 ⟨by rw [← ht]; exact hB, hS⟩
theorem g_max (X : Cx G p s m args meth c cc nL own ret) (hls : nL = ls.size) {index : Nat} (w1 : Cond.methodLink own index Lib.Math.max.name ∈ TBL) (w2 : Cond.static Lib.Math.max.name ∈ TBL) (w3 : Cond.initialized "java/lang/Math" ∈ TBL) (w4 : Cond.code Lib.Math.max.name Lib.Math.max.code 2 (some .int) ∈ TBL) (hfr : 1 ≤ R.frames) (hlo : (rest.map fun v => v.category).sum + 13 ≤ R.locals) {x y : Int32} (hcs : cells ≤ R.cells ∧ slots ≤ R.slots) (hd : decode cc pc = .ok (.invokestatic index, 3))
    (kk : W p l e R s m args below meth c H locs cells slots Q (F0 m (pc + 3) ls (.int (imax x y) :: rest))) : W p l e R s m args below meth c H locs cells slots Q (F0 m pc ls (.int y :: .int x :: rest)) :=
  va_mmax X.hx X.hb (X.hml.trans hls) X.hown (X.hts _ w1) (X.hts _ w2) (X.hts _ w3) (X.hts _ w4) hfr hlo hcs.1 hcs.2 hd kk
abbrev WI (l : Launch) (G : GT) (R : Room) (p : Program) (e : Env) (s : State) (m : MethodId) (args : Array Value) (below : List Frame) (meth : Method) (c : Code) (r : Int32) (υ : Hp) (H : Heap) (locs : List Loc) (g : JFrame) : Prop := W p l e R s m args below meth c H locs 0 0 (MQ below (QI G r υ) args s 0 0 (Fr G)) g
abbrev WV (l : Launch) (G : GT) (R : Room) (p : Program) (e : Env) (s : State) (m : MethodId) (args : Array Value) (below : List Frame) (meth : Method) (c : Code) (υ : Hp) (H : Heap) (locs : List Loc) (g : JFrame) : Prop := W p l e R s m args below meth c H locs 0 0 (MQ below (QV G υ) args s 0 0 (Fr G)) g
theorem r_i (X : Cx G p s m args meth c cc nL own (some .int)) (hH : Hs G τ s H locs) {v r : Int32} {υ : Hp} (hf : (some (v, τ) : OR) = some (r, υ)) (hd : decode cc pc = .ok (.ireturn, 1)) : WI l G R p e s m args below meth c r υ H locs (F0 m pc ls [.int v]) := by
  cases hf
  exact W.iret X.hx X.hb X.hr (fun t ht _ => ⟨⟨v, τ, rfl, ⟨rfl, rfl⟩, by show va_P G.1 vwCl (wd G τ) t.heap; rw [ht]; exact hH.1⟩, hH.2.F ht⟩) hH.2.2.2 hd X.lk
theorem r_z (X : Cx G p s m args meth c cc nL own (some .boolean)) (hH : Hs G τ s H locs) {v r : Int32} {υ : Hp} (hb : isB v = true) (hf : (some (v, τ) : OR) = some (r, υ)) (hd : decode cc pc = .ok (.ireturn, 1)) : WI l G R p e s m args below meth c r υ H locs (F0 m pc ls [.int v]) := by
  cases hf
  exact W.zret X.hx X.hb X.hr (isB_n hb) (fun t ht _ => ⟨⟨v, τ, rfl, ⟨rfl, rfl⟩, by show va_P G.1 vwCl (wd G τ) t.heap; rw [ht]; exact hH.1⟩, hH.2.F ht⟩) hH.2.2.2 hd X.lk
theorem r_v (X : Cx G p s m args meth c cc nL own none) (hH : Hs G τ s H locs) {v r : Int32} {υ : Hp} (hf : (some (v, τ) : OR) = some (r, υ)) (hd : decode cc pc = .ok (.return_, 1)) : WV l G R p e s m args below meth c υ H locs (F0 m pc ls []) := by
  cases hf
  exact W.vret X.hx X.hb X.hr (fun t ht _ => ⟨⟨τ, rfl, rfl, by show va_P G.1 vwCl (wd G τ) t.heap; rw [ht]; exact hH.1⟩, hH.2.F ht⟩) hH.2.2.2 hd X.lk
end WR
/-- a method's contract out of the walk from its entry -/
theorem mk_I {l : Launch} {G : GT} {y : MethodName} {cc : ByteArray} {nL : Nat} {rt : FieldType} {fr lo : Nat} {av : List Value} {τ υ : Hp} {r : Int32} (hy : plainName y.cls = true) (hls : (lg_sl av).length ≤ nL)
    (body : ∀ (p : Program) (e : Env) (s : State) (m : MethodId) (args : Array Value) (below : List Frame) (meth : Method) (c : Code), Cx G p s m args meth c cc nL y.cls (some rt) → Hs G τ s s.heap [] → ∀ ls : Array Slot, lv_has ls nL (lv_args 0 av) → WI l G (rmG fr lo) p e s m args below meth c r υ s.heap [] (F0 m 0 ls [])) : MI l G y cc nL (some rt) fr lo av τ r υ := by
  refine Met.ofW (cc := cc) (maxL := nL) (ret := some rt) hy rfl ?_
  intro p e s m args below meth c s₁ B hml hv
  obtain ⟨rfl, hP, hK, hz, hn, ha⟩ := hv
  have hts := atoms_spec (ws := .code y cc nL (some rt) :: TBL) B.pre
  have hown : s.vm.findClass y.cls = some m.cls := findClass_of_methodNamed B.named
  have hl := lv_entry av (n := nL) hls
  rw [lg_entry_eq]
  exact body p e s m _ below meth c ⟨B.exec, B.bytes, hml, hown, fun w hw => hts w (List.mem_cons_of_mem _ hw), hK, hz, hn, ha, B.returns, B.notSynchronized⟩ ⟨hP, va_S.rf⟩ _ hl
theorem mk_V {l : Launch} {G : GT} {y : MethodName} {cc : ByteArray} {nL : Nat} {fr lo : Nat} {av : List Value} {τ υ : Hp} (hy : plainName y.cls = true) (hls : (lg_sl av).length ≤ nL)
    (body : ∀ (p : Program) (e : Env) (s : State) (m : MethodId) (args : Array Value) (below : List Frame) (meth : Method) (c : Code), Cx G p s m args meth c cc nL y.cls none → Hs G τ s s.heap [] → ∀ ls : Array Slot, lv_has ls nL (lv_args 0 av) → WV l G (rmG fr lo) p e s m args below meth c υ s.heap [] (F0 m 0 ls [])) : MV l G y cc nL fr lo av τ υ := by
  refine Met.ofW (cc := cc) (maxL := nL) (ret := none) hy rfl ?_
  intro p e s m args below meth c s₁ B hml hv
  obtain ⟨rfl, hP, hK, hz, hn, ha⟩ := hv
  have hts := atoms_spec (ws := .code y cc nL none :: TBL) B.pre
  have hown : s.vm.findClass y.cls = some m.cls := findClass_of_methodNamed B.named
  have hl := lv_entry av (n := nL) hls
  rw [lg_entry_eq]
  exact body p e s m _ below meth c ⟨B.exec, B.bytes, hml, hown, fun w hw => hts w (List.mem_cons_of_mem _ hw), hK, hz, hn, ha, B.returns, B.notSynchronized⟩ ⟨hP, va_S.rf⟩ _ hl
abbrev fs_0 (G : GT) : (Nat → Int32) → List Value := (fun r => [.ref (aG G 1), .ref (aG G 5), .ref (aG G 6), .ref (aG G 10), .ref (aG G 18), .ref (aG G 21), .ref (aG G 27), .ref (aG G 30), .ref (aG G 39)])
theorem fa_0_0 (G : GT) : FA G 0 10 0 RX10 TX10 9 (fs_0 G) (fun _ => .ref (aG G 1)) := ⟨by decide, fun _ => rfl, rfl, by decide, inT_X10, fun _ => rfl⟩
theorem fa_0_1 (G : GT) : FA G 0 10 1 RX10 TX10 9 (fs_0 G) (fun _ => .ref (aG G 5)) := ⟨by decide, fun _ => rfl, rfl, by decide, inT_X10, fun _ => rfl⟩
theorem fa_0_2 (G : GT) : FA G 0 10 2 RX10 TX10 9 (fs_0 G) (fun _ => .ref (aG G 6)) := ⟨by decide, fun _ => rfl, rfl, by decide, inT_X10, fun _ => rfl⟩
theorem fa_0_3 (G : GT) : FA G 0 10 3 RX10 TX10 9 (fs_0 G) (fun _ => .ref (aG G 10)) := ⟨by decide, fun _ => rfl, rfl, by decide, inT_X10, fun _ => rfl⟩
theorem fa_0_4 (G : GT) : FA G 0 10 4 RX10 TX10 9 (fs_0 G) (fun _ => .ref (aG G 18)) := ⟨by decide, fun _ => rfl, rfl, by decide, inT_X10, fun _ => rfl⟩
theorem fa_0_5 (G : GT) : FA G 0 10 5 RX10 TX10 9 (fs_0 G) (fun _ => .ref (aG G 21)) := ⟨by decide, fun _ => rfl, rfl, by decide, inT_X10, fun _ => rfl⟩
theorem fa_0_6 (G : GT) : FA G 0 10 6 RX10 TX10 9 (fs_0 G) (fun _ => .ref (aG G 27)) := ⟨by decide, fun _ => rfl, rfl, by decide, inT_X10, fun _ => rfl⟩
theorem fa_0_7 (G : GT) : FA G 0 10 7 RX10 TX10 9 (fs_0 G) (fun _ => .ref (aG G 30)) := ⟨by decide, fun _ => rfl, rfl, by decide, inT_X10, fun _ => rfl⟩
theorem fa_0_8 (G : GT) : FA G 0 10 8 RX10 TX10 9 (fs_0 G) (fun _ => .ref (aG G 39)) := ⟨by decide, fun _ => rfl, rfl, by decide, inT_X10, fun _ => rfl⟩
abbrev fs_1 (G : GT) : (Nat → Int32) → List Value := (fun r => [.ref (aG G 2), .ref (aG G 3), .ref (aG G 4), .int (r 3)])
theorem fa_1_0 (G : GT) : FA G 1 4 0 RX4 TX4 4 (fs_1 G) (fun _ => .ref (aG G 2)) := ⟨by decide, fun _ => rfl, rfl, by decide, inT_X4, fun _ => rfl⟩
theorem fa_1_1 (G : GT) : FA G 1 4 1 RX4 TX4 4 (fs_1 G) (fun _ => .ref (aG G 3)) := ⟨by decide, fun _ => rfl, rfl, by decide, inT_X4, fun _ => rfl⟩
theorem fa_1_2 (G : GT) : FA G 1 4 2 RX4 TX4 4 (fs_1 G) (fun _ => .ref (aG G 4)) := ⟨by decide, fun _ => rfl, rfl, by decide, inT_X4, fun _ => rfl⟩
theorem fa_1_3 (G : GT) : FA G 1 4 3 RX4 TX4 4 (fs_1 G) (fun r => .int (r 3)) := ⟨by decide, fun _ => rfl, rfl, by decide, inT_X4, fun _ => rfl⟩
theorem fp_1_3 (G : GT) : FP G 1 4 3 RX4 TX4 4 .int tyX4 (fs_1 G) := ⟨by decide, fun _ => rfl, rfl, by decide, inT_X4, fun _ _ => rfl, fun _ => Nat.le_of_ble_eq_true rfl, rfl, by decide +kernel, tyX4_ok, nmX4⟩
theorem aa_2 (G : GT) : AI G 2 8 := ⟨by decide, fun _ => rfl⟩
theorem aa_3 (G : GT) : AI G 3 64 := ⟨by decide, fun _ => rfl⟩
theorem aa_4 (G : GT) : AI G 4 64 := ⟨by decide, fun _ => rfl⟩
abbrev fs_5 (G : GT) : (Nat → Int32) → List Value := (fun r => [.int (r 0), .int (r 1), .int (r 2), .int (r 3), .int (r 4)])
theorem fa_5_0 (G : GT) : FA G 5 1 0 RX1 TX1 5 (fs_5 G) (fun r => .int (r 0)) := ⟨by decide, fun _ => rfl, rfl, by decide, inT_X1, fun _ => rfl⟩
theorem fp_5_0 (G : GT) : FP G 5 1 0 RX1 TX1 5 .int tyX1 (fs_5 G) := ⟨by decide, fun _ => rfl, rfl, by decide, inT_X1, fun _ _ => rfl, fun _ => Nat.le_of_ble_eq_true rfl, rfl, by decide +kernel, tyX1_ok, nmX1⟩
theorem fa_5_1 (G : GT) : FA G 5 1 1 RX1 TX1 5 (fs_5 G) (fun r => .int (r 1)) := ⟨by decide, fun _ => rfl, rfl, by decide, inT_X1, fun _ => rfl⟩
theorem fp_5_1 (G : GT) : FP G 5 1 1 RX1 TX1 5 .int tyX1 (fs_5 G) := ⟨by decide, fun _ => rfl, rfl, by decide, inT_X1, fun _ _ => rfl, fun _ => Nat.le_of_ble_eq_true rfl, rfl, by decide +kernel, tyX1_ok, nmX1⟩
theorem fa_5_2 (G : GT) : FA G 5 1 2 RX1 TX1 5 (fs_5 G) (fun r => .int (r 2)) := ⟨by decide, fun _ => rfl, rfl, by decide, inT_X1, fun _ => rfl⟩
theorem fp_5_2 (G : GT) : FP G 5 1 2 RX1 TX1 5 .boolean tyX1 (fs_5 G) := ⟨by decide, fun _ => rfl, rfl, by decide, inT_X1, fun _ _ => rfl, fun _ => Nat.le_of_ble_eq_true rfl, rfl, by decide +kernel, tyX1_ok, nmX1⟩
theorem fa_5_3 (G : GT) : FA G 5 1 3 RX1 TX1 5 (fs_5 G) (fun r => .int (r 3)) := ⟨by decide, fun _ => rfl, rfl, by decide, inT_X1, fun _ => rfl⟩
theorem fp_5_3 (G : GT) : FP G 5 1 3 RX1 TX1 5 .int tyX1 (fs_5 G) := ⟨by decide, fun _ => rfl, rfl, by decide, inT_X1, fun _ _ => rfl, fun _ => Nat.le_of_ble_eq_true rfl, rfl, by decide +kernel, tyX1_ok, nmX1⟩
theorem fa_5_4 (G : GT) : FA G 5 1 4 RX1 TX1 5 (fs_5 G) (fun r => .int (r 4)) := ⟨by decide, fun _ => rfl, rfl, by decide, inT_X1, fun _ => rfl⟩
theorem fp_5_4 (G : GT) : FP G 5 1 4 RX1 TX1 5 .int tyX1 (fs_5 G) := ⟨by decide, fun _ => rfl, rfl, by decide, inT_X1, fun _ _ => rfl, fun _ => Nat.le_of_ble_eq_true rfl, rfl, by decide +kernel, tyX1_ok, nmX1⟩
abbrev fs_6 (G : GT) : (Nat → Int32) → List Value := (fun r => [.ref (aG G 7), .ref (aG G 8), .ref (aG G 9), .int (r 3)])
theorem fa_6_0 (G : GT) : FA G 6 0 0 RX0 TX0 4 (fs_6 G) (fun _ => .ref (aG G 7)) := ⟨by decide, fun _ => rfl, rfl, by decide, inT_X0, fun _ => rfl⟩
theorem fa_6_1 (G : GT) : FA G 6 0 1 RX0 TX0 4 (fs_6 G) (fun _ => .ref (aG G 8)) := ⟨by decide, fun _ => rfl, rfl, by decide, inT_X0, fun _ => rfl⟩
theorem fa_6_2 (G : GT) : FA G 6 0 2 RX0 TX0 4 (fs_6 G) (fun _ => .ref (aG G 9)) := ⟨by decide, fun _ => rfl, rfl, by decide, inT_X0, fun _ => rfl⟩
theorem fa_6_3 (G : GT) : FA G 6 0 3 RX0 TX0 4 (fs_6 G) (fun r => .int (r 3)) := ⟨by decide, fun _ => rfl, rfl, by decide, inT_X0, fun _ => rfl⟩
theorem fp_6_3 (G : GT) : FP G 6 0 3 RX0 TX0 4 .int tyX0 (fs_6 G) := ⟨by decide, fun _ => rfl, rfl, by decide, inT_X0, fun _ _ => rfl, fun _ => Nat.le_of_ble_eq_true rfl, rfl, by decide +kernel, tyX0_ok, nmX0⟩
theorem aa_7 (G : GT) : AI G 7 300 := ⟨by decide, fun _ => rfl⟩
theorem aa_8 (G : GT) : AI G 8 300 := ⟨by decide, fun _ => rfl⟩
theorem aa_9 (G : GT) : AI G 9 300 := ⟨by decide, fun _ => rfl⟩
abbrev fs_10 (G : GT) : (Nat → Int32) → List Value := (fun r => [.ref (aG G 11), .ref (aG G 14), .ref (aG G 17), .int (r 3), .int (r 4), .int (r 5)])
theorem fa_10_0 (G : GT) : FA G 10 6 0 RX6 TX6 6 (fs_10 G) (fun _ => .ref (aG G 11)) := ⟨by decide, fun _ => rfl, rfl, by decide, inT_X6, fun _ => rfl⟩
theorem fa_10_1 (G : GT) : FA G 10 6 1 RX6 TX6 6 (fs_10 G) (fun _ => .ref (aG G 14)) := ⟨by decide, fun _ => rfl, rfl, by decide, inT_X6, fun _ => rfl⟩
theorem fa_10_2 (G : GT) : FA G 10 6 2 RX6 TX6 6 (fs_10 G) (fun _ => .ref (aG G 17)) := ⟨by decide, fun _ => rfl, rfl, by decide, inT_X6, fun _ => rfl⟩
theorem fa_10_3 (G : GT) : FA G 10 6 3 RX6 TX6 6 (fs_10 G) (fun r => .int (r 3)) := ⟨by decide, fun _ => rfl, rfl, by decide, inT_X6, fun _ => rfl⟩
theorem fp_10_3 (G : GT) : FP G 10 6 3 RX6 TX6 6 .int tyX6 (fs_10 G) := ⟨by decide, fun _ => rfl, rfl, by decide, inT_X6, fun _ _ => rfl, fun _ => Nat.le_of_ble_eq_true rfl, rfl, by decide +kernel, tyX6_ok, nmX6⟩
theorem fa_10_4 (G : GT) : FA G 10 6 4 RX6 TX6 6 (fs_10 G) (fun r => .int (r 4)) := ⟨by decide, fun _ => rfl, rfl, by decide, inT_X6, fun _ => rfl⟩
theorem fp_10_4 (G : GT) : FP G 10 6 4 RX6 TX6 6 .int tyX6 (fs_10 G) := ⟨by decide, fun _ => rfl, rfl, by decide, inT_X6, fun _ _ => rfl, fun _ => Nat.le_of_ble_eq_true rfl, rfl, by decide +kernel, tyX6_ok, nmX6⟩
theorem fa_10_5 (G : GT) : FA G 10 6 5 RX6 TX6 6 (fs_10 G) (fun r => .int (r 5)) := ⟨by decide, fun _ => rfl, rfl, by decide, inT_X6, fun _ => rfl⟩
theorem fp_10_5 (G : GT) : FP G 10 6 5 RX6 TX6 6 .boolean tyX6 (fs_10 G) := ⟨by decide, fun _ => rfl, rfl, by decide, inT_X6, fun _ _ => rfl, fun _ => Nat.le_of_ble_eq_true rfl, rfl, by decide +kernel, tyX6_ok, nmX6⟩
abbrev fs_11 (G : GT) : (Nat → Int32) → List Value := (fun r => [.ref (aG G 12), .ref (aG G 13), .int (r 2), .int (r 3), .int (r 4)])
theorem fa_11_0 (G : GT) : FA G 11 2 0 RX2 TX2 5 (fs_11 G) (fun _ => .ref (aG G 12)) := ⟨by decide, fun _ => rfl, rfl, by decide, inT_X2, fun _ => rfl⟩
theorem fa_11_1 (G : GT) : FA G 11 2 1 RX2 TX2 5 (fs_11 G) (fun _ => .ref (aG G 13)) := ⟨by decide, fun _ => rfl, rfl, by decide, inT_X2, fun _ => rfl⟩
theorem fa_11_2 (G : GT) : FA G 11 2 2 RX2 TX2 5 (fs_11 G) (fun r => .int (r 2)) := ⟨by decide, fun _ => rfl, rfl, by decide, inT_X2, fun _ => rfl⟩
theorem fp_11_2 (G : GT) : FP G 11 2 2 RX2 TX2 5 .int tyX2 (fs_11 G) := ⟨by decide, fun _ => rfl, rfl, by decide, inT_X2, fun _ _ => rfl, fun _ => Nat.le_of_ble_eq_true rfl, rfl, by decide +kernel, tyX2_ok, nmX2⟩
theorem fa_11_3 (G : GT) : FA G 11 2 3 RX2 TX2 5 (fs_11 G) (fun r => .int (r 3)) := ⟨by decide, fun _ => rfl, rfl, by decide, inT_X2, fun _ => rfl⟩
theorem fp_11_3 (G : GT) : FP G 11 2 3 RX2 TX2 5 .int tyX2 (fs_11 G) := ⟨by decide, fun _ => rfl, rfl, by decide, inT_X2, fun _ _ => rfl, fun _ => Nat.le_of_ble_eq_true rfl, rfl, by decide +kernel, tyX2_ok, nmX2⟩
theorem fa_11_4 (G : GT) : FA G 11 2 4 RX2 TX2 5 (fs_11 G) (fun r => .int (r 4)) := ⟨by decide, fun _ => rfl, rfl, by decide, inT_X2, fun _ => rfl⟩
theorem fp_11_4 (G : GT) : FP G 11 2 4 RX2 TX2 5 .boolean tyX2 (fs_11 G) := ⟨by decide, fun _ => rfl, rfl, by decide, inT_X2, fun _ _ => rfl, fun _ => Nat.le_of_ble_eq_true rfl, rfl, by decide +kernel, tyX2_ok, nmX2⟩
theorem aa_12 (G : GT) : AI G 12 8 := ⟨by decide, fun _ => rfl⟩
theorem aa_13 (G : GT) : AI G 13 64 := ⟨by decide, fun _ => rfl⟩
abbrev fs_14 (G : GT) : (Nat → Int32) → List Value := (fun r => [.ref (aG G 15), .ref (aG G 16)])
theorem fa_14_0 (G : GT) : FA G 14 3 0 RX3 TX3 2 (fs_14 G) (fun _ => .ref (aG G 15)) := ⟨by decide, fun _ => rfl, rfl, by decide, inT_X3, fun _ => rfl⟩
theorem fa_14_1 (G : GT) : FA G 14 3 1 RX3 TX3 2 (fs_14 G) (fun _ => .ref (aG G 16)) := ⟨by decide, fun _ => rfl, rfl, by decide, inT_X3, fun _ => rfl⟩
theorem aa_15 (G : GT) : AI G 15 64 := ⟨by decide, fun _ => rfl⟩
theorem aa_16 (G : GT) : AI G 16 256 := ⟨by decide, fun _ => rfl⟩
theorem aa_17 (G : GT) : AI G 17 224 := ⟨by decide, fun _ => rfl⟩
abbrev fs_18 (G : GT) : (Nat → Int32) → List Value := (fun r => [.ref (aG G 19), .ref (aG G 20)])
theorem fa_18_0 (G : GT) : FA G 18 3 0 RX3 TX3 2 (fs_18 G) (fun _ => .ref (aG G 19)) := ⟨by decide, fun _ => rfl, rfl, by decide, inT_X3, fun _ => rfl⟩
theorem fa_18_1 (G : GT) : FA G 18 3 1 RX3 TX3 2 (fs_18 G) (fun _ => .ref (aG G 20)) := ⟨by decide, fun _ => rfl, rfl, by decide, inT_X3, fun _ => rfl⟩
theorem aa_19 (G : GT) : AI G 19 64 := ⟨by decide, fun _ => rfl⟩
theorem aa_20 (G : GT) : AI G 20 256 := ⟨by decide, fun _ => rfl⟩
abbrev fs_21 (G : GT) : (Nat → Int32) → List Value := (fun r => [.ref (aG G 22), .ref (aG G 25), .ref (aG G 26), .int (r 3), .int (r 4)])
theorem fa_21_0 (G : GT) : FA G 21 7 0 RX7 TX7 5 (fs_21 G) (fun _ => .ref (aG G 22)) := ⟨by decide, fun _ => rfl, rfl, by decide, inT_X7, fun _ => rfl⟩
theorem fa_21_1 (G : GT) : FA G 21 7 1 RX7 TX7 5 (fs_21 G) (fun _ => .ref (aG G 25)) := ⟨by decide, fun _ => rfl, rfl, by decide, inT_X7, fun _ => rfl⟩
theorem fa_21_2 (G : GT) : FA G 21 7 2 RX7 TX7 5 (fs_21 G) (fun _ => .ref (aG G 26)) := ⟨by decide, fun _ => rfl, rfl, by decide, inT_X7, fun _ => rfl⟩
theorem fa_21_3 (G : GT) : FA G 21 7 3 RX7 TX7 5 (fs_21 G) (fun r => .int (r 3)) := ⟨by decide, fun _ => rfl, rfl, by decide, inT_X7, fun _ => rfl⟩
theorem fp_21_3 (G : GT) : FP G 21 7 3 RX7 TX7 5 .int tyX7 (fs_21 G) := ⟨by decide, fun _ => rfl, rfl, by decide, inT_X7, fun _ _ => rfl, fun _ => Nat.le_of_ble_eq_true rfl, rfl, by decide +kernel, tyX7_ok, nmX7⟩
theorem fa_21_4 (G : GT) : FA G 21 7 4 RX7 TX7 5 (fs_21 G) (fun r => .int (r 4)) := ⟨by decide, fun _ => rfl, rfl, by decide, inT_X7, fun _ => rfl⟩
theorem fp_21_4 (G : GT) : FP G 21 7 4 RX7 TX7 5 .int tyX7 (fs_21 G) := ⟨by decide, fun _ => rfl, rfl, by decide, inT_X7, fun _ _ => rfl, fun _ => Nat.le_of_ble_eq_true rfl, rfl, by decide +kernel, tyX7_ok, nmX7⟩
abbrev fs_22 (G : GT) : (Nat → Int32) → List Value := (fun r => [.ref (aG G 23), .ref (aG G 24), .int (r 2), .int (r 3), .int (r 4)])
theorem fa_22_0 (G : GT) : FA G 22 2 0 RX2 TX2 5 (fs_22 G) (fun _ => .ref (aG G 23)) := ⟨by decide, fun _ => rfl, rfl, by decide, inT_X2, fun _ => rfl⟩
theorem fa_22_1 (G : GT) : FA G 22 2 1 RX2 TX2 5 (fs_22 G) (fun _ => .ref (aG G 24)) := ⟨by decide, fun _ => rfl, rfl, by decide, inT_X2, fun _ => rfl⟩
theorem fa_22_2 (G : GT) : FA G 22 2 2 RX2 TX2 5 (fs_22 G) (fun r => .int (r 2)) := ⟨by decide, fun _ => rfl, rfl, by decide, inT_X2, fun _ => rfl⟩
theorem fp_22_2 (G : GT) : FP G 22 2 2 RX2 TX2 5 .int tyX2 (fs_22 G) := ⟨by decide, fun _ => rfl, rfl, by decide, inT_X2, fun _ _ => rfl, fun _ => Nat.le_of_ble_eq_true rfl, rfl, by decide +kernel, tyX2_ok, nmX2⟩
theorem fa_22_3 (G : GT) : FA G 22 2 3 RX2 TX2 5 (fs_22 G) (fun r => .int (r 3)) := ⟨by decide, fun _ => rfl, rfl, by decide, inT_X2, fun _ => rfl⟩
theorem fp_22_3 (G : GT) : FP G 22 2 3 RX2 TX2 5 .int tyX2 (fs_22 G) := ⟨by decide, fun _ => rfl, rfl, by decide, inT_X2, fun _ _ => rfl, fun _ => Nat.le_of_ble_eq_true rfl, rfl, by decide +kernel, tyX2_ok, nmX2⟩
theorem fa_22_4 (G : GT) : FA G 22 2 4 RX2 TX2 5 (fs_22 G) (fun r => .int (r 4)) := ⟨by decide, fun _ => rfl, rfl, by decide, inT_X2, fun _ => rfl⟩
theorem fp_22_4 (G : GT) : FP G 22 2 4 RX2 TX2 5 .boolean tyX2 (fs_22 G) := ⟨by decide, fun _ => rfl, rfl, by decide, inT_X2, fun _ _ => rfl, fun _ => Nat.le_of_ble_eq_true rfl, rfl, by decide +kernel, tyX2_ok, nmX2⟩
theorem aa_23 (G : GT) : AI G 23 8 := ⟨by decide, fun _ => rfl⟩
theorem aa_24 (G : GT) : AI G 24 64 := ⟨by decide, fun _ => rfl⟩
theorem aa_25 (G : GT) : AI G 25 8 := ⟨by decide, fun _ => rfl⟩
theorem aa_26 (G : GT) : AI G 26 8 := ⟨by decide, fun _ => rfl⟩
abbrev fs_27 (G : GT) : (Nat → Int32) → List Value := (fun r => [.ref (aG G 28), .ref (aG G 29), .int (r 2)])
theorem fa_27_0 (G : GT) : FA G 27 9 0 RX9 TX9 3 (fs_27 G) (fun _ => .ref (aG G 28)) := ⟨by decide, fun _ => rfl, rfl, by decide, inT_X9, fun _ => rfl⟩
theorem fa_27_1 (G : GT) : FA G 27 9 1 RX9 TX9 3 (fs_27 G) (fun _ => .ref (aG G 29)) := ⟨by decide, fun _ => rfl, rfl, by decide, inT_X9, fun _ => rfl⟩
theorem fa_27_2 (G : GT) : FA G 27 9 2 RX9 TX9 3 (fs_27 G) (fun r => .int (r 2)) := ⟨by decide, fun _ => rfl, rfl, by decide, inT_X9, fun _ => rfl⟩
theorem fp_27_2 (G : GT) : FP G 27 9 2 RX9 TX9 3 .int tyX9 (fs_27 G) := ⟨by decide, fun _ => rfl, rfl, by decide, inT_X9, fun _ _ => rfl, fun _ => Nat.le_of_ble_eq_true rfl, rfl, by decide +kernel, tyX9_ok, nmX9⟩
theorem aa_28 (G : GT) : AI G 28 8 := ⟨by decide, fun _ => rfl⟩
theorem aa_29 (G : GT) : AI G 29 8 := ⟨by decide, fun _ => rfl⟩
abbrev fs_30 (G : GT) : (Nat → Int32) → List Value := (fun r => [.ref (aG G 31), .ref (aG G 34), .ref (aG G 35), .ref (aG G 36), .ref (aG G 37), .int (r 5), .ref (aG G 38), .int (r 7)])
theorem fa_30_0 (G : GT) : FA G 30 8 0 RX8 TX8 8 (fs_30 G) (fun _ => .ref (aG G 31)) := ⟨by decide, fun _ => rfl, rfl, by decide, inT_X8, fun _ => rfl⟩
theorem fa_30_1 (G : GT) : FA G 30 8 1 RX8 TX8 8 (fs_30 G) (fun _ => .ref (aG G 34)) := ⟨by decide, fun _ => rfl, rfl, by decide, inT_X8, fun _ => rfl⟩
theorem fa_30_2 (G : GT) : FA G 30 8 2 RX8 TX8 8 (fs_30 G) (fun _ => .ref (aG G 35)) := ⟨by decide, fun _ => rfl, rfl, by decide, inT_X8, fun _ => rfl⟩
theorem fa_30_3 (G : GT) : FA G 30 8 3 RX8 TX8 8 (fs_30 G) (fun _ => .ref (aG G 36)) := ⟨by decide, fun _ => rfl, rfl, by decide, inT_X8, fun _ => rfl⟩
theorem fa_30_4 (G : GT) : FA G 30 8 4 RX8 TX8 8 (fs_30 G) (fun _ => .ref (aG G 37)) := ⟨by decide, fun _ => rfl, rfl, by decide, inT_X8, fun _ => rfl⟩
theorem fa_30_5 (G : GT) : FA G 30 8 5 RX8 TX8 8 (fs_30 G) (fun r => .int (r 5)) := ⟨by decide, fun _ => rfl, rfl, by decide, inT_X8, fun _ => rfl⟩
theorem fp_30_5 (G : GT) : FP G 30 8 5 RX8 TX8 8 .int tyX8 (fs_30 G) := ⟨by decide, fun _ => rfl, rfl, by decide, inT_X8, fun _ _ => rfl, fun _ => Nat.le_of_ble_eq_true rfl, rfl, by decide +kernel, tyX8_ok, nmX8⟩
theorem fa_30_6 (G : GT) : FA G 30 8 6 RX8 TX8 8 (fs_30 G) (fun _ => .ref (aG G 38)) := ⟨by decide, fun _ => rfl, rfl, by decide, inT_X8, fun _ => rfl⟩
theorem fa_30_7 (G : GT) : FA G 30 8 7 RX8 TX8 8 (fs_30 G) (fun r => .int (r 7)) := ⟨by decide, fun _ => rfl, rfl, by decide, inT_X8, fun _ => rfl⟩
theorem fp_30_7 (G : GT) : FP G 30 8 7 RX8 TX8 8 .int tyX8 (fs_30 G) := ⟨by decide, fun _ => rfl, rfl, by decide, inT_X8, fun _ _ => rfl, fun _ => Nat.le_of_ble_eq_true rfl, rfl, by decide +kernel, tyX8_ok, nmX8⟩
abbrev fs_31 (G : GT) : (Nat → Int32) → List Value := (fun r => [.ref (aG G 32), .ref (aG G 33), .int (r 2)])
theorem fa_31_0 (G : GT) : FA G 31 9 0 RX9 TX9 3 (fs_31 G) (fun _ => .ref (aG G 32)) := ⟨by decide, fun _ => rfl, rfl, by decide, inT_X9, fun _ => rfl⟩
theorem fa_31_1 (G : GT) : FA G 31 9 1 RX9 TX9 3 (fs_31 G) (fun _ => .ref (aG G 33)) := ⟨by decide, fun _ => rfl, rfl, by decide, inT_X9, fun _ => rfl⟩
theorem fa_31_2 (G : GT) : FA G 31 9 2 RX9 TX9 3 (fs_31 G) (fun r => .int (r 2)) := ⟨by decide, fun _ => rfl, rfl, by decide, inT_X9, fun _ => rfl⟩
theorem fp_31_2 (G : GT) : FP G 31 9 2 RX9 TX9 3 .int tyX9 (fs_31 G) := ⟨by decide, fun _ => rfl, rfl, by decide, inT_X9, fun _ _ => rfl, fun _ => Nat.le_of_ble_eq_true rfl, rfl, by decide +kernel, tyX9_ok, nmX9⟩
theorem aa_32 (G : GT) : AI G 32 8 := ⟨by decide, fun _ => rfl⟩
theorem aa_33 (G : GT) : AI G 33 8 := ⟨by decide, fun _ => rfl⟩
theorem aa_34 (G : GT) : AI G 34 8 := ⟨by decide, fun _ => rfl⟩
theorem aa_35 (G : GT) : AI G 35 12 := ⟨by decide, fun _ => rfl⟩
theorem aa_36 (G : GT) : AI G 36 12 := ⟨by decide, fun _ => rfl⟩
theorem aa_37 (G : GT) : AI G 37 12 := ⟨by decide, fun _ => rfl⟩
theorem aa_38 (G : GT) : AI G 38 12 := ⟨by decide, fun _ => rfl⟩
abbrev fs_39 (G : GT) : (Nat → Int32) → List Value := (fun r => [.ref (aG G 40), .ref (aG G 41), .int (r 2)])
theorem fa_39_0 (G : GT) : FA G 39 5 0 RX5 TX5 3 (fs_39 G) (fun _ => .ref (aG G 40)) := ⟨by decide, fun _ => rfl, rfl, by decide, inT_X5, fun _ => rfl⟩
theorem fa_39_1 (G : GT) : FA G 39 5 1 RX5 TX5 3 (fs_39 G) (fun _ => .ref (aG G 41)) := ⟨by decide, fun _ => rfl, rfl, by decide, inT_X5, fun _ => rfl⟩
theorem fa_39_2 (G : GT) : FA G 39 5 2 RX5 TX5 3 (fs_39 G) (fun r => .int (r 2)) := ⟨by decide, fun _ => rfl, rfl, by decide, inT_X5, fun _ => rfl⟩
theorem fp_39_2 (G : GT) : FP G 39 5 2 RX5 TX5 3 .int tyX5 (fs_39 G) := ⟨by decide, fun _ => rfl, rfl, by decide, inT_X5, fun _ _ => rfl, fun _ => Nat.le_of_ble_eq_true rfl, rfl, by decide +kernel, tyX5_ok, nmX5⟩
theorem aa_40 (G : GT) : AI G 40 300 := ⟨by decide, fun _ => rfl⟩
theorem aa_41 (G : GT) : AI G 41 300 := ⟨by decide, fun _ => rfl⟩
abbrev fs_42 (G : GT) : (Nat → Int32) → List Value := (fun r => [.int (r 0), .int (r 1), .ref (aG G 43), .ref (aG G 44), .int (r 4), .ref (aG G 45), .ref (aG G 46), .ref (aG G 47), .ref (aG G 48), .ref (aG G 49), .int (r 10), .int (r 11), .int (r 12), .int (r 13), .int (r 14), .ref (aG G 50), .ref (aG G 51), .ref (aG G 52), .ref (aG G 53), .int (r 19), .int (r 20), .int (r 21), .ref (aG G 54), .ref (aG G 55), .ref (aG G 56), .ref (aG G 57), .int (r 26), .ref (aG G 58), .int (r 28), .ref (aG G 59), .ref (aG G 60), .ref (aG G 61), .int (r 32), .ref (aG G 62), .int (r 34), .ref (aG G 63), .ref (aG G 64), .ref (aG G 65), .int (r 38)])
theorem fa_42_0 (G : GT) : FA G 42 11 0 RX11 TX11 39 (fs_42 G) (fun r => .int (r 0)) := ⟨by decide, fun _ => rfl, rfl, by decide, inT_X11, fun _ => rfl⟩
theorem fp_42_0 (G : GT) : FP G 42 11 0 RX11 TX11 39 .int tyX11 (fs_42 G) := ⟨by decide, fun _ => rfl, rfl, by decide, inT_X11, fun _ _ => rfl, fun _ => Nat.le_of_ble_eq_true rfl, rfl, by decide +kernel, tyX11_ok, nmX11⟩
theorem fa_42_1 (G : GT) : FA G 42 11 1 RX11 TX11 39 (fs_42 G) (fun r => .int (r 1)) := ⟨by decide, fun _ => rfl, rfl, by decide, inT_X11, fun _ => rfl⟩
theorem fp_42_1 (G : GT) : FP G 42 11 1 RX11 TX11 39 .int tyX11 (fs_42 G) := ⟨by decide, fun _ => rfl, rfl, by decide, inT_X11, fun _ _ => rfl, fun _ => Nat.le_of_ble_eq_true rfl, rfl, by decide +kernel, tyX11_ok, nmX11⟩
theorem fa_42_2 (G : GT) : FA G 42 11 2 RX11 TX11 39 (fs_42 G) (fun _ => .ref (aG G 43)) := ⟨by decide, fun _ => rfl, rfl, by decide, inT_X11, fun _ => rfl⟩
theorem fa_42_3 (G : GT) : FA G 42 11 3 RX11 TX11 39 (fs_42 G) (fun _ => .ref (aG G 44)) := ⟨by decide, fun _ => rfl, rfl, by decide, inT_X11, fun _ => rfl⟩
theorem fa_42_4 (G : GT) : FA G 42 11 4 RX11 TX11 39 (fs_42 G) (fun r => .int (r 4)) := ⟨by decide, fun _ => rfl, rfl, by decide, inT_X11, fun _ => rfl⟩
theorem fp_42_4 (G : GT) : FP G 42 11 4 RX11 TX11 39 .int tyX11 (fs_42 G) := ⟨by decide, fun _ => rfl, rfl, by decide, inT_X11, fun _ _ => rfl, fun _ => Nat.le_of_ble_eq_true rfl, rfl, by decide +kernel, tyX11_ok, nmX11⟩
theorem fa_42_5 (G : GT) : FA G 42 11 5 RX11 TX11 39 (fs_42 G) (fun _ => .ref (aG G 45)) := ⟨by decide, fun _ => rfl, rfl, by decide, inT_X11, fun _ => rfl⟩
theorem fa_42_6 (G : GT) : FA G 42 11 6 RX11 TX11 39 (fs_42 G) (fun _ => .ref (aG G 46)) := ⟨by decide, fun _ => rfl, rfl, by decide, inT_X11, fun _ => rfl⟩
theorem fa_42_7 (G : GT) : FA G 42 11 7 RX11 TX11 39 (fs_42 G) (fun _ => .ref (aG G 47)) := ⟨by decide, fun _ => rfl, rfl, by decide, inT_X11, fun _ => rfl⟩
theorem fa_42_8 (G : GT) : FA G 42 11 8 RX11 TX11 39 (fs_42 G) (fun _ => .ref (aG G 48)) := ⟨by decide, fun _ => rfl, rfl, by decide, inT_X11, fun _ => rfl⟩
theorem fa_42_9 (G : GT) : FA G 42 11 9 RX11 TX11 39 (fs_42 G) (fun _ => .ref (aG G 49)) := ⟨by decide, fun _ => rfl, rfl, by decide, inT_X11, fun _ => rfl⟩
theorem fa_42_10 (G : GT) : FA G 42 11 10 RX11 TX11 39 (fs_42 G) (fun r => .int (r 10)) := ⟨by decide, fun _ => rfl, rfl, by decide, inT_X11, fun _ => rfl⟩
theorem fp_42_10 (G : GT) : FP G 42 11 10 RX11 TX11 39 .int tyX11 (fs_42 G) := ⟨by decide, fun _ => rfl, rfl, by decide, inT_X11, fun _ _ => rfl, fun _ => Nat.le_of_ble_eq_true rfl, rfl, by decide +kernel, tyX11_ok, nmX11⟩
theorem fa_42_11 (G : GT) : FA G 42 11 11 RX11 TX11 39 (fs_42 G) (fun r => .int (r 11)) := ⟨by decide, fun _ => rfl, rfl, by decide, inT_X11, fun _ => rfl⟩
theorem fp_42_11 (G : GT) : FP G 42 11 11 RX11 TX11 39 .int tyX11 (fs_42 G) := ⟨by decide, fun _ => rfl, rfl, by decide, inT_X11, fun _ _ => rfl, fun _ => Nat.le_of_ble_eq_true rfl, rfl, by decide +kernel, tyX11_ok, nmX11⟩
theorem fa_42_12 (G : GT) : FA G 42 11 12 RX11 TX11 39 (fs_42 G) (fun r => .int (r 12)) := ⟨by decide, fun _ => rfl, rfl, by decide, inT_X11, fun _ => rfl⟩
theorem fp_42_12 (G : GT) : FP G 42 11 12 RX11 TX11 39 .boolean tyX11 (fs_42 G) := ⟨by decide, fun _ => rfl, rfl, by decide, inT_X11, fun _ _ => rfl, fun _ => Nat.le_of_ble_eq_true rfl, rfl, by decide +kernel, tyX11_ok, nmX11⟩
theorem fa_42_13 (G : GT) : FA G 42 11 13 RX11 TX11 39 (fs_42 G) (fun r => .int (r 13)) := ⟨by decide, fun _ => rfl, rfl, by decide, inT_X11, fun _ => rfl⟩
theorem fp_42_13 (G : GT) : FP G 42 11 13 RX11 TX11 39 .int tyX11 (fs_42 G) := ⟨by decide, fun _ => rfl, rfl, by decide, inT_X11, fun _ _ => rfl, fun _ => Nat.le_of_ble_eq_true rfl, rfl, by decide +kernel, tyX11_ok, nmX11⟩
theorem fa_42_14 (G : GT) : FA G 42 11 14 RX11 TX11 39 (fs_42 G) (fun r => .int (r 14)) := ⟨by decide, fun _ => rfl, rfl, by decide, inT_X11, fun _ => rfl⟩
theorem fp_42_14 (G : GT) : FP G 42 11 14 RX11 TX11 39 .int tyX11 (fs_42 G) := ⟨by decide, fun _ => rfl, rfl, by decide, inT_X11, fun _ _ => rfl, fun _ => Nat.le_of_ble_eq_true rfl, rfl, by decide +kernel, tyX11_ok, nmX11⟩
theorem fa_42_15 (G : GT) : FA G 42 11 15 RX11 TX11 39 (fs_42 G) (fun _ => .ref (aG G 50)) := ⟨by decide, fun _ => rfl, rfl, by decide, inT_X11, fun _ => rfl⟩
theorem fa_42_16 (G : GT) : FA G 42 11 16 RX11 TX11 39 (fs_42 G) (fun _ => .ref (aG G 51)) := ⟨by decide, fun _ => rfl, rfl, by decide, inT_X11, fun _ => rfl⟩
theorem fa_42_17 (G : GT) : FA G 42 11 17 RX11 TX11 39 (fs_42 G) (fun _ => .ref (aG G 52)) := ⟨by decide, fun _ => rfl, rfl, by decide, inT_X11, fun _ => rfl⟩
theorem fa_42_18 (G : GT) : FA G 42 11 18 RX11 TX11 39 (fs_42 G) (fun _ => .ref (aG G 53)) := ⟨by decide, fun _ => rfl, rfl, by decide, inT_X11, fun _ => rfl⟩
theorem fa_42_19 (G : GT) : FA G 42 11 19 RX11 TX11 39 (fs_42 G) (fun r => .int (r 19)) := ⟨by decide, fun _ => rfl, rfl, by decide, inT_X11, fun _ => rfl⟩
theorem fp_42_19 (G : GT) : FP G 42 11 19 RX11 TX11 39 .boolean tyX11 (fs_42 G) := ⟨by decide, fun _ => rfl, rfl, by decide, inT_X11, fun _ _ => rfl, fun _ => Nat.le_of_ble_eq_true rfl, rfl, by decide +kernel, tyX11_ok, nmX11⟩
theorem fa_42_20 (G : GT) : FA G 42 11 20 RX11 TX11 39 (fs_42 G) (fun r => .int (r 20)) := ⟨by decide, fun _ => rfl, rfl, by decide, inT_X11, fun _ => rfl⟩
theorem fp_42_20 (G : GT) : FP G 42 11 20 RX11 TX11 39 .int tyX11 (fs_42 G) := ⟨by decide, fun _ => rfl, rfl, by decide, inT_X11, fun _ _ => rfl, fun _ => Nat.le_of_ble_eq_true rfl, rfl, by decide +kernel, tyX11_ok, nmX11⟩
theorem fa_42_21 (G : GT) : FA G 42 11 21 RX11 TX11 39 (fs_42 G) (fun r => .int (r 21)) := ⟨by decide, fun _ => rfl, rfl, by decide, inT_X11, fun _ => rfl⟩
theorem fp_42_21 (G : GT) : FP G 42 11 21 RX11 TX11 39 .int tyX11 (fs_42 G) := ⟨by decide, fun _ => rfl, rfl, by decide, inT_X11, fun _ _ => rfl, fun _ => Nat.le_of_ble_eq_true rfl, rfl, by decide +kernel, tyX11_ok, nmX11⟩
theorem fa_42_22 (G : GT) : FA G 42 11 22 RX11 TX11 39 (fs_42 G) (fun _ => .ref (aG G 54)) := ⟨by decide, fun _ => rfl, rfl, by decide, inT_X11, fun _ => rfl⟩
theorem fa_42_23 (G : GT) : FA G 42 11 23 RX11 TX11 39 (fs_42 G) (fun _ => .ref (aG G 55)) := ⟨by decide, fun _ => rfl, rfl, by decide, inT_X11, fun _ => rfl⟩
theorem fa_42_24 (G : GT) : FA G 42 11 24 RX11 TX11 39 (fs_42 G) (fun _ => .ref (aG G 56)) := ⟨by decide, fun _ => rfl, rfl, by decide, inT_X11, fun _ => rfl⟩
theorem fa_42_25 (G : GT) : FA G 42 11 25 RX11 TX11 39 (fs_42 G) (fun _ => .ref (aG G 57)) := ⟨by decide, fun _ => rfl, rfl, by decide, inT_X11, fun _ => rfl⟩
theorem fa_42_26 (G : GT) : FA G 42 11 26 RX11 TX11 39 (fs_42 G) (fun r => .int (r 26)) := ⟨by decide, fun _ => rfl, rfl, by decide, inT_X11, fun _ => rfl⟩
theorem fp_42_26 (G : GT) : FP G 42 11 26 RX11 TX11 39 .int tyX11 (fs_42 G) := ⟨by decide, fun _ => rfl, rfl, by decide, inT_X11, fun _ _ => rfl, fun _ => Nat.le_of_ble_eq_true rfl, rfl, by decide +kernel, tyX11_ok, nmX11⟩
theorem fa_42_27 (G : GT) : FA G 42 11 27 RX11 TX11 39 (fs_42 G) (fun _ => .ref (aG G 58)) := ⟨by decide, fun _ => rfl, rfl, by decide, inT_X11, fun _ => rfl⟩
theorem fa_42_28 (G : GT) : FA G 42 11 28 RX11 TX11 39 (fs_42 G) (fun r => .int (r 28)) := ⟨by decide, fun _ => rfl, rfl, by decide, inT_X11, fun _ => rfl⟩
theorem fp_42_28 (G : GT) : FP G 42 11 28 RX11 TX11 39 .int tyX11 (fs_42 G) := ⟨by decide, fun _ => rfl, rfl, by decide, inT_X11, fun _ _ => rfl, fun _ => Nat.le_of_ble_eq_true rfl, rfl, by decide +kernel, tyX11_ok, nmX11⟩
theorem fa_42_29 (G : GT) : FA G 42 11 29 RX11 TX11 39 (fs_42 G) (fun _ => .ref (aG G 59)) := ⟨by decide, fun _ => rfl, rfl, by decide, inT_X11, fun _ => rfl⟩
theorem fa_42_30 (G : GT) : FA G 42 11 30 RX11 TX11 39 (fs_42 G) (fun _ => .ref (aG G 60)) := ⟨by decide, fun _ => rfl, rfl, by decide, inT_X11, fun _ => rfl⟩
theorem fa_42_31 (G : GT) : FA G 42 11 31 RX11 TX11 39 (fs_42 G) (fun _ => .ref (aG G 61)) := ⟨by decide, fun _ => rfl, rfl, by decide, inT_X11, fun _ => rfl⟩
theorem fa_42_32 (G : GT) : FA G 42 11 32 RX11 TX11 39 (fs_42 G) (fun r => .int (r 32)) := ⟨by decide, fun _ => rfl, rfl, by decide, inT_X11, fun _ => rfl⟩
theorem fp_42_32 (G : GT) : FP G 42 11 32 RX11 TX11 39 .int tyX11 (fs_42 G) := ⟨by decide, fun _ => rfl, rfl, by decide, inT_X11, fun _ _ => rfl, fun _ => Nat.le_of_ble_eq_true rfl, rfl, by decide +kernel, tyX11_ok, nmX11⟩
theorem fa_42_33 (G : GT) : FA G 42 11 33 RX11 TX11 39 (fs_42 G) (fun _ => .ref (aG G 62)) := ⟨by decide, fun _ => rfl, rfl, by decide, inT_X11, fun _ => rfl⟩
theorem fa_42_34 (G : GT) : FA G 42 11 34 RX11 TX11 39 (fs_42 G) (fun r => .int (r 34)) := ⟨by decide, fun _ => rfl, rfl, by decide, inT_X11, fun _ => rfl⟩
theorem fp_42_34 (G : GT) : FP G 42 11 34 RX11 TX11 39 .int tyX11 (fs_42 G) := ⟨by decide, fun _ => rfl, rfl, by decide, inT_X11, fun _ _ => rfl, fun _ => Nat.le_of_ble_eq_true rfl, rfl, by decide +kernel, tyX11_ok, nmX11⟩
theorem fa_42_35 (G : GT) : FA G 42 11 35 RX11 TX11 39 (fs_42 G) (fun _ => .ref (aG G 63)) := ⟨by decide, fun _ => rfl, rfl, by decide, inT_X11, fun _ => rfl⟩
theorem fa_42_36 (G : GT) : FA G 42 11 36 RX11 TX11 39 (fs_42 G) (fun _ => .ref (aG G 64)) := ⟨by decide, fun _ => rfl, rfl, by decide, inT_X11, fun _ => rfl⟩
theorem fa_42_37 (G : GT) : FA G 42 11 37 RX11 TX11 39 (fs_42 G) (fun _ => .ref (aG G 65)) := ⟨by decide, fun _ => rfl, rfl, by decide, inT_X11, fun _ => rfl⟩
theorem fa_42_38 (G : GT) : FA G 42 11 38 RX11 TX11 39 (fs_42 G) (fun r => .int (r 38)) := ⟨by decide, fun _ => rfl, rfl, by decide, inT_X11, fun _ => rfl⟩
theorem fp_42_38 (G : GT) : FP G 42 11 38 RX11 TX11 39 .int tyX11 (fs_42 G) := ⟨by decide, fun _ => rfl, rfl, by decide, inT_X11, fun _ _ => rfl, fun _ => Nat.le_of_ble_eq_true rfl, rfl, by decide +kernel, tyX11_ok, nmX11⟩
theorem aa_43 (G : GT) : AI G 43 8 := ⟨by decide, fun _ => rfl⟩
theorem aa_44 (G : GT) : AI G 44 8 := ⟨by decide, fun _ => rfl⟩
theorem aa_45 (G : GT) : AI G 45 300 := ⟨by decide, fun _ => rfl⟩
theorem aa_46 (G : GT) : AI G 46 300 := ⟨by decide, fun _ => rfl⟩
theorem aa_47 (G : GT) : AI G 47 300 := ⟨by decide, fun _ => rfl⟩
theorem aa_48 (G : GT) : AZ G 48 256 := ⟨by decide, fun _ => rfl⟩
theorem aa_49 (G : GT) : AZ G 49 256 := ⟨by decide, fun _ => rfl⟩
theorem aa_50 (G : GT) : AZ G 50 256 := ⟨by decide, fun _ => rfl⟩
theorem aa_51 (G : GT) : AI G 51 256 := ⟨by decide, fun _ => rfl⟩
theorem aa_52 (G : GT) : AZ G 52 256 := ⟨by decide, fun _ => rfl⟩
theorem aa_53 (G : GT) : AI G 53 256 := ⟨by decide, fun _ => rfl⟩
theorem aa_54 (G : GT) : AI G 54 8 := ⟨by decide, fun _ => rfl⟩
theorem aa_55 (G : GT) : AI G 55 8 := ⟨by decide, fun _ => rfl⟩
theorem aa_56 (G : GT) : AZ G 56 256 := ⟨by decide, fun _ => rfl⟩
theorem aa_57 (G : GT) : AZ G 57 256 := ⟨by decide, fun _ => rfl⟩
theorem aa_58 (G : GT) : AZ G 58 256 := ⟨by decide, fun _ => rfl⟩
theorem aa_59 (G : GT) : AI G 59 12 := ⟨by decide, fun _ => rfl⟩
theorem aa_60 (G : GT) : AI G 60 12 := ⟨by decide, fun _ => rfl⟩
theorem aa_61 (G : GT) : AI G 61 12 := ⟨by decide, fun _ => rfl⟩
theorem aa_62 (G : GT) : AI G 62 12 := ⟨by decide, fun _ => rfl⟩
theorem aa_63 (G : GT) : AI G 63 300 := ⟨by decide, fun _ => rfl⟩
theorem aa_64 (G : GT) : AI G 64 300 := ⟨by decide, fun _ => rfl⟩
theorem aa_65 (G : GT) : AI G 65 300 := ⟨by decide, fun _ => rfl⟩
end
