-- ===== PART A: goes FIRST, ahead of the names: the tables' words, and 'selects' of the private methods out of them =====
/-- a private method of a class that the tables say can be made, by its rows of tables_1 -/
def lw_okq (q : MethodName × Nat) : Prop := (q.1.cls ≠ "java/lang/invoke/MethodHandle" ∧ q.1.cls ≠ "java/lang/invoke/VarHandle") ∧ Cond.instantiable q.1.cls q.2 ∈ tables_1 ∧ Cond.privateMethod q.1 ∈ tables_1 ∧ Cond.instanceMethod q.1 ∈ tables_1
theorem lw_p0 : lw_okq (⟨"FairBlocks$Text", "figure", "(I)I"⟩, 2) := ⟨⟨by decide +kernel, by decide +kernel⟩, List.mem_of_getElem? (i := 25) (by decide +kernel), List.mem_of_getElem? (i := 377) (by decide +kernel), List.mem_of_getElem? (i := 378) (by decide +kernel)⟩
theorem lw_p1 : lw_okq (⟨"FairBlocks$Scheduler", "comeIn", "(LFairBlocks$Standing;)V"⟩, 5) := ⟨⟨by decide +kernel, by decide +kernel⟩, List.mem_of_getElem? (i := 166) (by decide +kernel), List.mem_of_getElem? (i := 434) (by decide +kernel), List.mem_of_getElem? (i := 435) (by decide +kernel)⟩
theorem lw_p2 : lw_okq (⟨"FairBlocks$Scheduler", "dueFor", "(LFairBlocks$Standing;I)I"⟩, 5) := ⟨⟨by decide +kernel, by decide +kernel⟩, List.mem_of_getElem? (i := 166) (by decide +kernel), List.mem_of_getElem? (i := 443) (by decide +kernel), List.mem_of_getElem? (i := 444) (by decide +kernel)⟩
theorem lw_p3 : lw_okq (⟨"FairBlocks$Scheduler", "mayHave", "(LFairBlocks$User;II)Z"⟩, 5) := ⟨⟨by decide +kernel, by decide +kernel⟩, List.mem_of_getElem? (i := 166) (by decide +kernel), List.mem_of_getElem? (i := 447) (by decide +kernel), List.mem_of_getElem? (i := 448) (by decide +kernel)⟩
theorem lw_p4 : lw_okq (⟨"FairBlocks$Scheduler", "isBefore", "(LFairBlocks$Standing;II)Z"⟩, 5) := ⟨⟨by decide +kernel, by decide +kernel⟩, List.mem_of_getElem? (i := 166) (by decide +kernel), List.mem_of_getElem? (i := 451) (by decide +kernel), List.mem_of_getElem? (i := 452) (by decide +kernel)⟩
theorem lw_p5 : lw_okq (⟨"FairBlocks$Scheduler", "endSlot", "(LFairBlocks$Standing;)I"⟩, 5) := ⟨⟨by decide +kernel, by decide +kernel⟩, List.mem_of_getElem? (i := 166) (by decide +kernel), List.mem_of_getElem? (i := 462) (by decide +kernel), List.mem_of_getElem? (i := 463) (by decide +kernel)⟩
theorem lw_p6 : lw_okq (⟨"FairBlocks$Outlook", "leastGain", "(LFairBlocks$Standing;)I"⟩, 1) := ⟨⟨by decide +kernel, by decide +kernel⟩, List.mem_of_getElem? (i := 237) (by decide +kernel), List.mem_of_getElem? (i := 553) (by decide +kernel), List.mem_of_getElem? (i := 554) (by decide +kernel)⟩
theorem lw_p7 : lw_okq (⟨"FairBlocks$Court", "holds", "(LFairBlocks$Standing;III)Z"⟩, 2) := ⟨⟨by decide +kernel, by decide +kernel⟩, List.mem_of_getElem? (i := 248) (by decide +kernel), List.mem_of_getElem? (i := 574) (by decide +kernel), List.mem_of_getElem? (i := 575) (by decide +kernel)⟩
theorem lw_p8 : lw_okq (⟨"FairBlocks$Court", "holderBehind", "(LFairBlocks$Standing;I)I"⟩, 2) := ⟨⟨by decide +kernel, by decide +kernel⟩, List.mem_of_getElem? (i := 248) (by decide +kernel), List.mem_of_getElem? (i := 587) (by decide +kernel), List.mem_of_getElem? (i := 588) (by decide +kernel)⟩
theorem lw_p9 : lw_okq (⟨"FairBlocks$Sightings", "fits", "(I)Z"⟩, 7) := ⟨⟨by decide +kernel, by decide +kernel⟩, List.mem_of_getElem? (i := 263) (by decide +kernel), List.mem_of_getElem? (i := 615) (by decide +kernel), List.mem_of_getElem? (i := 616) (by decide +kernel)⟩
theorem lw_p10 : lw_okq (⟨"FairBlocks$Sightings", "lastSlot", "()I"⟩, 7) := ⟨⟨by decide +kernel, by decide +kernel⟩, List.mem_of_getElem? (i := 263) (by decide +kernel), List.mem_of_getElem? (i := 620) (by decide +kernel), List.mem_of_getElem? (i := 621) (by decide +kernel)⟩
theorem lw_p11 : lw_okq (⟨"FairBlocks$Sightings", "fitsBehind", "(LFairBlocks$Standing;I)Z"⟩, 7) := ⟨⟨by decide +kernel, by decide +kernel⟩, List.mem_of_getElem? (i := 263) (by decide +kernel), List.mem_of_getElem? (i := 626) (by decide +kernel), List.mem_of_getElem? (i := 627) (by decide +kernel)⟩
theorem lw_p12 : lw_okq (⟨"FairBlocks$Chances", "gotWith", "(I)I"⟩, 1) := ⟨⟨by decide +kernel, by decide +kernel⟩, List.mem_of_getElem? (i := 292) (by decide +kernel), List.mem_of_getElem? (i := 656) (by decide +kernel), List.mem_of_getElem? (i := 657) (by decide +kernel)⟩
theorem lw_p13 : lw_okq (⟨"FairBlocks$Chances", "isEmptyBehind", "(III)Z"⟩, 1) := ⟨⟨by decide +kernel, by decide +kernel⟩, List.mem_of_getElem? (i := 292) (by decide +kernel), List.mem_of_getElem? (i := 682) (by decide +kernel), List.mem_of_getElem? (i := 683) (by decide +kernel)⟩
theorem lw_p14 : lw_okq (⟨"FairBlocksModel", "readCell", "()I"⟩, 32) := ⟨⟨by decide +kernel, by decide +kernel⟩, List.mem_of_getElem? (i := 718) (by decide +kernel), List.mem_of_getElem? (i := 837) (by decide +kernel), List.mem_of_getElem? (i := 838) (by decide +kernel)⟩
theorem lw_p15 : lw_okq (⟨"FairBlocksModel", "readHead", "()Z"⟩, 32) := ⟨⟨by decide +kernel, by decide +kernel⟩, List.mem_of_getElem? (i := 718) (by decide +kernel), List.mem_of_getElem? (i := 841) (by decide +kernel), List.mem_of_getElem? (i := 842) (by decide +kernel)⟩
def lw_privs_1 : List (MethodName × Nat) := [(⟨"FairBlocks$Text", "figure", "(I)I"⟩, 2), (⟨"FairBlocks$Scheduler", "comeIn", "(LFairBlocks$Standing;)V"⟩, 5), (⟨"FairBlocks$Scheduler", "dueFor", "(LFairBlocks$Standing;I)I"⟩, 5), (⟨"FairBlocks$Scheduler", "mayHave", "(LFairBlocks$User;II)Z"⟩, 5), (⟨"FairBlocks$Scheduler", "isBefore", "(LFairBlocks$Standing;II)Z"⟩, 5), (⟨"FairBlocks$Scheduler", "endSlot", "(LFairBlocks$Standing;)I"⟩, 5), (⟨"FairBlocks$Outlook", "leastGain", "(LFairBlocks$Standing;)I"⟩, 1), (⟨"FairBlocks$Court", "holds", "(LFairBlocks$Standing;III)Z"⟩, 2), (⟨"FairBlocks$Court", "holderBehind", "(LFairBlocks$Standing;I)I"⟩, 2), (⟨"FairBlocks$Sightings", "fits", "(I)Z"⟩, 7), (⟨"FairBlocks$Sightings", "lastSlot", "()I"⟩, 7), (⟨"FairBlocks$Sightings", "fitsBehind", "(LFairBlocks$Standing;I)Z"⟩, 7), (⟨"FairBlocks$Chances", "gotWith", "(I)I"⟩, 1), (⟨"FairBlocks$Chances", "isEmptyBehind", "(III)Z"⟩, 1), (⟨"FairBlocksModel", "readCell", "()I"⟩, 32), (⟨"FairBlocksModel", "readHead", "()Z"⟩, 32)]
theorem lw_r1 : ∀ q ∈ lw_privs_1, lw_okq q := List.forall_mem_cons.mpr ⟨lw_p0, List.forall_mem_cons.mpr ⟨lw_p1, List.forall_mem_cons.mpr ⟨lw_p2, List.forall_mem_cons.mpr ⟨lw_p3, List.forall_mem_cons.mpr ⟨lw_p4, List.forall_mem_cons.mpr ⟨lw_p5, List.forall_mem_cons.mpr ⟨lw_p6, List.forall_mem_cons.mpr ⟨lw_p7, List.forall_mem_cons.mpr ⟨lw_p8, List.forall_mem_cons.mpr ⟨lw_p9, List.forall_mem_cons.mpr ⟨lw_p10, List.forall_mem_cons.mpr ⟨lw_p11, List.forall_mem_cons.mpr ⟨lw_p12, List.forall_mem_cons.mpr ⟨lw_p13, List.forall_mem_cons.mpr ⟨lw_p14, List.forall_mem_cons.mpr ⟨lw_p15, fun _ h => absurd h List.not_mem_nil⟩⟩⟩⟩⟩⟩⟩⟩⟩⟩⟩⟩⟩⟩⟩⟩
theorem lw_p16 : lw_okq (⟨"FairBlocksModel", "figure", "(II)I"⟩, 32) := ⟨⟨by decide +kernel, by decide +kernel⟩, List.mem_of_getElem? (i := 718) (by decide +kernel), List.mem_of_getElem? (i := 845) (by decide +kernel), List.mem_of_getElem? (i := 846) (by decide +kernel)⟩
theorem lw_p17 : lw_okq (⟨"FairBlocksModel", "readUser", "()Z"⟩, 32) := ⟨⟨by decide +kernel, by decide +kernel⟩, List.mem_of_getElem? (i := 718) (by decide +kernel), List.mem_of_getElem? (i := 849) (by decide +kernel), List.mem_of_getElem? (i := 850) (by decide +kernel)⟩
theorem lw_p18 : lw_okq (⟨"FairBlocksModel", "noUser", "(I)Z"⟩, 32) := ⟨⟨by decide +kernel, by decide +kernel⟩, List.mem_of_getElem? (i := 718) (by decide +kernel), List.mem_of_getElem? (i := 861) (by decide +kernel), List.mem_of_getElem? (i := 862) (by decide +kernel)⟩
theorem lw_p19 : lw_okq (⟨"FairBlocksModel", "rateOf", "([II)I"⟩, 32) := ⟨⟨by decide +kernel, by decide +kernel⟩, List.mem_of_getElem? (i := 718) (by decide +kernel), List.mem_of_getElem? (i := 866) (by decide +kernel), List.mem_of_getElem? (i := 867) (by decide +kernel)⟩
theorem lw_p20 : lw_okq (⟨"FairBlocksModel", "note", "()V"⟩, 32) := ⟨⟨by decide +kernel, by decide +kernel⟩, List.mem_of_getElem? (i := 718) (by decide +kernel), List.mem_of_getElem? (i := 875) (by decide +kernel), List.mem_of_getElem? (i := 876) (by decide +kernel)⟩
theorem lw_p21 : lw_okq (⟨"FairBlocksModel", "slotsOn", "([II)I"⟩, 32) := ⟨⟨by decide +kernel, by decide +kernel⟩, List.mem_of_getElem? (i := 718) (by decide +kernel), List.mem_of_getElem? (i := 879) (by decide +kernel), List.mem_of_getElem? (i := 880) (by decide +kernel)⟩
theorem lw_p22 : lw_okq (⟨"FairBlocksModel", "slotOn", "([IZ)I"⟩, 32) := ⟨⟨by decide +kernel, by decide +kernel⟩, List.mem_of_getElem? (i := 718) (by decide +kernel), List.mem_of_getElem? (i := 883) (by decide +kernel), List.mem_of_getElem? (i := 884) (by decide +kernel)⟩
theorem lw_p23 : lw_okq (⟨"FairBlocksModel", "whoHas", "([II)I"⟩, 32) := ⟨⟨by decide +kernel, by decide +kernel⟩, List.mem_of_getElem? (i := 718) (by decide +kernel), List.mem_of_getElem? (i := 887) (by decide +kernel), List.mem_of_getElem? (i := 888) (by decide +kernel)⟩
theorem lw_p24 : lw_okq (⟨"FairBlocksModel", "may", "([III)Z"⟩, 32) := ⟨⟨by decide +kernel, by decide +kernel⟩, List.mem_of_getElem? (i := 718) (by decide +kernel), List.mem_of_getElem? (i := 891) (by decide +kernel), List.mem_of_getElem? (i := 892) (by decide +kernel)⟩
theorem lw_p25 : lw_okq (⟨"FairBlocksModel", "hadSome", "(II)Z"⟩, 32) := ⟨⟨by decide +kernel, by decide +kernel⟩, List.mem_of_getElem? (i := 718) (by decide +kernel), List.mem_of_getElem? (i := 898) (by decide +kernel), List.mem_of_getElem? (i := 899) (by decide +kernel)⟩
theorem lw_p26 : lw_okq (⟨"FairBlocksModel", "urgent", "([II)I"⟩, 32) := ⟨⟨by decide +kernel, by decide +kernel⟩, List.mem_of_getElem? (i := 718) (by decide +kernel), List.mem_of_getElem? (i := 902) (by decide +kernel), List.mem_of_getElem? (i := 903) (by decide +kernel)⟩
theorem lw_p27 : lw_okq (⟨"FairBlocksModel", "isDue", "([III)Z"⟩, 32) := ⟨⟨by decide +kernel, by decide +kernel⟩, List.mem_of_getElem? (i := 718) (by decide +kernel), List.mem_of_getElem? (i := 906) (by decide +kernel), List.mem_of_getElem? (i := 907) (by decide +kernel)⟩
theorem lw_p28 : lw_okq (⟨"FairBlocksModel", "sends", "([II)V"⟩, 32) := ⟨⟨by decide +kernel, by decide +kernel⟩, List.mem_of_getElem? (i := 718) (by decide +kernel), List.mem_of_getElem? (i := 910) (by decide +kernel), List.mem_of_getElem? (i := 911) (by decide +kernel)⟩
theorem lw_p29 : lw_okq (⟨"FairBlocksModel", "layTrial", "()V"⟩, 32) := ⟨⟨by decide +kernel, by decide +kernel⟩, List.mem_of_getElem? (i := 718) (by decide +kernel), List.mem_of_getElem? (i := 941) (by decide +kernel), List.mem_of_getElem? (i := 942) (by decide +kernel)⟩
theorem lw_p30 : lw_okq (⟨"FairBlocksModel", "whoNext", "([II)I"⟩, 32) := ⟨⟨by decide +kernel, by decide +kernel⟩, List.mem_of_getElem? (i := 718) (by decide +kernel), List.mem_of_getElem? (i := 949) (by decide +kernel), List.mem_of_getElem? (i := 950) (by decide +kernel)⟩
theorem lw_p31 : lw_okq (⟨"FairBlocksModel", "does", "(III)Z"⟩, 32) := ⟨⟨by decide +kernel, by decide +kernel⟩, List.mem_of_getElem? (i := 718) (by decide +kernel), List.mem_of_getElem? (i := 974) (by decide +kernel), List.mem_of_getElem? (i := 975) (by decide +kernel)⟩
def lw_privs_2 : List (MethodName × Nat) := [(⟨"FairBlocksModel", "figure", "(II)I"⟩, 32), (⟨"FairBlocksModel", "readUser", "()Z"⟩, 32), (⟨"FairBlocksModel", "noUser", "(I)Z"⟩, 32), (⟨"FairBlocksModel", "rateOf", "([II)I"⟩, 32), (⟨"FairBlocksModel", "note", "()V"⟩, 32), (⟨"FairBlocksModel", "slotsOn", "([II)I"⟩, 32), (⟨"FairBlocksModel", "slotOn", "([IZ)I"⟩, 32), (⟨"FairBlocksModel", "whoHas", "([II)I"⟩, 32), (⟨"FairBlocksModel", "may", "([III)Z"⟩, 32), (⟨"FairBlocksModel", "hadSome", "(II)Z"⟩, 32), (⟨"FairBlocksModel", "urgent", "([II)I"⟩, 32), (⟨"FairBlocksModel", "isDue", "([III)Z"⟩, 32), (⟨"FairBlocksModel", "sends", "([II)V"⟩, 32), (⟨"FairBlocksModel", "layTrial", "()V"⟩, 32), (⟨"FairBlocksModel", "whoNext", "([II)I"⟩, 32), (⟨"FairBlocksModel", "does", "(III)Z"⟩, 32)]
theorem lw_r2 : ∀ q ∈ lw_privs_2, lw_okq q := List.forall_mem_cons.mpr ⟨lw_p16, List.forall_mem_cons.mpr ⟨lw_p17, List.forall_mem_cons.mpr ⟨lw_p18, List.forall_mem_cons.mpr ⟨lw_p19, List.forall_mem_cons.mpr ⟨lw_p20, List.forall_mem_cons.mpr ⟨lw_p21, List.forall_mem_cons.mpr ⟨lw_p22, List.forall_mem_cons.mpr ⟨lw_p23, List.forall_mem_cons.mpr ⟨lw_p24, List.forall_mem_cons.mpr ⟨lw_p25, List.forall_mem_cons.mpr ⟨lw_p26, List.forall_mem_cons.mpr ⟨lw_p27, List.forall_mem_cons.mpr ⟨lw_p28, List.forall_mem_cons.mpr ⟨lw_p29, List.forall_mem_cons.mpr ⟨lw_p30, List.forall_mem_cons.mpr ⟨lw_p31, fun _ h => absurd h List.not_mem_nil⟩⟩⟩⟩⟩⟩⟩⟩⟩⟩⟩⟩⟩⟩⟩⟩
theorem lw_p32 : lw_okq (⟨"FairBlocksModel", "whoTried", "(I)I"⟩, 32) := ⟨⟨by decide +kernel, by decide +kernel⟩, List.mem_of_getElem? (i := 718) (by decide +kernel), List.mem_of_getElem? (i := 978) (by decide +kernel), List.mem_of_getElem? (i := 979) (by decide +kernel)⟩
theorem lw_p33 : lw_okq (⟨"FairBlocksModel", "isSo", "(II)Z"⟩, 32) := ⟨⟨by decide +kernel, by decide +kernel⟩, List.mem_of_getElem? (i := 718) (by decide +kernel), List.mem_of_getElem? (i := 994) (by decide +kernel), List.mem_of_getElem? (i := 995) (by decide +kernel)⟩
theorem lw_p34 : lw_okq (⟨"FairBlocksModel", "offOnes", "()I"⟩, 32) := ⟨⟨by decide +kernel, by decide +kernel⟩, List.mem_of_getElem? (i := 718) (by decide +kernel), List.mem_of_getElem? (i := 1002) (by decide +kernel), List.mem_of_getElem? (i := 1003) (by decide +kernel)⟩
theorem lw_p35 : lw_okq (⟨"FairBlocksModel", "gotBy", "(I)I"⟩, 32) := ⟨⟨by decide +kernel, by decide +kernel⟩, List.mem_of_getElem? (i := 718) (by decide +kernel), List.mem_of_getElem? (i := 1015) (by decide +kernel), List.mem_of_getElem? (i := 1016) (by decide +kernel)⟩
theorem lw_p36 : lw_okq (⟨"FairBlocksModel", "waiting", "()I"⟩, 32) := ⟨⟨by decide +kernel, by decide +kernel⟩, List.mem_of_getElem? (i := 718) (by decide +kernel), List.mem_of_getElem? (i := 1056) (by decide +kernel), List.mem_of_getElem? (i := 1057) (by decide +kernel)⟩
def lw_privs_3 : List (MethodName × Nat) := [(⟨"FairBlocksModel", "whoTried", "(I)I"⟩, 32), (⟨"FairBlocksModel", "isSo", "(II)Z"⟩, 32), (⟨"FairBlocksModel", "offOnes", "()I"⟩, 32), (⟨"FairBlocksModel", "gotBy", "(I)I"⟩, 32), (⟨"FairBlocksModel", "waiting", "()I"⟩, 32)]
theorem lw_r3 : ∀ q ∈ lw_privs_3, lw_okq q := List.forall_mem_cons.mpr ⟨lw_p32, List.forall_mem_cons.mpr ⟨lw_p33, List.forall_mem_cons.mpr ⟨lw_p34, List.forall_mem_cons.mpr ⟨lw_p35, List.forall_mem_cons.mpr ⟨lw_p36, fun _ h => absurd h List.not_mem_nil⟩⟩⟩⟩⟩
def lw_privs : List (MethodName × Nat) := lw_privs_1 ++ (lw_privs_2 ++ (lw_privs_3))
def lw_tbl : List Cond := k2_sels lw_privs ++ tables_1
theorem lw_privs_ok : ∀ q ∈ lw_privs, lw_okq q := by
  show ∀ q ∈ lw_privs_1 ++ (lw_privs_2 ++ (lw_privs_3)), lw_okq q
  exact List.forall_mem_append.mpr ⟨lw_r1, List.forall_mem_append.mpr ⟨lw_r2, lw_r3⟩⟩

def RX0 : String := "FairBlocks$Acts"
def TX0 : u_T := fun k => match k with
  | 0 => ("FairBlocks$Acts", "before", "[LFairBlocks$Standing;", true)
  | 1 => ("FairBlocks$Acts", "first", "I", false)
  | _ => ("FairBlocks$Acts", "size", "I", false)
def tyX0 : Nat → FieldType := fun k => match k with
  | 0 => .array (.object "FairBlocks$Standing")
  | 1 => .int
  | _ => .int
theorem nmX0 : ∀ a, a < 3 → ∀ b, b < 3 → a ≠ b → (TX0 a).2.1 ≠ (TX0 b).2.1 := by decide +kernel
theorem tyX0_ok : ∀ k, k < 3 → parseFieldDescriptor (TX0 k).2.2.1 = some (tyX0 k) := by decide +kernel
abbrev cX0_init : ByteArray := prog_2_method_1_code
def yX0_init : MethodName := ⟨RX0, "<init>", "()V"⟩
abbrev cX0_remember : ByteArray := prog_2_method_2_code
def yX0_remember : MethodName := ⟨RX0, "remember", "(LFairBlocks$Standing;)V"⟩
abbrev cX0_takeBack : ByteArray := prog_2_method_3_code
def yX0_takeBack : MethodName := ⟨RX0, "takeBack", "(LFairBlocks$Standing;)V"⟩
abbrev cX0_forgetAll : ByteArray := prog_2_method_4_code
def yX0_forgetAll : MethodName := ⟨RX0, "forgetAll", "()V"⟩
def RX1 : String := "FairBlocks$Bench"
def TX1 : u_T := fun k => match k with
  | 0 => ("FairBlocks$Bench", "plan", "LFairBlocks$Plan;", true)
  | 1 => ("FairBlocks$Bench", "live", "LFairBlocks$Standing;", true)
  | 2 => ("FairBlocks$Bench", "trial", "LFairBlocks$Standing;", true)
  | _ => ("FairBlocks$Bench", "scheduler", "LFairBlocks$Scheduler;", true)
def tyX1 : Nat → FieldType := fun k => match k with
  | 0 => .object "FairBlocks$Plan"
  | 1 => .object "FairBlocks$Standing"
  | 2 => .object "FairBlocks$Standing"
  | _ => .object "FairBlocks$Scheduler"
theorem nmX1 : ∀ a, a < 4 → ∀ b, b < 4 → a ≠ b → (TX1 a).2.1 ≠ (TX1 b).2.1 := by decide +kernel
theorem tyX1_ok : ∀ k, k < 4 → parseFieldDescriptor (TX1 k).2.2.1 = some (tyX1 k) := by decide +kernel
abbrev cX1_init : ByteArray := prog_3_method_1_code
def yX1_init : MethodName := ⟨RX1, "<init>", "()V"⟩
abbrev cX1_freshTrial : ByteArray := prog_3_method_2_code
def yX1_freshTrial : MethodName := ⟨RX1, "freshTrial", "()LFairBlocks$Standing;"⟩
def RX2 : String := "FairBlocks$Chances"
def TX2 : u_T := fun k => match k with
  | _ => ("FairBlocks$Chances", "bench", "LFairBlocks$Bench;", true)
def tyX2 : Nat → FieldType := fun k => match k with
  | _ => .object "FairBlocks$Bench"
theorem nmX2 : ∀ a, a < 1 → ∀ b, b < 1 → a ≠ b → (TX2 a).2.1 ≠ (TX2 b).2.1 := by decide +kernel
theorem tyX2_ok : ∀ k, k < 1 → parseFieldDescriptor (TX2 k).2.2.1 = some (tyX2 k) := by decide +kernel
abbrev cX2_init : ByteArray := prog_4_method_1_code
def yX2_init : MethodName := ⟨RX2, "<init>", "(LFairBlocks$Bench;)V"⟩
abbrev cX2_shareOf : ByteArray := prog_4_method_2_code
def yX2_shareOf : MethodName := ⟨RX2, "shareOf", "(IZ)I"⟩
abbrev cX2_gotWith : ByteArray := prog_4_method_3_code
def yX2_gotWith : MethodName := ⟨RX2, "gotWith", "(I)I"⟩
abbrev cX2_emptyBehind : ByteArray := prog_4_method_4_code
def yX2_emptyBehind : MethodName := ⟨RX2, "emptyBehind", "(IIIZ)I"⟩
abbrev cX2_isEmptyBehind : ByteArray := prog_4_method_5_code
def yX2_isEmptyBehind : MethodName := ⟨RX2, "isEmptyBehind", "(III)Z"⟩
abbrev cX2_power : ByteArray := prog_4_method_6_code
def yX2_power : MethodName := ⟨RX2, "power", "(II)I"⟩
abbrev cX2_factorial : ByteArray := prog_4_method_7_code
def yX2_factorial : MethodName := ⟨RX2, "factorial", "(I)I"⟩
abbrev cX2_fraction : ByteArray := prog_4_method_8_code
def yX2_fraction : MethodName := ⟨RX2, "fraction", "(IIZ)I"⟩
abbrev cX2_commonDivisor : ByteArray := prog_4_method_9_code
def yX2_commonDivisor : MethodName := ⟨RX2, "commonDivisor", "(II)I"⟩
def RX3 : String := "FairBlocks$Court"
def TX3 : u_T := fun k => match k with
  | 0 => ("FairBlocks$Court", "bench", "LFairBlocks$Bench;", true)
  | _ => ("FairBlocks$Court", "peek", "LFairBlocks$Standing;", true)
def tyX3 : Nat → FieldType := fun k => match k with
  | 0 => .object "FairBlocks$Bench"
  | _ => .object "FairBlocks$Standing"
theorem nmX3 : ∀ a, a < 2 → ∀ b, b < 2 → a ≠ b → (TX3 a).2.1 ≠ (TX3 b).2.1 := by decide +kernel
theorem tyX3_ok : ∀ k, k < 2 → parseFieldDescriptor (TX3 k).2.2.1 = some (tyX3 k) := by decide +kernel
abbrev cX3_init : ByteArray := prog_5_method_1_code
def yX3_init : MethodName := ⟨RX3, "<init>", "(LFairBlocks$Bench;)V"⟩
abbrev cX3_leastTooLong : ByteArray := prog_5_method_2_code
def yX3_leastTooLong : MethodName := ⟨RX3, "leastTooLong", "(I)J"⟩
abbrev cX3_firstWrong : ByteArray := prog_5_method_3_code
def yX3_firstWrong : MethodName := ⟨RX3, "firstWrong", "(IJ)I"⟩
abbrev cX3_doingAt : ByteArray := prog_5_method_4_code
def yX3_doingAt : MethodName := ⟨RX3, "doingAt", "(JI)I"⟩
abbrev cX3_holds : ByteArray := prog_5_method_5_code
def yX3_holds : MethodName := ⟨RX3, "holds", "(LFairBlocks$Standing;III)Z"⟩
abbrev cX3_turnsOrDrops : ByteArray := prog_5_method_6_code
def yX3_turnsOrDrops : MethodName := ⟨RX3, "turnsOrDrops", "(ILFairBlocks$User;)Z"⟩
abbrev cX3_weighs : ByteArray := prog_5_method_7_code
def yX3_weighs : MethodName := ⟨RX3, "weighs", "(LFairBlocks$User;I)Z"⟩
abbrev cX3_holderBehind : ByteArray := prog_5_method_8_code
def yX3_holderBehind : MethodName := ⟨RX3, "holderBehind", "(LFairBlocks$Standing;I)I"⟩
def RX4 : String := "FairBlocks$Outlook"
def TX4 : u_T := fun k => match k with
  | _ => ("FairBlocks$Outlook", "bench", "LFairBlocks$Bench;", true)
def tyX4 : Nat → FieldType := fun k => match k with
  | _ => .object "FairBlocks$Bench"
theorem nmX4 : ∀ a, a < 1 → ∀ b, b < 1 → a ≠ b → (TX4 a).2.1 ≠ (TX4 b).2.1 := by decide +kernel
theorem tyX4_ok : ∀ k, k < 1 → parseFieldDescriptor (TX4 k).2.2.1 = some (tyX4 k) := by decide +kernel
abbrev cX4_init : ByteArray := prog_6_method_1_code
def yX4_init : MethodName := ⟨RX4, "<init>", "(LFairBlocks$Bench;)V"⟩
abbrev cX4_longestWait : ByteArray := prog_6_method_2_code
def yX4_longestWait : MethodName := ⟨RX4, "longestWait", "(II)I"⟩
abbrev cX4_slotsUntilEmpty : ByteArray := prog_6_method_3_code
def yX4_slotsUntilEmpty : MethodName := ⟨RX4, "slotsUntilEmpty", "(I)I"⟩
abbrev cX4_bestWeight : ByteArray := prog_6_method_4_code
def yX4_bestWeight : MethodName := ⟨RX4, "bestWeight", "(I)I"⟩
abbrev cX4_leastGain : ByteArray := prog_6_method_5_code
def yX4_leastGain : MethodName := ⟨RX4, "leastGain", "(LFairBlocks$Standing;)I"⟩
def RX5 : String := "FairBlocks$Plan"
def TX5 : u_T := fun k => match k with
  | 0 => ("FairBlocks$Plan", "blocks", "I", false)
  | 1 => ("FairBlocks$Plan", "shift", "I", false)
  | 2 => ("FairBlocks$Plan", "users", "I", false)
  | 3 => ("FairBlocks$Plan", "rates", "[I", true)
  | _ => ("FairBlocks$Plan", "rateCounts", "[I", true)
def tyX5 : Nat → FieldType := fun k => match k with
  | 0 => .int
  | 1 => .int
  | 2 => .int
  | 3 => .array .int
  | _ => .array .int
theorem nmX5 : ∀ a, a < 5 → ∀ b, b < 5 → a ≠ b → (TX5 a).2.1 ≠ (TX5 b).2.1 := by decide +kernel
theorem tyX5_ok : ∀ k, k < 5 → parseFieldDescriptor (TX5 k).2.2.1 = some (tyX5 k) := by decide +kernel
abbrev cX5_init : ByteArray := prog_7_method_1_code
def yX5_init : MethodName := ⟨RX5, "<init>", "()V"⟩
abbrev cX5_has : ByteArray := prog_7_method_2_code
def yX5_has : MethodName := ⟨RX5, "has", "(I)Z"⟩
abbrev cX5_setRate : ByteArray := prog_7_method_3_code
def yX5_setRate : MethodName := ⟨RX5, "setRate", "(III)V"⟩
abbrev cX5_rateOf : ByteArray := prog_7_method_4_code
def yX5_rateOf : MethodName := ⟨RX5, "rateOf", "(II)I"⟩
def RX6 : String := "FairBlocks$Scheduler"
def TX6 : u_T := fun k => match k with
  | 0 => ("FairBlocks$Scheduler", "plan", "LFairBlocks$Plan;", true)
  | 1 => ("FairBlocks$Scheduler", "rates", "[I", true)
  | 2 => ("FairBlocks$Scheduler", "latestBlock", "[I", true)
  | 3 => ("FairBlocks$Scheduler", "gotNow", "[I", true)
  | _ => ("FairBlocks$Scheduler", "holders", "[I", true)
def tyX6 : Nat → FieldType := fun k => match k with
  | 0 => .object "FairBlocks$Plan"
  | 1 => .array .int
  | 2 => .array .int
  | 3 => .array .int
  | _ => .array .int
theorem nmX6 : ∀ a, a < 5 → ∀ b, b < 5 → a ≠ b → (TX6 a).2.1 ≠ (TX6 b).2.1 := by decide +kernel
theorem tyX6_ok : ∀ k, k < 5 → parseFieldDescriptor (TX6 k).2.2.1 = some (tyX6 k) := by decide +kernel
abbrev cX6_init : ByteArray := prog_8_method_1_code
def yX6_init : MethodName := ⟨RX6, "<init>", "(LFairBlocks$Plan;)V"⟩
abbrev cX6_run : ByteArray := prog_8_method_2_code
def yX6_run : MethodName := ⟨RX6, "run", "(LFairBlocks$Standing;I)I"⟩
abbrev cX6_runOne : ByteArray := prog_8_method_3_code
def yX6_runOne : MethodName := ⟨RX6, "runOne", "(LFairBlocks$Standing;Z)I"⟩
abbrev cX6_holderOf : ByteArray := prog_8_method_4_code
def yX6_holderOf : MethodName := ⟨RX6, "holderOf", "(I)I"⟩
abbrev cX6_comeIn : ByteArray := prog_8_method_5_code
def yX6_comeIn : MethodName := ⟨RX6, "comeIn", "(LFairBlocks$Standing;)V"⟩
abbrev cX6_endSlot : ByteArray := prog_8_method_6_code
def yX6_endSlot : MethodName := ⟨RX6, "endSlot", "(LFairBlocks$Standing;)I"⟩
abbrev cX6_dueFor : ByteArray := prog_8_method_7_code
def yX6_dueFor : MethodName := ⟨RX6, "dueFor", "(LFairBlocks$Standing;I)I"⟩
abbrev cX6_mayHave : ByteArray := prog_8_method_8_code
def yX6_mayHave : MethodName := ⟨RX6, "mayHave", "(LFairBlocks$User;II)Z"⟩
abbrev cX6_isBefore : ByteArray := prog_8_method_9_code
def yX6_isBefore : MethodName := ⟨RX6, "isBefore", "(LFairBlocks$Standing;II)Z"⟩
def RX7 : String := "FairBlocks$Sightings"
def TX7 : u_T := fun k => match k with
  | 0 => ("FairBlocks$Sightings", "bench", "LFairBlocks$Bench;", true)
  | 1 => ("FairBlocks$Sightings", "slots", "[I", true)
  | 2 => ("FairBlocks$Sightings", "users", "[I", true)
  | 3 => ("FairBlocks$Sightings", "whats", "[I", true)
  | 4 => ("FairBlocks$Sightings", "figures", "[I", true)
  | 5 => ("FairBlocks$Sightings", "wases", "[I", true)
  | _ => ("FairBlocks$Sightings", "size", "I", false)
def tyX7 : Nat → FieldType := fun k => match k with
  | 0 => .object "FairBlocks$Bench"
  | 1 => .array .int
  | 2 => .array .int
  | 3 => .array .int
  | 4 => .array .int
  | 5 => .array .int
  | _ => .int
theorem nmX7 : ∀ a, a < 7 → ∀ b, b < 7 → a ≠ b → (TX7 a).2.1 ≠ (TX7 b).2.1 := by decide +kernel
theorem tyX7_ok : ∀ k, k < 7 → parseFieldDescriptor (TX7 k).2.2.1 = some (tyX7 k) := by decide +kernel
abbrev cX7_init : ByteArray := prog_9_method_1_code
def yX7_init : MethodName := ⟨RX7, "<init>", "(LFairBlocks$Bench;)V"⟩
abbrev cX7_add : ByteArray := prog_9_method_2_code
def yX7_add : MethodName := ⟨RX7, "add", "(IIIII)V"⟩
abbrev cX7_suspects : ByteArray := prog_9_method_3_code
def yX7_suspects : MethodName := ⟨RX7, "suspects", "()I"⟩
abbrev cX7_fits : ByteArray := prog_9_method_4_code
def yX7_fits : MethodName := ⟨RX7, "fits", "(I)Z"⟩
abbrev cX7_lastSlot : ByteArray := prog_9_method_5_code
def yX7_lastSlot : MethodName := ⟨RX7, "lastSlot", "()I"⟩
abbrev cX7_fitsBehind : ByteArray := prog_9_method_6_code
def yX7_fitsBehind : MethodName := ⟨RX7, "fitsBehind", "(LFairBlocks$Standing;I)Z"⟩
def RX8 : String := "FairBlocks$Standing"
def TX8 : u_T := fun k => match k with
  | 0 => ("FairBlocks$Standing", "users", "[LFairBlocks$User;", true)
  | 1 => ("FairBlocks$Standing", "patience", "I", false)
  | _ => ("FairBlocks$Standing", "clock", "I", false)
def tyX8 : Nat → FieldType := fun k => match k with
  | 0 => .array (.object "FairBlocks$User")
  | 1 => .int
  | _ => .int
theorem nmX8 : ∀ a, a < 3 → ∀ b, b < 3 → a ≠ b → (TX8 a).2.1 ≠ (TX8 b).2.1 := by decide +kernel
theorem tyX8_ok : ∀ k, k < 3 → parseFieldDescriptor (TX8 k).2.2.1 = some (tyX8 k) := by decide +kernel
abbrev cX8_init : ByteArray := prog_10_method_1_code
def yX8_init : MethodName := ⟨RX8, "<init>", "()V"⟩
abbrev cX8_copyFrom : ByteArray := prog_10_method_2_code
def yX8_copyFrom : MethodName := ⟨RX8, "copyFrom", "(LFairBlocks$Standing;)V"⟩
abbrev cX8_offBits : ByteArray := prog_10_method_3_code
def yX8_offBits : MethodName := ⟨RX8, "offBits", "(I)I"⟩
abbrev cX8_waitingBits : ByteArray := prog_10_method_4_code
def yX8_waitingBits : MethodName := ⟨RX8, "waitingBits", "(I)I"⟩
def RX9 : String := "FairBlocks$Text"
def TX9 : u_T := fun k => match k with
  | 0 => ("FairBlocks$Text", "letters", "[I", true)
  | _ => ("FairBlocks$Text", "length", "I", false)
def tyX9 : Nat → FieldType := fun k => match k with
  | 0 => .array .int
  | _ => .int
theorem nmX9 : ∀ a, a < 2 → ∀ b, b < 2 → a ≠ b → (TX9 a).2.1 ≠ (TX9 b).2.1 := by decide +kernel
theorem tyX9_ok : ∀ k, k < 2 → parseFieldDescriptor (TX9 k).2.2.1 = some (tyX9 k) := by decide +kernel
abbrev cX9_init : ByteArray := prog_11_method_1_code
def yX9_init : MethodName := ⟨RX9, "<init>", "()V"⟩
abbrev cX9_add : ByteArray := prog_11_method_2_code
def yX9_add : MethodName := ⟨RX9, "add", "(I)V"⟩
abbrev cX9_firstFault : ByteArray := prog_11_method_3_code
def yX9_firstFault : MethodName := ⟨RX9, "firstFault", "()I"⟩
abbrev cX9_behind : ByteArray := prog_11_method_4_code
def yX9_behind : MethodName := ⟨RX9, "behind", "(II)I"⟩
abbrev cX9_behindRate : ByteArray := prog_11_method_5_code
def yX9_behindRate : MethodName := ⟨RX9, "behindRate", "(II)I"⟩
abbrev cX9_readInto : ByteArray := prog_11_method_6_code
def yX9_readInto : MethodName := ⟨RX9, "readInto", "(LFairBlocks$Plan;LFairBlocks$Standing;)V"⟩
abbrev cX9_figure : ByteArray := prog_11_method_7_code
def yX9_figure : MethodName := ⟨RX9, "figure", "(I)I"⟩
def RX10 : String := "FairBlocks$User"
def TX10 : u_T := fun k => match k with
  | 0 => ("FairBlocks$User", "comes", "I", false)
  | 1 => ("FairBlocks$User", "weight", "I", false)
  | 2 => ("FairBlocks$User", "loses", "I", false)
  | 3 => ("FairBlocks$User", "off", "Z", false)
  | 4 => ("FairBlocks$User", "queue", "I", false)
  | 5 => ("FairBlocks$User", "toRepeat", "I", false)
  | 6 => ("FairBlocks$User", "mean", "I", false)
  | 7 => ("FairBlocks$User", "wait", "I", false)
  | 8 => ("FairBlocks$User", "sent", "I", false)
  | _ => ("FairBlocks$User", "got", "I", false)
def tyX10 : Nat → FieldType := fun k => match k with
  | 0 => .int
  | 1 => .int
  | 2 => .int
  | 3 => .boolean
  | 4 => .int
  | 5 => .int
  | 6 => .int
  | 7 => .int
  | 8 => .int
  | _ => .int
theorem nmX10 : ∀ a, a < 10 → ∀ b, b < 10 → a ≠ b → (TX10 a).2.1 ≠ (TX10 b).2.1 := by decide +kernel
theorem tyX10_ok : ∀ k, k < 10 → parseFieldDescriptor (TX10 k).2.2.1 = some (tyX10 k) := by decide +kernel
abbrev cX10_init : ByteArray := prog_12_method_1_code
def yX10_init : MethodName := ⟨RX10, "<init>", "()V"⟩
abbrev cX10_begin : ByteArray := prog_12_method_2_code
def yX10_begin : MethodName := ⟨RX10, "begin", "(III)V"⟩
abbrev cX10_copyFrom : ByteArray := prog_12_method_3_code
def yX10_copyFrom : MethodName := ⟨RX10, "copyFrom", "(LFairBlocks$User;)V"⟩
abbrev cX10_told : ByteArray := prog_12_method_4_code
def yX10_told : MethodName := ⟨RX10, "told", "(I)I"⟩
abbrev cX10_change : ByteArray := prog_12_method_5_code
def yX10_change : MethodName := ⟨RX10, "change", "(II)I"⟩
abbrev cX10_waiting : ByteArray := prog_12_method_6_code
def yX10_waiting : MethodName := ⟨RX10, "waiting", "()I"⟩
abbrev cX10_dropAll : ByteArray := prog_12_method_7_code
def yX10_dropAll : MethodName := ⟨RX10, "dropAll", "()V"⟩
abbrev cX10_takeIn : ByteArray := prog_12_method_8_code
def yX10_takeIn : MethodName := ⟨RX10, "takeIn", "(I)V"⟩
abbrev cX10_send : ByteArray := prog_12_method_9_code
def yX10_send : MethodName := ⟨RX10, "send", "(I)I"⟩
def RX11 : String := "FairBlocks"
def TX11 : u_T := fun k => match k with
  | 0 => ("FairBlocks", "text", "LFairBlocks$Text;", true)
  | 1 => ("FairBlocks", "bench", "LFairBlocks$Bench;", true)
  | 2 => ("FairBlocks", "plan", "LFairBlocks$Plan;", true)
  | 3 => ("FairBlocks", "live", "LFairBlocks$Standing;", true)
  | 4 => ("FairBlocks", "acts", "LFairBlocks$Acts;", true)
  | 5 => ("FairBlocks", "kept", "[LFairBlocks$Standing;", true)
  | 6 => ("FairBlocks", "isKept", "[Z", true)
  | 7 => ("FairBlocks", "outlook", "LFairBlocks$Outlook;", true)
  | 8 => ("FairBlocks", "court", "LFairBlocks$Court;", true)
  | 9 => ("FairBlocks", "sightings", "LFairBlocks$Sightings;", true)
  | 10 => ("FairBlocks", "chances", "LFairBlocks$Chances;", true)
  | _ => ("FairBlocks", "seedNow", "J", false)
def tyX11 : Nat → FieldType := fun k => match k with
  | 0 => .object "FairBlocks$Text"
  | 1 => .object "FairBlocks$Bench"
  | 2 => .object "FairBlocks$Plan"
  | 3 => .object "FairBlocks$Standing"
  | 4 => .object "FairBlocks$Acts"
  | 5 => .array (.object "FairBlocks$Standing")
  | 6 => .array .boolean
  | 7 => .object "FairBlocks$Outlook"
  | 8 => .object "FairBlocks$Court"
  | 9 => .object "FairBlocks$Sightings"
  | 10 => .object "FairBlocks$Chances"
  | _ => .long
theorem nmX11 : ∀ a, a < 12 → ∀ b, b < 12 → a ≠ b → (TX11 a).2.1 ≠ (TX11 b).2.1 := by decide +kernel
theorem tyX11_ok : ∀ k, k < 12 → parseFieldDescriptor (TX11 k).2.2.1 = some (tyX11 k) := by decide +kernel
abbrev cX11_init : ByteArray := prog_1_method_1_code
def yX11_init : MethodName := ⟨RX11, "<init>", "()V"⟩
abbrev cX11_write : ByteArray := prog_1_method_2_code
def yX11_write : MethodName := ⟨RX11, "write", "(I)I"⟩
abbrev cX11_wipe : ByteArray := prog_1_method_3_code
def yX11_wipe : MethodName := ⟨RX11, "wipe", "()I"⟩
abbrev cX11_fault : ByteArray := prog_1_method_4_code
def yX11_fault : MethodName := ⟨RX11, "fault", "()I"⟩
abbrev cX11_cell : ByteArray := prog_1_method_5_code
def yX11_cell : MethodName := ⟨RX11, "cell", "()I"⟩
abbrev cX11_user : ByteArray := prog_1_method_6_code
def yX11_user : MethodName := ⟨RX11, "user", "(II)I"⟩
abbrev cX11_slot : ByteArray := prog_1_method_7_code
def yX11_slot : MethodName := ⟨RX11, "slot", "(I)I"⟩
abbrev cX11_turn : ByteArray := prog_1_method_8_code
def yX11_turn : MethodName := ⟨RX11, "turn", "(I)I"⟩
abbrev cX11_drop : ByteArray := prog_1_method_9_code
def yX11_drop : MethodName := ⟨RX11, "drop", "(I)I"⟩
abbrev cX11_set : ByteArray := prog_1_method_10_code
def yX11_set : MethodName := ⟨RX11, "set", "(III)I"⟩
abbrev cX11_patience : ByteArray := prog_1_method_11_code
def yX11_patience : MethodName := ⟨RX11, "patience", "(I)I"⟩
abbrev cX11_undo : ByteArray := prog_1_method_12_code
def yX11_undo : MethodName := ⟨RX11, "undo", "()I"⟩
abbrev cX11_ahead : ByteArray := prog_1_method_13_code
def yX11_ahead : MethodName := ⟨RX11, "ahead", "(III)I"⟩
abbrev cX11_who : ByteArray := prog_1_method_14_code
def yX11_who : MethodName := ⟨RX11, "who", "(I)I"⟩
abbrev cX11_longest : ByteArray := prog_1_method_15_code
def yX11_longest : MethodName := ⟨RX11, "longest", "(II)I"⟩
abbrev cX11_empty : ByteArray := prog_1_method_16_code
def yX11_empty : MethodName := ⟨RX11, "empty", "(I)I"⟩
abbrev cX11_best : ByteArray := prog_1_method_17_code
def yX11_best : MethodName := ⟨RX11, "best", "(I)I"⟩
abbrev cX11_judge : ByteArray := prog_1_method_18_code
def yX11_judge : MethodName := ⟨RX11, "judge", "(IJ)I"⟩
abbrev cX11_see : ByteArray := prog_1_method_19_code
def yX11_see : MethodName := ⟨RX11, "see", "(IIIII)I"⟩
abbrev cX11_unsee : ByteArray := prog_1_method_20_code
def yX11_unsee : MethodName := ⟨RX11, "unsee", "()I"⟩
abbrev cX11_which : ByteArray := prog_1_method_21_code
def yX11_which : MethodName := ⟨RX11, "which", "()I"⟩
abbrev cX11_share : ByteArray := prog_1_method_22_code
def yX11_share : MethodName := ⟨RX11, "share", "(IZ)I"⟩
abbrev cX11_fails : ByteArray := prog_1_method_23_code
def yX11_fails : MethodName := ⟨RX11, "fails", "(IIIZ)I"⟩
abbrev cX11_seed : ByteArray := prog_1_method_24_code
def yX11_seed : MethodName := ⟨RX11, "seed", "(J)J"⟩
abbrev cX11_drawn : ByteArray := prog_1_method_25_code
def yX11_drawn : MethodName := ⟨RX11, "drawn", "(I)I"⟩
abbrev cX11_keep : ByteArray := prog_1_method_26_code
def yX11_keep : MethodName := ⟨RX11, "keep", "(I)I"⟩
abbrev cX11_again : ByteArray := prog_1_method_27_code
def yX11_again : MethodName := ⟨RX11, "again", "(I)I"⟩
abbrev cX11_count : ByteArray := prog_1_method_28_code
def yX11_count : MethodName := ⟨RX11, "count", "(I)I"⟩
abbrev cX11_within : ByteArray := prog_1_method_29_code
def yX11_within : MethodName := ⟨RX11, "within", "(III)Z"⟩
def RX12 : String := "FairBlocksModel"
def TX12 : u_T := fun k => match k with
  | 0 => ("FairBlocksModel", "thrown", "I", false)
  | 1 => ("FairBlocksModel", "text", "[I", true)
  | 2 => ("FairBlocksModel", "textSize", "I", false)
  | 3 => ("FairBlocksModel", "place", "I", false)
  | 4 => ("FairBlocksModel", "blocks", "I", false)
  | 5 => ("FairBlocksModel", "shift", "I", false)
  | 6 => ("FairBlocksModel", "users", "I", false)
  | 7 => ("FairBlocksModel", "rates", "[I", true)
  | 8 => ("FairBlocksModel", "rateMany", "[I", true)
  | 9 => ("FairBlocksModel", "readBlocks", "I", false)
  | 10 => ("FairBlocksModel", "readShift", "I", false)
  | 11 => ("FairBlocksModel", "readPatience", "I", false)
  | 12 => ("FairBlocksModel", "readUsers", "I", false)
  | 13 => ("FairBlocksModel", "readRates", "[I", true)
  | 14 => ("FairBlocksModel", "readRateMany", "[I", true)
  | 15 => ("FairBlocksModel", "readPage", "[I", true)
  | 16 => ("FairBlocksModel", "page", "[I", true)
  | 17 => ("FairBlocksModel", "trial", "[I", true)
  | 18 => ("FairBlocksModel", "other", "[I", true)
  | 19 => ("FairBlocksModel", "book", "[I", true)
  | 20 => ("FairBlocksModel", "doings", "I", false)
  | 21 => ("FairBlocksModel", "kept", "[I", true)
  | 22 => ("FairBlocksModel", "isKept", "[Z", true)
  | 23 => ("FairBlocksModel", "seen", "I", false)
  | 24 => ("FairBlocksModel", "seenBehind", "[I", true)
  | 25 => ("FairBlocksModel", "seenUser", "[I", true)
  | 26 => ("FairBlocksModel", "seenWhat", "[I", true)
  | 27 => ("FairBlocksModel", "seenMany", "[I", true)
  | 28 => ("FairBlocksModel", "seenWas", "[I", true)
  | 29 => ("FairBlocksModel", "seed", "J", false)
  | 30 => ("FairBlocksModel", "had", "[I", true)
  | _ => ("FairBlocksModel", "got", "[I", true)
def tyX12 : Nat → FieldType := fun k => match k with
  | 0 => .int
  | 1 => .array .int
  | 2 => .int
  | 3 => .int
  | 4 => .int
  | 5 => .int
  | 6 => .int
  | 7 => .array .int
  | 8 => .array .int
  | 9 => .int
  | 10 => .int
  | 11 => .int
  | 12 => .int
  | 13 => .array .int
  | 14 => .array .int
  | 15 => .array .int
  | 16 => .array .int
  | 17 => .array .int
  | 18 => .array .int
  | 19 => .array .int
  | 20 => .int
  | 21 => .array .int
  | 22 => .array .boolean
  | 23 => .int
  | 24 => .array .int
  | 25 => .array .int
  | 26 => .array .int
  | 27 => .array .int
  | 28 => .array .int
  | 29 => .long
  | 30 => .array .int
  | _ => .array .int
theorem nmX12 : ∀ a, a < 32 → ∀ b, b < 32 → a ≠ b → (TX12 a).2.1 ≠ (TX12 b).2.1 := by decide +kernel
theorem tyX12_ok : ∀ k, k < 32 → parseFieldDescriptor (TX12 k).2.2.1 = some (tyX12 k) := by decide +kernel
abbrev cX12_in : ByteArray := prog_14_method_2_code
def yX12_in : MethodName := ⟨RX12, "in", "(JJJ)Z"⟩
abbrev cX12_has : ByteArray := prog_14_method_3_code
def yX12_has : MethodName := ⟨RX12, "has", "(II)Z"⟩
abbrev cX12_ones : ByteArray := prog_14_method_4_code
def yX12_ones : MethodName := ⟨RX12, "ones", "(I)I"⟩
abbrev cX12_power : ByteArray := prog_14_method_5_code
def yX12_power : MethodName := ⟨RX12, "power", "(II)I"⟩
abbrev cX12_layTrial : ByteArray := prog_14_method_6_code
def yX12_layTrial : MethodName := ⟨RX12, "layTrial", "()V"⟩
abbrev cX12_noUser : ByteArray := prog_14_method_7_code
def yX12_noUser : MethodName := ⟨RX12, "noUser", "(I)Z"⟩
abbrev cX12_init : ByteArray := prog_14_method_8_code
def yX12_init : MethodName := ⟨RX12, "<init>", "()V"⟩
abbrev cX12_write : ByteArray := prog_14_method_9_code
def yX12_write : MethodName := ⟨RX12, "write", "(I)I"⟩
abbrev cX12_wipe : ByteArray := prog_14_method_10_code
def yX12_wipe : MethodName := ⟨RX12, "wipe", "()I"⟩
abbrev cX12_figure : ByteArray := prog_14_method_11_code
def yX12_figure : MethodName := ⟨RX12, "figure", "(II)I"⟩
abbrev cX12_readHead : ByteArray := prog_14_method_12_code
def yX12_readHead : MethodName := ⟨RX12, "readHead", "()Z"⟩
abbrev cX12_readUser : ByteArray := prog_14_method_13_code
def yX12_readUser : MethodName := ⟨RX12, "readUser", "()Z"⟩
abbrev cX12_readCell : ByteArray := prog_14_method_14_code
def yX12_readCell : MethodName := ⟨RX12, "readCell", "()I"⟩
abbrev cX12_fault : ByteArray := prog_14_method_15_code
def yX12_fault : MethodName := ⟨RX12, "fault", "()I"⟩
abbrev cX12_cell : ByteArray := prog_14_method_16_code
def yX12_cell : MethodName := ⟨RX12, "cell", "()I"⟩
abbrev cX12_rateOf : ByteArray := prog_14_method_17_code
def yX12_rateOf : MethodName := ⟨RX12, "rateOf", "([II)I"⟩
abbrev cX12_hasAny : ByteArray := prog_14_method_18_code
def yX12_hasAny : MethodName := ⟨RX12, "hasAny", "([II)Z"⟩
abbrev cX12_hadSome : ByteArray := prog_14_method_19_code
def yX12_hadSome : MethodName := ⟨RX12, "hadSome", "(II)Z"⟩
abbrev cX12_may : ByteArray := prog_14_method_20_code
def yX12_may : MethodName := ⟨RX12, "may", "([III)Z"⟩
abbrev cX12_isDue : ByteArray := prog_14_method_21_code
def yX12_isDue : MethodName := ⟨RX12, "isDue", "([III)Z"⟩
abbrev cX12_urgent : ByteArray := prog_14_method_22_code
def yX12_urgent : MethodName := ⟨RX12, "urgent", "([II)I"⟩
abbrev cX12_whoHas : ByteArray := prog_14_method_23_code
def yX12_whoHas : MethodName := ⟨RX12, "whoHas", "([II)I"⟩
abbrev cX12_sends : ByteArray := prog_14_method_24_code
def yX12_sends : MethodName := ⟨RX12, "sends", "([II)V"⟩
abbrev cX12_slotOn : ByteArray := prog_14_method_25_code
def yX12_slotOn : MethodName := ⟨RX12, "slotOn", "([IZ)I"⟩
abbrev cX12_slotsOn : ByteArray := prog_14_method_26_code
def yX12_slotsOn : MethodName := ⟨RX12, "slotsOn", "([II)I"⟩
abbrev cX12_user : ByteArray := prog_14_method_27_code
def yX12_user : MethodName := ⟨RX12, "user", "(II)I"⟩
abbrev cX12_note : ByteArray := prog_14_method_28_code
def yX12_note : MethodName := ⟨RX12, "note", "()V"⟩
abbrev cX12_slot : ByteArray := prog_14_method_29_code
def yX12_slot : MethodName := ⟨RX12, "slot", "(I)I"⟩
abbrev cX12_turn : ByteArray := prog_14_method_30_code
def yX12_turn : MethodName := ⟨RX12, "turn", "(I)I"⟩
abbrev cX12_drop : ByteArray := prog_14_method_31_code
def yX12_drop : MethodName := ⟨RX12, "drop", "(I)I"⟩
abbrev cX12_set : ByteArray := prog_14_method_32_code
def yX12_set : MethodName := ⟨RX12, "set", "(III)I"⟩
abbrev cX12_patience : ByteArray := prog_14_method_33_code
def yX12_patience : MethodName := ⟨RX12, "patience", "(I)I"⟩
abbrev cX12_undo : ByteArray := prog_14_method_34_code
def yX12_undo : MethodName := ⟨RX12, "undo", "()I"⟩
abbrev cX12_ahead : ByteArray := prog_14_method_35_code
def yX12_ahead : MethodName := ⟨RX12, "ahead", "(III)I"⟩
abbrev cX12_whoNext : ByteArray := prog_14_method_36_code
def yX12_whoNext : MethodName := ⟨RX12, "whoNext", "([II)I"⟩
abbrev cX12_who : ByteArray := prog_14_method_37_code
def yX12_who : MethodName := ⟨RX12, "who", "(I)I"⟩
abbrev cX12_longest : ByteArray := prog_14_method_38_code
def yX12_longest : MethodName := ⟨RX12, "longest", "(II)I"⟩
abbrev cX12_empty : ByteArray := prog_14_method_39_code
def yX12_empty : MethodName := ⟨RX12, "empty", "(I)I"⟩
abbrev cX12_best : ByteArray := prog_14_method_40_code
def yX12_best : MethodName := ⟨RX12, "best", "(I)I"⟩
abbrev cX12_whoTried : ByteArray := prog_14_method_41_code
def yX12_whoTried : MethodName := ⟨RX12, "whoTried", "(I)I"⟩
abbrev cX12_does : ByteArray := prog_14_method_42_code
def yX12_does : MethodName := ⟨RX12, "does", "(III)Z"⟩
abbrev cX12_longPower : ByteArray := prog_14_method_43_code
def yX12_longPower : MethodName := ⟨RX12, "longPower", "(JI)J"⟩
abbrev cX12_judge : ByteArray := prog_14_method_44_code
def yX12_judge : MethodName := ⟨RX12, "judge", "(IJ)I"⟩
abbrev cX12_see : ByteArray := prog_14_method_45_code
def yX12_see : MethodName := ⟨RX12, "see", "(IIIII)I"⟩
abbrev cX12_unsee : ByteArray := prog_14_method_46_code
def yX12_unsee : MethodName := ⟨RX12, "unsee", "()I"⟩
abbrev cX12_isSo : ByteArray := prog_14_method_47_code
def yX12_isSo : MethodName := ⟨RX12, "isSo", "(II)Z"⟩
abbrev cX12_which : ByteArray := prog_14_method_48_code
def yX12_which : MethodName := ⟨RX12, "which", "()I"⟩
abbrev cX12_divisor : ByteArray := prog_14_method_49_code
def yX12_divisor : MethodName := ⟨RX12, "divisor", "(II)I"⟩
abbrev cX12_fraction : ByteArray := prog_14_method_50_code
def yX12_fraction : MethodName := ⟨RX12, "fraction", "(IIZ)I"⟩
abbrev cX12_factorial : ByteArray := prog_14_method_51_code
def yX12_factorial : MethodName := ⟨RX12, "factorial", "(I)I"⟩
abbrev cX12_offOnes : ByteArray := prog_14_method_52_code
def yX12_offOnes : MethodName := ⟨RX12, "offOnes", "()I"⟩
abbrev cX12_gotBy : ByteArray := prog_14_method_53_code
def yX12_gotBy : MethodName := ⟨RX12, "gotBy", "(I)I"⟩
abbrev cX12_share : ByteArray := prog_14_method_54_code
def yX12_share : MethodName := ⟨RX12, "share", "(IZ)I"⟩
abbrev cX12_fails : ByteArray := prog_14_method_55_code
def yX12_fails : MethodName := ⟨RX12, "fails", "(IIIZ)I"⟩
abbrev cX12_seed : ByteArray := prog_14_method_56_code
def yX12_seed : MethodName := ⟨RX12, "seed", "(J)J"⟩
abbrev cX12_drawn : ByteArray := prog_14_method_57_code
def yX12_drawn : MethodName := ⟨RX12, "drawn", "(I)I"⟩
abbrev cX12_keep : ByteArray := prog_14_method_58_code
def yX12_keep : MethodName := ⟨RX12, "keep", "(I)I"⟩
abbrev cX12_again : ByteArray := prog_14_method_59_code
def yX12_again : MethodName := ⟨RX12, "again", "(I)I"⟩
abbrev cX12_waiting : ByteArray := prog_14_method_60_code
def yX12_waiting : MethodName := ⟨RX12, "waiting", "()I"⟩
abbrev cX12_count : ByteArray := prog_14_method_61_code
def yX12_count : MethodName := ⟨RX12, "count", "(I)I"⟩
def RJ6 : String := "java/lang/Integer"
def TJ6 : u_T := fun k => match k with
  | _ => ("", "", "", false)
def tyJ6 : Nat → FieldType := fun k => match k with
  | _ => .int
theorem nmJ6 : ∀ a, a < 0 → ∀ b, b < 0 → a ≠ b → (TJ6 a).2.1 ≠ (TJ6 b).2.1 := by decide +kernel
theorem tyJ6_ok : ∀ k, k < 0 → parseFieldDescriptor (TJ6 k).2.2.1 = some (tyJ6 k) := by decide +kernel
abbrev cJ6_bitCount_0f7a4 : ByteArray := prog_15_method_49_code
def yJ6_bitCount_0f7a4 : MethodName := ⟨RJ6, "bitCount", "(I)I"⟩
def RJ9 : String := "java/lang/Math"
def TJ9 : u_T := fun k => match k with
  | _ => ("", "", "", false)
def tyJ9 : Nat → FieldType := fun k => match k with
  | _ => .int
theorem nmJ9 : ∀ a, a < 0 → ∀ b, b < 0 → a ≠ b → (TJ9 a).2.1 ≠ (TJ9 b).2.1 := by decide +kernel
theorem tyJ9_ok : ∀ k, k < 0 → parseFieldDescriptor (TJ9 k).2.2.1 = some (tyJ9 k) := by decide +kernel
abbrev cJ9_abs_0f7a4 : ByteArray := prog_16_method_59_code
def yJ9_abs_0f7a4 : MethodName := ⟨RJ9, "abs", "(I)I"⟩
abbrev cJ9_max_7cf53 : ByteArray := prog_16_method_65_code
def yJ9_max_7cf53 : MethodName := ⟨RJ9, "max", "(II)I"⟩
abbrev cJ9_min_7cf53 : ByteArray := prog_16_method_69_code
def yJ9_min_7cf53 : MethodName := ⟨RJ9, "min", "(II)I"⟩
def RL : String := "FairBlocksLaw"
abbrev cL_law : ByteArray := code
def yL_law : MethodName := ⟨RL, "law", "([I)Z"⟩
abbrev vwCl : List vw_C := [(RX0, TX0, 3), (RX1, TX1, 4), (RX2, TX2, 1), (RX3, TX3, 2), (RX4, TX4, 1), (RX5, TX5, 5), (RX6, TX6, 5), (RX7, TX7, 7), (RX8, TX8, 3), (RX9, TX9, 2), (RX10, TX10, 10), (RX11, TX11, 12), (RX12, TX12, 32)]
def gw : List Cond := lw_tbl.filter goodWord
theorem gm {w : Cond} (i : Nat) (h : tables_1[i]? = some w) (hg : goodWord w = true) : w ∈ gw := List.mem_filter.mpr ⟨List.mem_append_right _ (List.mem_of_getElem? h), hg⟩
theorem gmp {w : Cond} (i : Nat) (h : (k2_sels lw_privs)[i]? = some w) (hg : goodWord w = true) : w ∈ gw := List.mem_filter.mpr ⟨List.mem_append_left _ (List.mem_of_getElem? h), hg⟩
theorem gw_good : ∀ w ∈ gw, goodWord w = true := fun w h => (List.mem_filter.mp h).2
theorem gw_in {c : Cond} (h : c ∈ gw) : GoodIn gw (c :: gw) := fun w hw => by
  rcases List.mem_cons.mp hw with e | hw
  · subst e; exact ⟨h, good_of_word (gw_good _ h)⟩
  · exact ⟨hw, good_of_word (gw_good _ hw)⟩
def nwL : List Cond := [(Cond.methodLinkNest "FairBlocks" (9 : Nat) ({ cls := "FairBlocks$Text", name := "<init>", desc := "()V" } : MethodName) "FairBlocks"), (Cond.methodLinkNest "FairBlocks" (18 : Nat) ({ cls := "FairBlocks$Bench", name := "<init>", desc := "()V" } : MethodName) "FairBlocks"), (Cond.methodLinkNest "FairBlocks$Bench" (9 : Nat) ({ cls := "FairBlocks$Plan", name := "<init>", desc := "()V" } : MethodName) "FairBlocks"), (Cond.methodLinkNest "FairBlocks$Standing" (24 : Nat) ({ cls := "FairBlocks$User", name := "<init>", desc := "()V" } : MethodName) "FairBlocks"), (Cond.methodLinkNest "FairBlocks$Text" (23 : Nat) ({ cls := "FairBlocks", name := "within", desc := "(III)Z" } : MethodName) "FairBlocks"), (Cond.methodLinkNest "FairBlocks$Plan" (28 : Nat) ({ cls := "FairBlocks", name := "within", desc := "(III)Z" } : MethodName) "FairBlocks"), (Cond.methodLinkNest "FairBlocks$Scheduler" (62 : Nat) ({ cls := "FairBlocks", name := "within", desc := "(III)Z" } : MethodName) "FairBlocks"), (Cond.methodLinkNest "FairBlocks$Chances" (91 : Nat) ({ cls := "FairBlocks", name := "within", desc := "(III)Z" } : MethodName) "FairBlocks"), (Cond.fieldLinkNest "FairBlocks$Chances" (94 : Nat) "FairBlocks" "FACTORIALS" "[I" "FairBlocks")]
theorem nwL_in : ∀ w ∈ nwL, w ∈ lw_tbl := by
  intro w hw
  have h : nwL = ([26, 41, 47, 89, 364, 388, 520, 652, 653] : List Nat).filterMap (fun i => tables_1[i]?) := by decide +kernel
  rw [h] at hw
  obtain ⟨i, -, hi⟩ := List.mem_filterMap.mp hw
  exact List.mem_append_right _ (List.mem_of_getElem? hi)
theorem nw_0 : (Cond.methodLinkNest "FairBlocks" (9 : Nat) ({ cls := "FairBlocks$Text", name := "<init>", desc := "()V" } : MethodName) "FairBlocks") ∈ nwL := List.mem_of_getElem? (i := 0) (by decide +kernel)
theorem nw_1 : (Cond.methodLinkNest "FairBlocks" (18 : Nat) ({ cls := "FairBlocks$Bench", name := "<init>", desc := "()V" } : MethodName) "FairBlocks") ∈ nwL := List.mem_of_getElem? (i := 1) (by decide +kernel)
theorem nw_2 : (Cond.methodLinkNest "FairBlocks$Bench" (9 : Nat) ({ cls := "FairBlocks$Plan", name := "<init>", desc := "()V" } : MethodName) "FairBlocks") ∈ nwL := List.mem_of_getElem? (i := 2) (by decide +kernel)
theorem nw_3 : (Cond.methodLinkNest "FairBlocks$Standing" (24 : Nat) ({ cls := "FairBlocks$User", name := "<init>", desc := "()V" } : MethodName) "FairBlocks") ∈ nwL := List.mem_of_getElem? (i := 3) (by decide +kernel)
theorem nw_4 : (Cond.methodLinkNest "FairBlocks$Text" (23 : Nat) ({ cls := "FairBlocks", name := "within", desc := "(III)Z" } : MethodName) "FairBlocks") ∈ nwL := List.mem_of_getElem? (i := 4) (by decide +kernel)
theorem nw_5 : (Cond.methodLinkNest "FairBlocks$Plan" (28 : Nat) ({ cls := "FairBlocks", name := "within", desc := "(III)Z" } : MethodName) "FairBlocks") ∈ nwL := List.mem_of_getElem? (i := 5) (by decide +kernel)
theorem nw_6 : (Cond.methodLinkNest "FairBlocks$Scheduler" (62 : Nat) ({ cls := "FairBlocks", name := "within", desc := "(III)Z" } : MethodName) "FairBlocks") ∈ nwL := List.mem_of_getElem? (i := 6) (by decide +kernel)
theorem nw_7 : (Cond.methodLinkNest "FairBlocks$Chances" (91 : Nat) ({ cls := "FairBlocks", name := "within", desc := "(III)Z" } : MethodName) "FairBlocks") ∈ nwL := List.mem_of_getElem? (i := 7) (by decide +kernel)
theorem nw_8 : (Cond.fieldLinkNest "FairBlocks$Chances" (94 : Nat) "FairBlocks" "FACTORIALS" "[I" "FairBlocks") ∈ nwL := List.mem_of_getElem? (i := 8) (by decide +kernel)
theorem w_0 : (Cond.initialized "FairBlocksLaw") ∈ gw := gm 0 (by decide +kernel) rfl
theorem w_1 : (Cond.initialized "FairBlocks") ∈ gw := gm 1 (by decide +kernel) rfl
theorem w_2 : (Cond.initialized "FairBlocks$Text") ∈ gw := gm 2 (by decide +kernel) rfl
theorem w_3 : (Cond.initialized "FairBlocks$Bench") ∈ gw := gm 3 (by decide +kernel) rfl
theorem w_4 : (Cond.initialized "FairBlocks$Plan") ∈ gw := gm 4 (by decide +kernel) rfl
theorem w_5 : (Cond.initialized "FairBlocks$Standing") ∈ gw := gm 5 (by decide +kernel) rfl
theorem w_6 : (Cond.initialized "FairBlocks$User") ∈ gw := gm 6 (by decide +kernel) rfl
theorem w_7 : (Cond.initialized "FairBlocks$Scheduler") ∈ gw := gm 7 (by decide +kernel) rfl
theorem w_8 : (Cond.initialized "FairBlocks$Acts") ∈ gw := gm 8 (by decide +kernel) rfl
theorem w_9 : (Cond.initialized "FairBlocks$Outlook") ∈ gw := gm 9 (by decide +kernel) rfl
theorem w_10 : (Cond.initialized "FairBlocks$Court") ∈ gw := gm 10 (by decide +kernel) rfl
theorem w_11 : (Cond.initialized "FairBlocks$Sightings") ∈ gw := gm 11 (by decide +kernel) rfl
theorem w_12 : (Cond.initialized "FairBlocks$Chances") ∈ gw := gm 12 (by decide +kernel) rfl
theorem w_13 : (Cond.initialized "FairBlocksModel") ∈ gw := gm 13 (by decide +kernel) rfl
theorem w_14 : (Cond.initialized "java/lang/Math") ∈ gw := gm 14 (by decide +kernel) rfl
theorem w_15 : (Cond.initialized "java/lang/Integer") ∈ gw := gm 15 (by decide +kernel) rfl
theorem w_16 : (Cond.classLink "FairBlocksLaw" (7 : Nat) "FairBlocks") ∈ gw := gm 16 (by decide +kernel) rfl
theorem w_17 : (Cond.instantiable "FairBlocks" (12 : Nat)) ∈ gw := gm 17 (by decide +kernel) rfl
theorem w_18 : (Cond.methodLink "FairBlocksLaw" (9 : Nat) ({ cls := "FairBlocks", name := "<init>", desc := "()V" } : MethodName)) ∈ gw := gm 18 (by decide +kernel) rfl
theorem w_19 : (Cond.instanceMethod ({ cls := "FairBlocks", name := "<init>", desc := "()V" } : MethodName)) ∈ gw := gm 19 (by decide +kernel) rfl
theorem w_20 : (Cond.code ({ cls := "FairBlocks", name := "<init>", desc := "()V" } : MethodName) prog_1_method_1_code (2 : Nat) (Option.none : Option FieldType)) ∈ gw := gm 20 (by decide +kernel) rfl
theorem w_21 : (Cond.methodLink "FairBlocks" (1 : Nat) ({ cls := "java/lang/Object", name := "<init>", desc := "()V" } : MethodName)) ∈ gw := gm 21 (by decide +kernel) rfl
theorem w_22 : (Cond.instanceMethod ({ cls := "java/lang/Object", name := "<init>", desc := "()V" } : MethodName)) ∈ gw := gm 22 (by decide +kernel) rfl
theorem w_23 : (Cond.code ({ cls := "java/lang/Object", name := "<init>", desc := "()V" } : MethodName) object_method_1_code (1 : Nat) (Option.none : Option FieldType)) ∈ gw := gm 23 (by decide +kernel) rfl
theorem w_24 : (Cond.classLink "FairBlocks" (7 : Nat) "FairBlocks$Text") ∈ gw := gm 24 (by decide +kernel) rfl
theorem w_25 : (Cond.instantiable "FairBlocks$Text" (2 : Nat)) ∈ gw := gm 25 (by decide +kernel) rfl
theorem w_27 : (Cond.instanceMethod ({ cls := "FairBlocks$Text", name := "<init>", desc := "()V" } : MethodName)) ∈ gw := gm 27 (by decide +kernel) rfl
theorem w_28 : (Cond.code ({ cls := "FairBlocks$Text", name := "<init>", desc := "()V" } : MethodName) prog_11_method_1_code (1 : Nat) (Option.none : Option FieldType)) ∈ gw := gm 28 (by decide +kernel) rfl
theorem w_29 : (Cond.methodLink "FairBlocks$Text" (5 : Nat) ({ cls := "java/lang/Object", name := "<init>", desc := "()V" } : MethodName)) ∈ gw := gm 29 (by decide +kernel) rfl
theorem w_30 : (Cond.fieldLink "FairBlocks$Text" (11 : Nat) "FairBlocks$Text" "letters" "[I") ∈ gw := gm 30 (by decide +kernel) rfl
theorem w_31 : (Cond.fieldLink "FairBlocks$Text" (15 : Nat) "FairBlocks$Text" "length" "I") ∈ gw := gm 31 (by decide +kernel) rfl
theorem w_32 : (Cond.fieldLink "FairBlocks" (89 : Nat) "FairBlocks$Text" "length" "I") ∈ gw := gm 32 (by decide +kernel) rfl
theorem w_38 : (Cond.arrayClass FieldType.int) ∈ gw := gm 38 (by decide +kernel) rfl
theorem w_39 : (Cond.classLink "FairBlocks" (16 : Nat) "FairBlocks$Bench") ∈ gw := gm 39 (by decide +kernel) rfl
theorem w_40 : (Cond.instantiable "FairBlocks$Bench" (4 : Nat)) ∈ gw := gm 40 (by decide +kernel) rfl
theorem w_42 : (Cond.instanceMethod ({ cls := "FairBlocks$Bench", name := "<init>", desc := "()V" } : MethodName)) ∈ gw := gm 42 (by decide +kernel) rfl
theorem w_43 : (Cond.code ({ cls := "FairBlocks$Bench", name := "<init>", desc := "()V" } : MethodName) prog_3_method_1_code (1 : Nat) (Option.none : Option FieldType)) ∈ gw := gm 43 (by decide +kernel) rfl
theorem w_44 : (Cond.methodLink "FairBlocks$Bench" (1 : Nat) ({ cls := "java/lang/Object", name := "<init>", desc := "()V" } : MethodName)) ∈ gw := gm 44 (by decide +kernel) rfl
theorem w_45 : (Cond.classLink "FairBlocks$Bench" (7 : Nat) "FairBlocks$Plan") ∈ gw := gm 45 (by decide +kernel) rfl
theorem w_46 : (Cond.instantiable "FairBlocks$Plan" (5 : Nat)) ∈ gw := gm 46 (by decide +kernel) rfl
theorem w_48 : (Cond.instanceMethod ({ cls := "FairBlocks$Plan", name := "<init>", desc := "()V" } : MethodName)) ∈ gw := gm 48 (by decide +kernel) rfl
theorem w_49 : (Cond.code ({ cls := "FairBlocks$Plan", name := "<init>", desc := "()V" } : MethodName) prog_7_method_1_code (1 : Nat) (Option.none : Option FieldType)) ∈ gw := gm 49 (by decide +kernel) rfl
theorem w_50 : (Cond.methodLink "FairBlocks$Plan" (3 : Nat) ({ cls := "java/lang/Object", name := "<init>", desc := "()V" } : MethodName)) ∈ gw := gm 50 (by decide +kernel) rfl
theorem w_51 : (Cond.fieldLink "FairBlocks$Plan" (9 : Nat) "FairBlocks$Plan" "blocks" "I") ∈ gw := gm 51 (by decide +kernel) rfl
theorem w_52 : (Cond.fieldLink "FairBlocks$Scheduler" (36 : Nat) "FairBlocks$Plan" "blocks" "I") ∈ gw := gm 52 (by decide +kernel) rfl
theorem w_53 : (Cond.fieldLink "FairBlocks$Court" (76 : Nat) "FairBlocks$Plan" "blocks" "I") ∈ gw := gm 53 (by decide +kernel) rfl
theorem w_54 : (Cond.fieldLink "FairBlocks$Text" (34 : Nat) "FairBlocks$Plan" "blocks" "I") ∈ gw := gm 54 (by decide +kernel) rfl
theorem w_55 : (Cond.fieldLink "FairBlocks" (173 : Nat) "FairBlocks$Plan" "blocks" "I") ∈ gw := gm 55 (by decide +kernel) rfl
theorem w_56 : (Cond.fieldLink "FairBlocks$Plan" (15 : Nat) "FairBlocks$Plan" "shift" "I") ∈ gw := gm 56 (by decide +kernel) rfl
theorem w_57 : (Cond.fieldLink "FairBlocks$Text" (39 : Nat) "FairBlocks$Plan" "shift" "I") ∈ gw := gm 57 (by decide +kernel) rfl
theorem w_58 : (Cond.fieldLink "FairBlocks$Scheduler" (85 : Nat) "FairBlocks$Plan" "shift" "I") ∈ gw := gm 58 (by decide +kernel) rfl
theorem w_59 : (Cond.fieldLink "FairBlocks" (225 : Nat) "FairBlocks$Plan" "shift" "I") ∈ gw := gm 59 (by decide +kernel) rfl
theorem w_60 : (Cond.fieldLink "FairBlocks$Plan" (18 : Nat) "FairBlocks$Plan" "users" "I") ∈ gw := gm 60 (by decide +kernel) rfl
theorem w_61 : (Cond.fieldLink "FairBlocks$Chances" (21 : Nat) "FairBlocks$Plan" "users" "I") ∈ gw := gm 61 (by decide +kernel) rfl
theorem w_62 : (Cond.fieldLink "FairBlocks$Sightings" (41 : Nat) "FairBlocks$Plan" "users" "I") ∈ gw := gm 62 (by decide +kernel) rfl
theorem w_63 : (Cond.fieldLink "FairBlocks$Scheduler" (66 : Nat) "FairBlocks$Plan" "users" "I") ∈ gw := gm 63 (by decide +kernel) rfl
theorem w_64 : (Cond.fieldLink "FairBlocks$Outlook" (75 : Nat) "FairBlocks$Plan" "users" "I") ∈ gw := gm 64 (by decide +kernel) rfl
theorem w_65 : (Cond.fieldLink "FairBlocks" (108 : Nat) "FairBlocks$Plan" "users" "I") ∈ gw := gm 65 (by decide +kernel) rfl
theorem w_66 : (Cond.fieldLink "FairBlocks$Text" (42 : Nat) "FairBlocks$Plan" "users" "I") ∈ gw := gm 66 (by decide +kernel) rfl
theorem w_67 : (Cond.fieldLink "FairBlocks$Plan" (21 : Nat) "FairBlocks$Plan" "rates" "[I") ∈ gw := gm 67 (by decide +kernel) rfl
theorem w_68 : (Cond.fieldLink "FairBlocks$Plan" (25 : Nat) "FairBlocks$Plan" "rateCounts" "[I") ∈ gw := gm 68 (by decide +kernel) rfl
theorem w_80 : (Cond.classLink "FairBlocks$Bench" (16 : Nat) "FairBlocks$Standing") ∈ gw := gm 80 (by decide +kernel) rfl
theorem w_81 : (Cond.instantiable "FairBlocks$Standing" (3 : Nat)) ∈ gw := gm 81 (by decide +kernel) rfl
theorem w_82 : (Cond.methodLink "FairBlocks$Bench" (18 : Nat) ({ cls := "FairBlocks$Standing", name := "<init>", desc := "()V" } : MethodName)) ∈ gw := gm 82 (by decide +kernel) rfl
theorem w_83 : (Cond.instanceMethod ({ cls := "FairBlocks$Standing", name := "<init>", desc := "()V" } : MethodName)) ∈ gw := gm 83 (by decide +kernel) rfl
theorem w_84 : (Cond.code ({ cls := "FairBlocks$Standing", name := "<init>", desc := "()V" } : MethodName) prog_10_method_1_code (2 : Nat) (Option.none : Option FieldType)) ∈ gw := gm 84 (by decide +kernel) rfl
theorem w_85 : (Cond.methodLink "FairBlocks$Standing" (3 : Nat) ({ cls := "java/lang/Object", name := "<init>", desc := "()V" } : MethodName)) ∈ gw := gm 85 (by decide +kernel) rfl
theorem w_86 : (Cond.classLink "FairBlocks$Standing" (9 : Nat) "FairBlocks$User") ∈ gw := gm 86 (by decide +kernel) rfl
theorem w_88 : (Cond.instantiable "FairBlocks$User" (10 : Nat)) ∈ gw := gm 88 (by decide +kernel) rfl
theorem w_90 : (Cond.instanceMethod ({ cls := "FairBlocks$User", name := "<init>", desc := "()V" } : MethodName)) ∈ gw := gm 90 (by decide +kernel) rfl
theorem w_91 : (Cond.code ({ cls := "FairBlocks$User", name := "<init>", desc := "()V" } : MethodName) prog_12_method_1_code (1 : Nat) (Option.none : Option FieldType)) ∈ gw := gm 91 (by decide +kernel) rfl
theorem w_92 : (Cond.methodLink "FairBlocks$User" (3 : Nat) ({ cls := "java/lang/Object", name := "<init>", desc := "()V" } : MethodName)) ∈ gw := gm 92 (by decide +kernel) rfl
theorem w_93 : (Cond.fieldLink "FairBlocks$User" (9 : Nat) "FairBlocks$User" "comes" "I") ∈ gw := gm 93 (by decide +kernel) rfl
theorem w_94 : (Cond.fieldLink "FairBlocks$Scheduler" (68 : Nat) "FairBlocks$User" "comes" "I") ∈ gw := gm 94 (by decide +kernel) rfl
theorem w_95 : (Cond.fieldLink "FairBlocks$User" (15 : Nat) "FairBlocks$User" "weight" "I") ∈ gw := gm 95 (by decide +kernel) rfl
theorem w_96 : (Cond.fieldLink "FairBlocks$Outlook" (53 : Nat) "FairBlocks$User" "weight" "I") ∈ gw := gm 96 (by decide +kernel) rfl
theorem w_97 : (Cond.fieldLink "FairBlocks$Court" (93 : Nat) "FairBlocks$User" "weight" "I") ∈ gw := gm 97 (by decide +kernel) rfl
theorem w_98 : (Cond.fieldLink "FairBlocks$Scheduler" (116 : Nat) "FairBlocks$User" "weight" "I") ∈ gw := gm 98 (by decide +kernel) rfl
theorem w_99 : (Cond.fieldLink "FairBlocks$User" (18 : Nat) "FairBlocks$User" "loses" "I") ∈ gw := gm 99 (by decide +kernel) rfl
theorem w_100 : (Cond.fieldLink "FairBlocks$User" (21 : Nat) "FairBlocks$User" "off" "Z") ∈ gw := gm 100 (by decide +kernel) rfl
theorem w_101 : (Cond.fieldLink "FairBlocks$Standing" (29 : Nat) "FairBlocks$User" "off" "Z") ∈ gw := gm 101 (by decide +kernel) rfl
theorem w_102 : (Cond.fieldLink "FairBlocks$Sightings" (54 : Nat) "FairBlocks$User" "off" "Z") ∈ gw := gm 102 (by decide +kernel) rfl
theorem w_103 : (Cond.fieldLink "FairBlocks$Chances" (59 : Nat) "FairBlocks$User" "off" "Z") ∈ gw := gm 103 (by decide +kernel) rfl
theorem w_104 : (Cond.fieldLink "FairBlocks$Court" (86 : Nat) "FairBlocks$User" "off" "Z") ∈ gw := gm 104 (by decide +kernel) rfl
theorem w_105 : (Cond.fieldLink "FairBlocks$Scheduler" (88 : Nat) "FairBlocks$User" "off" "Z") ∈ gw := gm 105 (by decide +kernel) rfl
theorem w_106 : (Cond.fieldLink "FairBlocks" (147 : Nat) "FairBlocks$User" "off" "Z") ∈ gw := gm 106 (by decide +kernel) rfl
theorem w_107 : (Cond.fieldLink "FairBlocks$User" (25 : Nat) "FairBlocks$User" "queue" "I") ∈ gw := gm 107 (by decide +kernel) rfl
theorem w_108 : (Cond.fieldLink "FairBlocks$Scheduler" (107 : Nat) "FairBlocks$User" "queue" "I") ∈ gw := gm 108 (by decide +kernel) rfl
theorem w_109 : (Cond.fieldLink "FairBlocks$User" (28 : Nat) "FairBlocks$User" "toRepeat" "I") ∈ gw := gm 109 (by decide +kernel) rfl
theorem w_110 : (Cond.fieldLink "FairBlocks$Scheduler" (110 : Nat) "FairBlocks$User" "toRepeat" "I") ∈ gw := gm 110 (by decide +kernel) rfl
theorem w_111 : (Cond.fieldLink "FairBlocks$User" (31 : Nat) "FairBlocks$User" "mean" "I") ∈ gw := gm 111 (by decide +kernel) rfl
theorem w_112 : (Cond.fieldLink "FairBlocks$Scheduler" (82 : Nat) "FairBlocks$User" "mean" "I") ∈ gw := gm 112 (by decide +kernel) rfl
theorem w_113 : (Cond.fieldLink "FairBlocks$User" (34 : Nat) "FairBlocks$User" "wait" "I") ∈ gw := gm 113 (by decide +kernel) rfl
theorem w_114 : (Cond.fieldLink "FairBlocks$Outlook" (37 : Nat) "FairBlocks$User" "wait" "I") ∈ gw := gm 114 (by decide +kernel) rfl
theorem w_115 : (Cond.fieldLink "FairBlocks$Court" (70 : Nat) "FairBlocks$User" "wait" "I") ∈ gw := gm 115 (by decide +kernel) rfl
theorem w_116 : (Cond.fieldLink "FairBlocks$Sightings" (95 : Nat) "FairBlocks$User" "wait" "I") ∈ gw := gm 116 (by decide +kernel) rfl
theorem w_117 : (Cond.fieldLink "FairBlocks$Scheduler" (96 : Nat) "FairBlocks$User" "wait" "I") ∈ gw := gm 117 (by decide +kernel) rfl
theorem w_118 : (Cond.fieldLink "FairBlocks$User" (37 : Nat) "FairBlocks$User" "sent" "I") ∈ gw := gm 118 (by decide +kernel) rfl
theorem w_119 : (Cond.fieldLink "FairBlocks$User" (40 : Nat) "FairBlocks$User" "got" "I") ∈ gw := gm 119 (by decide +kernel) rfl
theorem w_120 : (Cond.fieldLink "FairBlocks$Outlook" (64 : Nat) "FairBlocks$User" "got" "I") ∈ gw := gm 120 (by decide +kernel) rfl
theorem w_142 : (Cond.fieldLink "FairBlocks$Standing" (11 : Nat) "FairBlocks$Standing" "users" "[LFairBlocks$User;") ∈ gw := gm 142 (by decide +kernel) rfl
theorem w_143 : (Cond.fieldLink "FairBlocks$Outlook" (31 : Nat) "FairBlocks$Standing" "users" "[LFairBlocks$User;") ∈ gw := gm 143 (by decide +kernel) rfl
theorem w_144 : (Cond.fieldLink "FairBlocks$Sightings" (49 : Nat) "FairBlocks$Standing" "users" "[LFairBlocks$User;") ∈ gw := gm 144 (by decide +kernel) rfl
theorem w_145 : (Cond.fieldLink "FairBlocks$Chances" (56 : Nat) "FairBlocks$Standing" "users" "[LFairBlocks$User;") ∈ gw := gm 145 (by decide +kernel) rfl
theorem w_146 : (Cond.fieldLink "FairBlocks$Scheduler" (46 : Nat) "FairBlocks$Standing" "users" "[LFairBlocks$User;") ∈ gw := gm 146 (by decide +kernel) rfl
theorem w_147 : (Cond.fieldLink "FairBlocks$Court" (58 : Nat) "FairBlocks$Standing" "users" "[LFairBlocks$User;") ∈ gw := gm 147 (by decide +kernel) rfl
theorem w_148 : (Cond.fieldLink "FairBlocks" (124 : Nat) "FairBlocks$Standing" "users" "[LFairBlocks$User;") ∈ gw := gm 148 (by decide +kernel) rfl
theorem w_149 : (Cond.fieldLink "FairBlocks$Text" (53 : Nat) "FairBlocks$Standing" "users" "[LFairBlocks$User;") ∈ gw := gm 149 (by decide +kernel) rfl
theorem w_150 : (Cond.fieldLink "FairBlocks$Standing" (17 : Nat) "FairBlocks$Standing" "patience" "I") ∈ gw := gm 150 (by decide +kernel) rfl
theorem w_151 : (Cond.fieldLink "FairBlocks$Text" (45 : Nat) "FairBlocks$Standing" "patience" "I") ∈ gw := gm 151 (by decide +kernel) rfl
theorem w_152 : (Cond.fieldLink "FairBlocks$Scheduler" (113 : Nat) "FairBlocks$Standing" "patience" "I") ∈ gw := gm 152 (by decide +kernel) rfl
theorem w_153 : (Cond.fieldLink "FairBlocks" (160 : Nat) "FairBlocks$Standing" "patience" "I") ∈ gw := gm 153 (by decide +kernel) rfl
theorem w_154 : (Cond.fieldLink "FairBlocks$Standing" (21 : Nat) "FairBlocks$Standing" "clock" "I") ∈ gw := gm 154 (by decide +kernel) rfl
theorem w_155 : (Cond.fieldLink "FairBlocks$Scheduler" (75 : Nat) "FairBlocks$Standing" "clock" "I") ∈ gw := gm 155 (by decide +kernel) rfl
theorem w_156 : (Cond.fieldLink "FairBlocks$Text" (50 : Nat) "FairBlocks$Standing" "clock" "I") ∈ gw := gm 156 (by decide +kernel) rfl
theorem w_157 : (Cond.fieldLink "FairBlocks" (117 : Nat) "FairBlocks$Standing" "clock" "I") ∈ gw := gm 157 (by decide +kernel) rfl
theorem w_165 : (Cond.classLink "FairBlocks$Bench" (26 : Nat) "FairBlocks$Scheduler") ∈ gw := gm 165 (by decide +kernel) rfl
theorem w_166 : (Cond.instantiable "FairBlocks$Scheduler" (5 : Nat)) ∈ gw := gm 166 (by decide +kernel) rfl
theorem w_167 : (Cond.methodLink "FairBlocks$Bench" (28 : Nat) ({ cls := "FairBlocks$Scheduler", name := "<init>", desc := "(LFairBlocks$Plan;)V" } : MethodName)) ∈ gw := gm 167 (by decide +kernel) rfl
theorem w_168 : (Cond.instanceMethod ({ cls := "FairBlocks$Scheduler", name := "<init>", desc := "(LFairBlocks$Plan;)V" } : MethodName)) ∈ gw := gm 168 (by decide +kernel) rfl
theorem w_169 : (Cond.code ({ cls := "FairBlocks$Scheduler", name := "<init>", desc := "(LFairBlocks$Plan;)V" } : MethodName) prog_8_method_1_code (2 : Nat) (Option.none : Option FieldType)) ∈ gw := gm 169 (by decide +kernel) rfl
theorem w_170 : (Cond.methodLink "FairBlocks$Scheduler" (3 : Nat) ({ cls := "java/lang/Object", name := "<init>", desc := "()V" } : MethodName)) ∈ gw := gm 170 (by decide +kernel) rfl
theorem w_171 : (Cond.fieldLink "FairBlocks$Scheduler" (24 : Nat) "FairBlocks$Scheduler" "plan" "LFairBlocks$Plan;") ∈ gw := gm 171 (by decide +kernel) rfl
theorem w_172 : (Cond.fieldLink "FairBlocks$Scheduler" (9 : Nat) "FairBlocks$Scheduler" "rates" "[I") ∈ gw := gm 172 (by decide +kernel) rfl
theorem w_173 : (Cond.fieldLink "FairBlocks$Scheduler" (15 : Nat) "FairBlocks$Scheduler" "latestBlock" "[I") ∈ gw := gm 173 (by decide +kernel) rfl
theorem w_174 : (Cond.fieldLink "FairBlocks$Scheduler" (18 : Nat) "FairBlocks$Scheduler" "gotNow" "[I") ∈ gw := gm 174 (by decide +kernel) rfl
theorem w_175 : (Cond.fieldLink "FairBlocks$Scheduler" (21 : Nat) "FairBlocks$Scheduler" "holders" "[I") ∈ gw := gm 175 (by decide +kernel) rfl
theorem w_187 : (Cond.fieldLink "FairBlocks$Bench" (10 : Nat) "FairBlocks$Bench" "plan" "LFairBlocks$Plan;") ∈ gw := gm 187 (by decide +kernel) rfl
theorem w_188 : (Cond.fieldLink "FairBlocks" (23 : Nat) "FairBlocks$Bench" "plan" "LFairBlocks$Plan;") ∈ gw := gm 188 (by decide +kernel) rfl
theorem w_189 : (Cond.fieldLink "FairBlocks$Chances" (15 : Nat) "FairBlocks$Bench" "plan" "LFairBlocks$Plan;") ∈ gw := gm 189 (by decide +kernel) rfl
theorem w_190 : (Cond.fieldLink "FairBlocks$Sightings" (35 : Nat) "FairBlocks$Bench" "plan" "LFairBlocks$Plan;") ∈ gw := gm 190 (by decide +kernel) rfl
theorem w_191 : (Cond.fieldLink "FairBlocks$Court" (38 : Nat) "FairBlocks$Bench" "plan" "LFairBlocks$Plan;") ∈ gw := gm 191 (by decide +kernel) rfl
theorem w_192 : (Cond.fieldLink "FairBlocks$Outlook" (71 : Nat) "FairBlocks$Bench" "plan" "LFairBlocks$Plan;") ∈ gw := gm 192 (by decide +kernel) rfl
theorem w_193 : (Cond.fieldLink "FairBlocks$Bench" (19 : Nat) "FairBlocks$Bench" "live" "LFairBlocks$Standing;") ∈ gw := gm 193 (by decide +kernel) rfl
theorem w_194 : (Cond.fieldLink "FairBlocks" (28 : Nat) "FairBlocks$Bench" "live" "LFairBlocks$Standing;") ∈ gw := gm 194 (by decide +kernel) rfl
theorem w_195 : (Cond.fieldLink "FairBlocks$Chances" (27 : Nat) "FairBlocks$Bench" "live" "LFairBlocks$Standing;") ∈ gw := gm 195 (by decide +kernel) rfl
theorem w_196 : (Cond.fieldLink "FairBlocks$Sightings" (45 : Nat) "FairBlocks$Bench" "live" "LFairBlocks$Standing;") ∈ gw := gm 196 (by decide +kernel) rfl
theorem w_197 : (Cond.fieldLink "FairBlocks$Outlook" (67 : Nat) "FairBlocks$Bench" "live" "LFairBlocks$Standing;") ∈ gw := gm 197 (by decide +kernel) rfl
theorem w_198 : (Cond.fieldLink "FairBlocks$Bench" (23 : Nat) "FairBlocks$Bench" "trial" "LFairBlocks$Standing;") ∈ gw := gm 198 (by decide +kernel) rfl
theorem w_199 : (Cond.fieldLink "FairBlocks$Bench" (31 : Nat) "FairBlocks$Bench" "scheduler" "LFairBlocks$Scheduler;") ∈ gw := gm 199 (by decide +kernel) rfl
theorem w_200 : (Cond.fieldLink "FairBlocks$Outlook" (21 : Nat) "FairBlocks$Bench" "scheduler" "LFairBlocks$Scheduler;") ∈ gw := gm 200 (by decide +kernel) rfl
theorem w_201 : (Cond.fieldLink "FairBlocks$Chances" (65 : Nat) "FairBlocks$Bench" "scheduler" "LFairBlocks$Scheduler;") ∈ gw := gm 201 (by decide +kernel) rfl
theorem w_202 : (Cond.fieldLink "FairBlocks$Sightings" (72 : Nat) "FairBlocks$Bench" "scheduler" "LFairBlocks$Scheduler;") ∈ gw := gm 202 (by decide +kernel) rfl
theorem w_203 : (Cond.fieldLink "FairBlocks$Court" (42 : Nat) "FairBlocks$Bench" "scheduler" "LFairBlocks$Scheduler;") ∈ gw := gm 203 (by decide +kernel) rfl
theorem w_204 : (Cond.fieldLink "FairBlocks" (137 : Nat) "FairBlocks$Bench" "scheduler" "LFairBlocks$Scheduler;") ∈ gw := gm 204 (by decide +kernel) rfl
theorem w_214 : (Cond.classLink "FairBlocks" (33 : Nat) "FairBlocks$Acts") ∈ gw := gm 214 (by decide +kernel) rfl
theorem w_215 : (Cond.instantiable "FairBlocks$Acts" (3 : Nat)) ∈ gw := gm 215 (by decide +kernel) rfl
theorem w_216 : (Cond.methodLink "FairBlocks" (35 : Nat) ({ cls := "FairBlocks$Acts", name := "<init>", desc := "()V" } : MethodName)) ∈ gw := gm 216 (by decide +kernel) rfl
theorem w_217 : (Cond.instanceMethod ({ cls := "FairBlocks$Acts", name := "<init>", desc := "()V" } : MethodName)) ∈ gw := gm 217 (by decide +kernel) rfl
theorem w_218 : (Cond.code ({ cls := "FairBlocks$Acts", name := "<init>", desc := "()V" } : MethodName) prog_2_method_1_code (2 : Nat) (Option.none : Option FieldType)) ∈ gw := gm 218 (by decide +kernel) rfl
theorem w_219 : (Cond.methodLink "FairBlocks$Acts" (3 : Nat) ({ cls := "java/lang/Object", name := "<init>", desc := "()V" } : MethodName)) ∈ gw := gm 219 (by decide +kernel) rfl
theorem w_220 : (Cond.classLink "FairBlocks$Acts" (9 : Nat) "FairBlocks$Standing") ∈ gw := gm 220 (by decide +kernel) rfl
theorem w_222 : (Cond.methodLink "FairBlocks$Acts" (24 : Nat) ({ cls := "FairBlocks$Standing", name := "<init>", desc := "()V" } : MethodName)) ∈ gw := gm 222 (by decide +kernel) rfl
theorem w_223 : (Cond.fieldLink "FairBlocks$Acts" (11 : Nat) "FairBlocks$Acts" "before" "[LFairBlocks$Standing;") ∈ gw := gm 223 (by decide +kernel) rfl
theorem w_224 : (Cond.fieldLink "FairBlocks$Acts" (17 : Nat) "FairBlocks$Acts" "first" "I") ∈ gw := gm 224 (by decide +kernel) rfl
theorem w_225 : (Cond.fieldLink "FairBlocks$Acts" (21 : Nat) "FairBlocks$Acts" "size" "I") ∈ gw := gm 225 (by decide +kernel) rfl
theorem w_226 : (Cond.fieldLink "FairBlocks" (163 : Nat) "FairBlocks$Acts" "size" "I") ∈ gw := gm 226 (by decide +kernel) rfl
theorem w_234 : (Cond.classLink "FairBlocks" (40 : Nat) "FairBlocks$Standing") ∈ gw := gm 234 (by decide +kernel) rfl
theorem w_235 : (Cond.methodLink "FairBlocks" (46 : Nat) ({ cls := "FairBlocks$Standing", name := "<init>", desc := "()V" } : MethodName)) ∈ gw := gm 235 (by decide +kernel) rfl
theorem w_236 : (Cond.classLink "FairBlocks" (51 : Nat) "FairBlocks$Outlook") ∈ gw := gm 236 (by decide +kernel) rfl
theorem w_237 : (Cond.instantiable "FairBlocks$Outlook" (1 : Nat)) ∈ gw := gm 237 (by decide +kernel) rfl
theorem w_238 : (Cond.methodLink "FairBlocks" (53 : Nat) ({ cls := "FairBlocks$Outlook", name := "<init>", desc := "(LFairBlocks$Bench;)V" } : MethodName)) ∈ gw := gm 238 (by decide +kernel) rfl
theorem w_239 : (Cond.instanceMethod ({ cls := "FairBlocks$Outlook", name := "<init>", desc := "(LFairBlocks$Bench;)V" } : MethodName)) ∈ gw := gm 239 (by decide +kernel) rfl
theorem w_240 : (Cond.code ({ cls := "FairBlocks$Outlook", name := "<init>", desc := "(LFairBlocks$Bench;)V" } : MethodName) prog_6_method_1_code (2 : Nat) (Option.none : Option FieldType)) ∈ gw := gm 240 (by decide +kernel) rfl
theorem w_241 : (Cond.methodLink "FairBlocks$Outlook" (3 : Nat) ({ cls := "java/lang/Object", name := "<init>", desc := "()V" } : MethodName)) ∈ gw := gm 241 (by decide +kernel) rfl
theorem w_242 : (Cond.fieldLink "FairBlocks$Outlook" (9 : Nat) "FairBlocks$Outlook" "bench" "LFairBlocks$Bench;") ∈ gw := gm 242 (by decide +kernel) rfl
theorem w_246 : (Cond.arrayClass FieldType.boolean) ∈ gw := gm 246 (by decide +kernel) rfl
theorem w_247 : (Cond.classLink "FairBlocks" (60 : Nat) "FairBlocks$Court") ∈ gw := gm 247 (by decide +kernel) rfl
theorem w_248 : (Cond.instantiable "FairBlocks$Court" (2 : Nat)) ∈ gw := gm 248 (by decide +kernel) rfl
theorem w_249 : (Cond.methodLink "FairBlocks" (62 : Nat) ({ cls := "FairBlocks$Court", name := "<init>", desc := "(LFairBlocks$Bench;)V" } : MethodName)) ∈ gw := gm 249 (by decide +kernel) rfl
theorem w_250 : (Cond.instanceMethod ({ cls := "FairBlocks$Court", name := "<init>", desc := "(LFairBlocks$Bench;)V" } : MethodName)) ∈ gw := gm 250 (by decide +kernel) rfl
theorem w_251 : (Cond.code ({ cls := "FairBlocks$Court", name := "<init>", desc := "(LFairBlocks$Bench;)V" } : MethodName) prog_5_method_1_code (2 : Nat) (Option.none : Option FieldType)) ∈ gw := gm 251 (by decide +kernel) rfl
theorem w_252 : (Cond.methodLink "FairBlocks$Court" (3 : Nat) ({ cls := "java/lang/Object", name := "<init>", desc := "()V" } : MethodName)) ∈ gw := gm 252 (by decide +kernel) rfl
theorem w_253 : (Cond.classLink "FairBlocks$Court" (15 : Nat) "FairBlocks$Standing") ∈ gw := gm 253 (by decide +kernel) rfl
theorem w_254 : (Cond.methodLink "FairBlocks$Court" (17 : Nat) ({ cls := "FairBlocks$Standing", name := "<init>", desc := "()V" } : MethodName)) ∈ gw := gm 254 (by decide +kernel) rfl
theorem w_255 : (Cond.fieldLink "FairBlocks$Court" (9 : Nat) "FairBlocks$Court" "bench" "LFairBlocks$Bench;") ∈ gw := gm 255 (by decide +kernel) rfl
theorem w_256 : (Cond.fieldLink "FairBlocks$Court" (18 : Nat) "FairBlocks$Court" "peek" "LFairBlocks$Standing;") ∈ gw := gm 256 (by decide +kernel) rfl
theorem w_262 : (Cond.classLink "FairBlocks" (67 : Nat) "FairBlocks$Sightings") ∈ gw := gm 262 (by decide +kernel) rfl
theorem w_263 : (Cond.instantiable "FairBlocks$Sightings" (7 : Nat)) ∈ gw := gm 263 (by decide +kernel) rfl
theorem w_264 : (Cond.methodLink "FairBlocks" (69 : Nat) ({ cls := "FairBlocks$Sightings", name := "<init>", desc := "(LFairBlocks$Bench;)V" } : MethodName)) ∈ gw := gm 264 (by decide +kernel) rfl
theorem w_265 : (Cond.instanceMethod ({ cls := "FairBlocks$Sightings", name := "<init>", desc := "(LFairBlocks$Bench;)V" } : MethodName)) ∈ gw := gm 265 (by decide +kernel) rfl
theorem w_266 : (Cond.code ({ cls := "FairBlocks$Sightings", name := "<init>", desc := "(LFairBlocks$Bench;)V" } : MethodName) prog_9_method_1_code (2 : Nat) (Option.none : Option FieldType)) ∈ gw := gm 266 (by decide +kernel) rfl
theorem w_267 : (Cond.methodLink "FairBlocks$Sightings" (3 : Nat) ({ cls := "java/lang/Object", name := "<init>", desc := "()V" } : MethodName)) ∈ gw := gm 267 (by decide +kernel) rfl
theorem w_268 : (Cond.fieldLink "FairBlocks$Sightings" (31 : Nat) "FairBlocks$Sightings" "bench" "LFairBlocks$Bench;") ∈ gw := gm 268 (by decide +kernel) rfl
theorem w_269 : (Cond.fieldLink "FairBlocks$Sightings" (9 : Nat) "FairBlocks$Sightings" "slots" "[I") ∈ gw := gm 269 (by decide +kernel) rfl
theorem w_270 : (Cond.fieldLink "FairBlocks$Sightings" (15 : Nat) "FairBlocks$Sightings" "users" "[I") ∈ gw := gm 270 (by decide +kernel) rfl
theorem w_271 : (Cond.fieldLink "FairBlocks$Sightings" (18 : Nat) "FairBlocks$Sightings" "whats" "[I") ∈ gw := gm 271 (by decide +kernel) rfl
theorem w_272 : (Cond.fieldLink "FairBlocks$Sightings" (21 : Nat) "FairBlocks$Sightings" "figures" "[I") ∈ gw := gm 272 (by decide +kernel) rfl
theorem w_273 : (Cond.fieldLink "FairBlocks$Sightings" (24 : Nat) "FairBlocks$Sightings" "wases" "[I") ∈ gw := gm 273 (by decide +kernel) rfl
theorem w_274 : (Cond.fieldLink "FairBlocks$Sightings" (27 : Nat) "FairBlocks$Sightings" "size" "I") ∈ gw := gm 274 (by decide +kernel) rfl
theorem w_275 : (Cond.fieldLink "FairBlocks" (200 : Nat) "FairBlocks$Sightings" "size" "I") ∈ gw := gm 275 (by decide +kernel) rfl
theorem w_291 : (Cond.classLink "FairBlocks" (74 : Nat) "FairBlocks$Chances") ∈ gw := gm 291 (by decide +kernel) rfl
theorem w_292 : (Cond.instantiable "FairBlocks$Chances" (1 : Nat)) ∈ gw := gm 292 (by decide +kernel) rfl
theorem w_293 : (Cond.methodLink "FairBlocks" (76 : Nat) ({ cls := "FairBlocks$Chances", name := "<init>", desc := "(LFairBlocks$Bench;)V" } : MethodName)) ∈ gw := gm 293 (by decide +kernel) rfl
theorem w_294 : (Cond.instanceMethod ({ cls := "FairBlocks$Chances", name := "<init>", desc := "(LFairBlocks$Bench;)V" } : MethodName)) ∈ gw := gm 294 (by decide +kernel) rfl
theorem w_295 : (Cond.code ({ cls := "FairBlocks$Chances", name := "<init>", desc := "(LFairBlocks$Bench;)V" } : MethodName) prog_4_method_1_code (2 : Nat) (Option.none : Option FieldType)) ∈ gw := gm 295 (by decide +kernel) rfl
theorem w_296 : (Cond.methodLink "FairBlocks$Chances" (3 : Nat) ({ cls := "java/lang/Object", name := "<init>", desc := "()V" } : MethodName)) ∈ gw := gm 296 (by decide +kernel) rfl
theorem w_297 : (Cond.fieldLink "FairBlocks$Chances" (9 : Nat) "FairBlocks$Chances" "bench" "LFairBlocks$Bench;") ∈ gw := gm 297 (by decide +kernel) rfl
theorem w_301 : (Cond.fieldLink "FairBlocks" (10 : Nat) "FairBlocks" "text" "LFairBlocks$Text;") ∈ gw := gm 301 (by decide +kernel) rfl
theorem w_302 : (Cond.fieldLink "FairBlocks" (19 : Nat) "FairBlocks" "bench" "LFairBlocks$Bench;") ∈ gw := gm 302 (by decide +kernel) rfl
theorem w_303 : (Cond.fieldLink "FairBlocks" (27 : Nat) "FairBlocks" "plan" "LFairBlocks$Plan;") ∈ gw := gm 303 (by decide +kernel) rfl
theorem w_304 : (Cond.fieldLink "FairBlocks" (32 : Nat) "FairBlocks" "live" "LFairBlocks$Standing;") ∈ gw := gm 304 (by decide +kernel) rfl
theorem w_305 : (Cond.fieldLink "FairBlocks" (36 : Nat) "FairBlocks" "acts" "LFairBlocks$Acts;") ∈ gw := gm 305 (by decide +kernel) rfl
theorem w_306 : (Cond.fieldLink "FairBlocks" (42 : Nat) "FairBlocks" "kept" "[LFairBlocks$Standing;") ∈ gw := gm 306 (by decide +kernel) rfl
theorem w_307 : (Cond.fieldLink "FairBlocks" (47 : Nat) "FairBlocks" "isKept" "[Z") ∈ gw := gm 307 (by decide +kernel) rfl
theorem w_308 : (Cond.fieldLink "FairBlocks" (56 : Nat) "FairBlocks" "outlook" "LFairBlocks$Outlook;") ∈ gw := gm 308 (by decide +kernel) rfl
theorem w_309 : (Cond.fieldLink "FairBlocks" (63 : Nat) "FairBlocks" "court" "LFairBlocks$Court;") ∈ gw := gm 309 (by decide +kernel) rfl
theorem w_310 : (Cond.fieldLink "FairBlocks" (70 : Nat) "FairBlocks" "sightings" "LFairBlocks$Sightings;") ∈ gw := gm 310 (by decide +kernel) rfl
theorem w_311 : (Cond.fieldLink "FairBlocks" (77 : Nat) "FairBlocks" "chances" "LFairBlocks$Chances;") ∈ gw := gm 311 (by decide +kernel) rfl
theorem w_312 : (Cond.fieldLink "FairBlocks" (81 : Nat) "FairBlocks" "seedNow" "J") ∈ gw := gm 312 (by decide +kernel) rfl
theorem w_338 : (Cond.methodLink "FairBlocksLaw" (13 : Nat) ({ cls := "FairBlocks", name := "write", desc := "(I)I" } : MethodName)) ∈ gw := gm 338 (by decide +kernel) rfl
theorem w_339 : (Cond.instanceMethod ({ cls := "FairBlocks", name := "write", desc := "(I)I" } : MethodName)) ∈ gw := gm 339 (by decide +kernel) rfl
theorem w_340 : (Cond.selects "FairBlocks" ({ cls := "FairBlocks", name := "write", desc := "(I)I" } : MethodName) ({ cls := "FairBlocks", name := "write", desc := "(I)I" } : MethodName)) ∈ gw := gm 340 (by decide +kernel) rfl
theorem w_341 : (Cond.code ({ cls := "FairBlocks", name := "write", desc := "(I)I" } : MethodName) prog_1_method_2_code (2 : Nat) (Option.some FieldType.int)) ∈ gw := gm 341 (by decide +kernel) rfl
theorem w_342 : (Cond.methodLink "FairBlocks" (85 : Nat) ({ cls := "FairBlocks", name := "within", desc := "(III)Z" } : MethodName)) ∈ gw := gm 342 (by decide +kernel) rfl
theorem w_343 : (Cond.static ({ cls := "FairBlocks", name := "within", desc := "(III)Z" } : MethodName)) ∈ gw := gm 343 (by decide +kernel) rfl
theorem w_344 : (Cond.code ({ cls := "FairBlocks", name := "within", desc := "(III)Z" } : MethodName) prog_1_method_29_code (3 : Nat) (Option.some FieldType.boolean)) ∈ gw := gm 344 (by decide +kernel) rfl
theorem w_345 : (Cond.methodLink "FairBlocks" (93 : Nat) ({ cls := "FairBlocks$Text", name := "add", desc := "(I)V" } : MethodName)) ∈ gw := gm 345 (by decide +kernel) rfl
theorem w_346 : (Cond.instanceMethod ({ cls := "FairBlocks$Text", name := "add", desc := "(I)V" } : MethodName)) ∈ gw := gm 346 (by decide +kernel) rfl
theorem w_347 : (Cond.selects "FairBlocks$Text" ({ cls := "FairBlocks$Text", name := "add", desc := "(I)V" } : MethodName) ({ cls := "FairBlocks$Text", name := "add", desc := "(I)V" } : MethodName)) ∈ gw := gm 347 (by decide +kernel) rfl
theorem w_348 : (Cond.code ({ cls := "FairBlocks$Text", name := "add", desc := "(I)V" } : MethodName) prog_11_method_2_code (2 : Nat) (Option.none : Option FieldType)) ∈ gw := gm 348 (by decide +kernel) rfl
theorem w_349 : (Cond.methodLink "FairBlocksLaw" (18 : Nat) ({ cls := "FairBlocks", name := "wipe", desc := "()I" } : MethodName)) ∈ gw := gm 349 (by decide +kernel) rfl
theorem w_350 : (Cond.instanceMethod ({ cls := "FairBlocks", name := "wipe", desc := "()I" } : MethodName)) ∈ gw := gm 350 (by decide +kernel) rfl
theorem w_351 : (Cond.selects "FairBlocks" ({ cls := "FairBlocks", name := "wipe", desc := "()I" } : MethodName) ({ cls := "FairBlocks", name := "wipe", desc := "()I" } : MethodName)) ∈ gw := gm 351 (by decide +kernel) rfl
theorem w_352 : (Cond.code ({ cls := "FairBlocks", name := "wipe", desc := "()I" } : MethodName) prog_1_method_3_code (2 : Nat) (Option.some FieldType.int)) ∈ gw := gm 352 (by decide +kernel) rfl
theorem w_353 : (Cond.methodLink "FairBlocksLaw" (23 : Nat) ({ cls := "FairBlocks", name := "fault", desc := "()I" } : MethodName)) ∈ gw := gm 353 (by decide +kernel) rfl
theorem w_354 : (Cond.instanceMethod ({ cls := "FairBlocks", name := "fault", desc := "()I" } : MethodName)) ∈ gw := gm 354 (by decide +kernel) rfl
theorem w_355 : (Cond.selects "FairBlocks" ({ cls := "FairBlocks", name := "fault", desc := "()I" } : MethodName) ({ cls := "FairBlocks", name := "fault", desc := "()I" } : MethodName)) ∈ gw := gm 355 (by decide +kernel) rfl
theorem w_356 : (Cond.code ({ cls := "FairBlocks", name := "fault", desc := "()I" } : MethodName) prog_1_method_4_code (1 : Nat) (Option.some FieldType.int)) ∈ gw := gm 356 (by decide +kernel) rfl
theorem w_357 : (Cond.methodLink "FairBlocks" (97 : Nat) ({ cls := "FairBlocks$Text", name := "firstFault", desc := "()I" } : MethodName)) ∈ gw := gm 357 (by decide +kernel) rfl
theorem w_358 : (Cond.instanceMethod ({ cls := "FairBlocks$Text", name := "firstFault", desc := "()I" } : MethodName)) ∈ gw := gm 358 (by decide +kernel) rfl
theorem w_359 : (Cond.selects "FairBlocks$Text" ({ cls := "FairBlocks$Text", name := "firstFault", desc := "()I" } : MethodName) ({ cls := "FairBlocks$Text", name := "firstFault", desc := "()I" } : MethodName)) ∈ gw := gm 359 (by decide +kernel) rfl
theorem w_360 : (Cond.code ({ cls := "FairBlocks$Text", name := "firstFault", desc := "()I" } : MethodName) prog_11_method_3_code (4 : Nat) (Option.some FieldType.int)) ∈ gw := gm 360 (by decide +kernel) rfl
theorem w_361 : (Cond.methodLink "FairBlocks$Text" (19 : Nat) ({ cls := "FairBlocks$Text", name := "behind", desc := "(II)I" } : MethodName)) ∈ gw := gm 361 (by decide +kernel) rfl
theorem w_362 : (Cond.static ({ cls := "FairBlocks$Text", name := "behind", desc := "(II)I" } : MethodName)) ∈ gw := gm 362 (by decide +kernel) rfl
theorem w_363 : (Cond.code ({ cls := "FairBlocks$Text", name := "behind", desc := "(II)I" } : MethodName) prog_11_method_4_code (2 : Nat) (Option.some FieldType.int)) ∈ gw := gm 363 (by decide +kernel) rfl
theorem w_365 : (Cond.methodLink "FairBlocks$Text" (27 : Nat) ({ cls := "FairBlocks$Text", name := "behindRate", desc := "(II)I" } : MethodName)) ∈ gw := gm 365 (by decide +kernel) rfl
theorem w_366 : (Cond.static ({ cls := "FairBlocks$Text", name := "behindRate", desc := "(II)I" } : MethodName)) ∈ gw := gm 366 (by decide +kernel) rfl
theorem w_367 : (Cond.code ({ cls := "FairBlocks$Text", name := "behindRate", desc := "(II)I" } : MethodName) prog_11_method_5_code (2 : Nat) (Option.some FieldType.int)) ∈ gw := gm 367 (by decide +kernel) rfl
theorem w_368 : (Cond.methodLink "FairBlocksLaw" (27 : Nat) ({ cls := "FairBlocks", name := "cell", desc := "()I" } : MethodName)) ∈ gw := gm 368 (by decide +kernel) rfl
theorem w_369 : (Cond.instanceMethod ({ cls := "FairBlocks", name := "cell", desc := "()I" } : MethodName)) ∈ gw := gm 369 (by decide +kernel) rfl
theorem w_370 : (Cond.selects "FairBlocks" ({ cls := "FairBlocks", name := "cell", desc := "()I" } : MethodName) ({ cls := "FairBlocks", name := "cell", desc := "()I" } : MethodName)) ∈ gw := gm 370 (by decide +kernel) rfl
theorem w_371 : (Cond.code ({ cls := "FairBlocks", name := "cell", desc := "()I" } : MethodName) prog_1_method_5_code (2 : Nat) (Option.some FieldType.int)) ∈ gw := gm 371 (by decide +kernel) rfl
theorem w_372 : (Cond.methodLink "FairBlocks" (101 : Nat) ({ cls := "FairBlocks$Text", name := "readInto", desc := "(LFairBlocks$Plan;LFairBlocks$Standing;)V" } : MethodName)) ∈ gw := gm 372 (by decide +kernel) rfl
theorem w_373 : (Cond.instanceMethod ({ cls := "FairBlocks$Text", name := "readInto", desc := "(LFairBlocks$Plan;LFairBlocks$Standing;)V" } : MethodName)) ∈ gw := gm 373 (by decide +kernel) rfl
theorem w_374 : (Cond.selects "FairBlocks$Text" ({ cls := "FairBlocks$Text", name := "readInto", desc := "(LFairBlocks$Plan;LFairBlocks$Standing;)V" } : MethodName) ({ cls := "FairBlocks$Text", name := "readInto", desc := "(LFairBlocks$Plan;LFairBlocks$Standing;)V" } : MethodName)) ∈ gw := gm 374 (by decide +kernel) rfl
theorem w_375 : (Cond.code ({ cls := "FairBlocks$Text", name := "readInto", desc := "(LFairBlocks$Plan;LFairBlocks$Standing;)V" } : MethodName) prog_11_method_6_code (6 : Nat) (Option.none : Option FieldType)) ∈ gw := gm 375 (by decide +kernel) rfl
theorem w_376 : (Cond.methodLink "FairBlocks$Text" (30 : Nat) ({ cls := "FairBlocks$Text", name := "figure", desc := "(I)I" } : MethodName)) ∈ gw := gm 376 (by decide +kernel) rfl
theorem w_378 : (Cond.instanceMethod ({ cls := "FairBlocks$Text", name := "figure", desc := "(I)I" } : MethodName)) ∈ gw := gm 378 (by decide +kernel) rfl
theorem w_379 : (Cond.code ({ cls := "FairBlocks$Text", name := "figure", desc := "(I)I" } : MethodName) prog_11_method_7_code (2 : Nat) (Option.some FieldType.int)) ∈ gw := gm 379 (by decide +kernel) rfl
theorem w_380 : (Cond.methodLink "FairBlocks$Text" (56 : Nat) ({ cls := "FairBlocks$User", name := "begin", desc := "(III)V" } : MethodName)) ∈ gw := gm 380 (by decide +kernel) rfl
theorem w_381 : (Cond.instanceMethod ({ cls := "FairBlocks$User", name := "begin", desc := "(III)V" } : MethodName)) ∈ gw := gm 381 (by decide +kernel) rfl
theorem w_382 : (Cond.selects "FairBlocks$User" ({ cls := "FairBlocks$User", name := "begin", desc := "(III)V" } : MethodName) ({ cls := "FairBlocks$User", name := "begin", desc := "(III)V" } : MethodName)) ∈ gw := gm 382 (by decide +kernel) rfl
theorem w_383 : (Cond.code ({ cls := "FairBlocks$User", name := "begin", desc := "(III)V" } : MethodName) prog_12_method_2_code (4 : Nat) (Option.none : Option FieldType)) ∈ gw := gm 383 (by decide +kernel) rfl
theorem w_384 : (Cond.methodLink "FairBlocks$Text" (62 : Nat) ({ cls := "FairBlocks$Plan", name := "setRate", desc := "(III)V" } : MethodName)) ∈ gw := gm 384 (by decide +kernel) rfl
theorem w_385 : (Cond.instanceMethod ({ cls := "FairBlocks$Plan", name := "setRate", desc := "(III)V" } : MethodName)) ∈ gw := gm 385 (by decide +kernel) rfl
theorem w_386 : (Cond.selects "FairBlocks$Plan" ({ cls := "FairBlocks$Plan", name := "setRate", desc := "(III)V" } : MethodName) ({ cls := "FairBlocks$Plan", name := "setRate", desc := "(III)V" } : MethodName)) ∈ gw := gm 386 (by decide +kernel) rfl
theorem w_387 : (Cond.code ({ cls := "FairBlocks$Plan", name := "setRate", desc := "(III)V" } : MethodName) prog_7_method_3_code (4 : Nat) (Option.none : Option FieldType)) ∈ gw := gm 387 (by decide +kernel) rfl
theorem w_389 : (Cond.methodLink "FairBlocks" (105 : Nat) ({ cls := "FairBlocks$Acts", name := "forgetAll", desc := "()V" } : MethodName)) ∈ gw := gm 389 (by decide +kernel) rfl
theorem w_390 : (Cond.instanceMethod ({ cls := "FairBlocks$Acts", name := "forgetAll", desc := "()V" } : MethodName)) ∈ gw := gm 390 (by decide +kernel) rfl
theorem w_391 : (Cond.selects "FairBlocks$Acts" ({ cls := "FairBlocks$Acts", name := "forgetAll", desc := "()V" } : MethodName) ({ cls := "FairBlocks$Acts", name := "forgetAll", desc := "()V" } : MethodName)) ∈ gw := gm 391 (by decide +kernel) rfl
theorem w_392 : (Cond.code ({ cls := "FairBlocks$Acts", name := "forgetAll", desc := "()V" } : MethodName) prog_2_method_4_code (1 : Nat) (Option.none : Option FieldType)) ∈ gw := gm 392 (by decide +kernel) rfl
theorem w_393 : (Cond.methodLink "FairBlocksLaw" (31 : Nat) ({ cls := "FairBlocks", name := "user", desc := "(II)I" } : MethodName)) ∈ gw := gm 393 (by decide +kernel) rfl
theorem w_394 : (Cond.instanceMethod ({ cls := "FairBlocks", name := "user", desc := "(II)I" } : MethodName)) ∈ gw := gm 394 (by decide +kernel) rfl
theorem w_395 : (Cond.selects "FairBlocks" ({ cls := "FairBlocks", name := "user", desc := "(II)I" } : MethodName) ({ cls := "FairBlocks", name := "user", desc := "(II)I" } : MethodName)) ∈ gw := gm 395 (by decide +kernel) rfl
theorem w_396 : (Cond.code ({ cls := "FairBlocks", name := "user", desc := "(II)I" } : MethodName) prog_1_method_6_code (3 : Nat) (Option.some FieldType.int)) ∈ gw := gm 396 (by decide +kernel) rfl
theorem w_397 : (Cond.methodLink "FairBlocks" (113 : Nat) ({ cls := "FairBlocks$Plan", name := "has", desc := "(I)Z" } : MethodName)) ∈ gw := gm 397 (by decide +kernel) rfl
theorem w_398 : (Cond.instanceMethod ({ cls := "FairBlocks$Plan", name := "has", desc := "(I)Z" } : MethodName)) ∈ gw := gm 398 (by decide +kernel) rfl
theorem w_399 : (Cond.selects "FairBlocks$Plan" ({ cls := "FairBlocks$Plan", name := "has", desc := "(I)Z" } : MethodName) ({ cls := "FairBlocks$Plan", name := "has", desc := "(I)Z" } : MethodName)) ∈ gw := gm 399 (by decide +kernel) rfl
theorem w_400 : (Cond.code ({ cls := "FairBlocks$Plan", name := "has", desc := "(I)Z" } : MethodName) prog_7_method_2_code (2 : Nat) (Option.some FieldType.boolean)) ∈ gw := gm 400 (by decide +kernel) rfl
theorem w_401 : (Cond.methodLink "FairBlocks" (120 : Nat) ({ cls := "FairBlocks$Plan", name := "rateOf", desc := "(II)I" } : MethodName)) ∈ gw := gm 401 (by decide +kernel) rfl
theorem w_402 : (Cond.instanceMethod ({ cls := "FairBlocks$Plan", name := "rateOf", desc := "(II)I" } : MethodName)) ∈ gw := gm 402 (by decide +kernel) rfl
theorem w_403 : (Cond.selects "FairBlocks$Plan" ({ cls := "FairBlocks$Plan", name := "rateOf", desc := "(II)I" } : MethodName) ({ cls := "FairBlocks$Plan", name := "rateOf", desc := "(II)I" } : MethodName)) ∈ gw := gm 403 (by decide +kernel) rfl
theorem w_404 : (Cond.code ({ cls := "FairBlocks$Plan", name := "rateOf", desc := "(II)I" } : MethodName) prog_7_method_4_code (4 : Nat) (Option.some FieldType.int)) ∈ gw := gm 404 (by decide +kernel) rfl
theorem w_405 : (Cond.methodLink "FairBlocks" (127 : Nat) ({ cls := "FairBlocks$User", name := "told", desc := "(I)I" } : MethodName)) ∈ gw := gm 405 (by decide +kernel) rfl
theorem w_406 : (Cond.instanceMethod ({ cls := "FairBlocks$User", name := "told", desc := "(I)I" } : MethodName)) ∈ gw := gm 406 (by decide +kernel) rfl
theorem w_407 : (Cond.selects "FairBlocks$User" ({ cls := "FairBlocks$User", name := "told", desc := "(I)I" } : MethodName) ({ cls := "FairBlocks$User", name := "told", desc := "(I)I" } : MethodName)) ∈ gw := gm 407 (by decide +kernel) rfl
theorem w_408 : (Cond.code ({ cls := "FairBlocks$User", name := "told", desc := "(I)I" } : MethodName) prog_12_method_4_code (2 : Nat) (Option.some FieldType.int)) ∈ gw := gm 408 (by decide +kernel) rfl
theorem w_409 : (Cond.methodLink "FairBlocksLaw" (36 : Nat) ({ cls := "FairBlocks", name := "slot", desc := "(I)I" } : MethodName)) ∈ gw := gm 409 (by decide +kernel) rfl
theorem w_410 : (Cond.instanceMethod ({ cls := "FairBlocks", name := "slot", desc := "(I)I" } : MethodName)) ∈ gw := gm 410 (by decide +kernel) rfl
theorem w_411 : (Cond.selects "FairBlocks" ({ cls := "FairBlocks", name := "slot", desc := "(I)I" } : MethodName) ({ cls := "FairBlocks", name := "slot", desc := "(I)I" } : MethodName)) ∈ gw := gm 411 (by decide +kernel) rfl
theorem w_412 : (Cond.code ({ cls := "FairBlocks", name := "slot", desc := "(I)I" } : MethodName) prog_1_method_7_code (2 : Nat) (Option.some FieldType.int)) ∈ gw := gm 412 (by decide +kernel) rfl
theorem w_413 : (Cond.methodLink "FairBlocks" (133 : Nat) ({ cls := "FairBlocks$Acts", name := "remember", desc := "(LFairBlocks$Standing;)V" } : MethodName)) ∈ gw := gm 413 (by decide +kernel) rfl
theorem w_414 : (Cond.instanceMethod ({ cls := "FairBlocks$Acts", name := "remember", desc := "(LFairBlocks$Standing;)V" } : MethodName)) ∈ gw := gm 414 (by decide +kernel) rfl
theorem w_415 : (Cond.selects "FairBlocks$Acts" ({ cls := "FairBlocks$Acts", name := "remember", desc := "(LFairBlocks$Standing;)V" } : MethodName) ({ cls := "FairBlocks$Acts", name := "remember", desc := "(LFairBlocks$Standing;)V" } : MethodName)) ∈ gw := gm 415 (by decide +kernel) rfl
theorem w_416 : (Cond.code ({ cls := "FairBlocks$Acts", name := "remember", desc := "(LFairBlocks$Standing;)V" } : MethodName) prog_2_method_2_code (2 : Nat) (Option.none : Option FieldType)) ∈ gw := gm 416 (by decide +kernel) rfl
theorem w_417 : (Cond.methodLink "FairBlocks$Acts" (25 : Nat) ({ cls := "FairBlocks$Standing", name := "copyFrom", desc := "(LFairBlocks$Standing;)V" } : MethodName)) ∈ gw := gm 417 (by decide +kernel) rfl
theorem w_418 : (Cond.instanceMethod ({ cls := "FairBlocks$Standing", name := "copyFrom", desc := "(LFairBlocks$Standing;)V" } : MethodName)) ∈ gw := gm 418 (by decide +kernel) rfl
theorem w_419 : (Cond.selects "FairBlocks$Standing" ({ cls := "FairBlocks$Standing", name := "copyFrom", desc := "(LFairBlocks$Standing;)V" } : MethodName) ({ cls := "FairBlocks$Standing", name := "copyFrom", desc := "(LFairBlocks$Standing;)V" } : MethodName)) ∈ gw := gm 419 (by decide +kernel) rfl
theorem w_420 : (Cond.code ({ cls := "FairBlocks$Standing", name := "copyFrom", desc := "(LFairBlocks$Standing;)V" } : MethodName) prog_10_method_2_code (3 : Nat) (Option.none : Option FieldType)) ∈ gw := gm 420 (by decide +kernel) rfl
theorem w_421 : (Cond.methodLink "FairBlocks$Standing" (25 : Nat) ({ cls := "FairBlocks$User", name := "copyFrom", desc := "(LFairBlocks$User;)V" } : MethodName)) ∈ gw := gm 421 (by decide +kernel) rfl
theorem w_422 : (Cond.instanceMethod ({ cls := "FairBlocks$User", name := "copyFrom", desc := "(LFairBlocks$User;)V" } : MethodName)) ∈ gw := gm 422 (by decide +kernel) rfl
theorem w_423 : (Cond.selects "FairBlocks$User" ({ cls := "FairBlocks$User", name := "copyFrom", desc := "(LFairBlocks$User;)V" } : MethodName) ({ cls := "FairBlocks$User", name := "copyFrom", desc := "(LFairBlocks$User;)V" } : MethodName)) ∈ gw := gm 423 (by decide +kernel) rfl
theorem w_424 : (Cond.code ({ cls := "FairBlocks$User", name := "copyFrom", desc := "(LFairBlocks$User;)V" } : MethodName) prog_12_method_3_code (2 : Nat) (Option.none : Option FieldType)) ∈ gw := gm 424 (by decide +kernel) rfl
theorem w_425 : (Cond.methodLink "FairBlocks" (141 : Nat) ({ cls := "FairBlocks$Scheduler", name := "run", desc := "(LFairBlocks$Standing;I)I" } : MethodName)) ∈ gw := gm 425 (by decide +kernel) rfl
theorem w_426 : (Cond.instanceMethod ({ cls := "FairBlocks$Scheduler", name := "run", desc := "(LFairBlocks$Standing;I)I" } : MethodName)) ∈ gw := gm 426 (by decide +kernel) rfl
theorem w_427 : (Cond.selects "FairBlocks$Scheduler" ({ cls := "FairBlocks$Scheduler", name := "run", desc := "(LFairBlocks$Standing;I)I" } : MethodName) ({ cls := "FairBlocks$Scheduler", name := "run", desc := "(LFairBlocks$Standing;I)I" } : MethodName)) ∈ gw := gm 427 (by decide +kernel) rfl
theorem w_428 : (Cond.code ({ cls := "FairBlocks$Scheduler", name := "run", desc := "(LFairBlocks$Standing;I)I" } : MethodName) prog_8_method_2_code (5 : Nat) (Option.some FieldType.int)) ∈ gw := gm 428 (by decide +kernel) rfl
theorem w_429 : (Cond.methodLink "FairBlocks$Scheduler" (28 : Nat) ({ cls := "FairBlocks$Scheduler", name := "runOne", desc := "(LFairBlocks$Standing;Z)I" } : MethodName)) ∈ gw := gm 429 (by decide +kernel) rfl
theorem w_430 : (Cond.instanceMethod ({ cls := "FairBlocks$Scheduler", name := "runOne", desc := "(LFairBlocks$Standing;Z)I" } : MethodName)) ∈ gw := gm 430 (by decide +kernel) rfl
theorem w_431 : (Cond.selects "FairBlocks$Scheduler" ({ cls := "FairBlocks$Scheduler", name := "runOne", desc := "(LFairBlocks$Standing;Z)I" } : MethodName) ({ cls := "FairBlocks$Scheduler", name := "runOne", desc := "(LFairBlocks$Standing;Z)I" } : MethodName)) ∈ gw := gm 431 (by decide +kernel) rfl
theorem w_432 : (Cond.code ({ cls := "FairBlocks$Scheduler", name := "runOne", desc := "(LFairBlocks$Standing;Z)I" } : MethodName) prog_8_method_3_code (5 : Nat) (Option.some FieldType.int)) ∈ gw := gm 432 (by decide +kernel) rfl
theorem w_433 : (Cond.methodLink "FairBlocks$Scheduler" (32 : Nat) ({ cls := "FairBlocks$Scheduler", name := "comeIn", desc := "(LFairBlocks$Standing;)V" } : MethodName)) ∈ gw := gm 433 (by decide +kernel) rfl
theorem w_435 : (Cond.instanceMethod ({ cls := "FairBlocks$Scheduler", name := "comeIn", desc := "(LFairBlocks$Standing;)V" } : MethodName)) ∈ gw := gm 435 (by decide +kernel) rfl
theorem w_436 : (Cond.code ({ cls := "FairBlocks$Scheduler", name := "comeIn", desc := "(LFairBlocks$Standing;)V" } : MethodName) prog_8_method_5_code (4 : Nat) (Option.none : Option FieldType)) ∈ gw := gm 436 (by decide +kernel) rfl
theorem w_437 : (Cond.methodLink "FairBlocks$Scheduler" (71 : Nat) ({ cls := "FairBlocks$User", name := "takeIn", desc := "(I)V" } : MethodName)) ∈ gw := gm 437 (by decide +kernel) rfl
theorem w_438 : (Cond.instanceMethod ({ cls := "FairBlocks$User", name := "takeIn", desc := "(I)V" } : MethodName)) ∈ gw := gm 438 (by decide +kernel) rfl
theorem w_439 : (Cond.selects "FairBlocks$User" ({ cls := "FairBlocks$User", name := "takeIn", desc := "(I)V" } : MethodName) ({ cls := "FairBlocks$User", name := "takeIn", desc := "(I)V" } : MethodName)) ∈ gw := gm 439 (by decide +kernel) rfl
theorem w_440 : (Cond.code ({ cls := "FairBlocks$User", name := "takeIn", desc := "(I)V" } : MethodName) prog_12_method_8_code (3 : Nat) (Option.none : Option FieldType)) ∈ gw := gm 440 (by decide +kernel) rfl
theorem w_441 : (Cond.methodLink "FairBlocks$Scheduler" (78 : Nat) ({ cls := "FairBlocks$Plan", name := "rateOf", desc := "(II)I" } : MethodName)) ∈ gw := gm 441 (by decide +kernel) rfl
theorem w_442 : (Cond.methodLink "FairBlocks$Scheduler" (42 : Nat) ({ cls := "FairBlocks$Scheduler", name := "dueFor", desc := "(LFairBlocks$Standing;I)I" } : MethodName)) ∈ gw := gm 442 (by decide +kernel) rfl
theorem w_444 : (Cond.instanceMethod ({ cls := "FairBlocks$Scheduler", name := "dueFor", desc := "(LFairBlocks$Standing;I)I" } : MethodName)) ∈ gw := gm 444 (by decide +kernel) rfl
theorem w_445 : (Cond.code ({ cls := "FairBlocks$Scheduler", name := "dueFor", desc := "(LFairBlocks$Standing;I)I" } : MethodName) prog_8_method_7_code (5 : Nat) (Option.some FieldType.int)) ∈ gw := gm 445 (by decide +kernel) rfl
theorem w_446 : (Cond.methodLink "FairBlocks$Scheduler" (99 : Nat) ({ cls := "FairBlocks$Scheduler", name := "mayHave", desc := "(LFairBlocks$User;II)Z" } : MethodName)) ∈ gw := gm 446 (by decide +kernel) rfl
theorem w_448 : (Cond.instanceMethod ({ cls := "FairBlocks$Scheduler", name := "mayHave", desc := "(LFairBlocks$User;II)Z" } : MethodName)) ∈ gw := gm 448 (by decide +kernel) rfl
theorem w_449 : (Cond.code ({ cls := "FairBlocks$Scheduler", name := "mayHave", desc := "(LFairBlocks$User;II)Z" } : MethodName) prog_8_method_8_code (4 : Nat) (Option.some FieldType.boolean)) ∈ gw := gm 449 (by decide +kernel) rfl
theorem w_450 : (Cond.methodLink "FairBlocks$Scheduler" (103 : Nat) ({ cls := "FairBlocks$Scheduler", name := "isBefore", desc := "(LFairBlocks$Standing;II)Z" } : MethodName)) ∈ gw := gm 450 (by decide +kernel) rfl
theorem w_452 : (Cond.instanceMethod ({ cls := "FairBlocks$Scheduler", name := "isBefore", desc := "(LFairBlocks$Standing;II)Z" } : MethodName)) ∈ gw := gm 452 (by decide +kernel) rfl
theorem w_453 : (Cond.code ({ cls := "FairBlocks$Scheduler", name := "isBefore", desc := "(LFairBlocks$Standing;II)Z" } : MethodName) prog_8_method_9_code (10 : Nat) (Option.some FieldType.boolean)) ∈ gw := gm 453 (by decide +kernel) rfl
theorem w_454 : (Cond.methodLink "FairBlocks$Scheduler" (52 : Nat) ({ cls := "FairBlocks$User", name := "send", desc := "(I)I" } : MethodName)) ∈ gw := gm 454 (by decide +kernel) rfl
theorem w_455 : (Cond.instanceMethod ({ cls := "FairBlocks$User", name := "send", desc := "(I)I" } : MethodName)) ∈ gw := gm 455 (by decide +kernel) rfl
theorem w_456 : (Cond.selects "FairBlocks$User" ({ cls := "FairBlocks$User", name := "send", desc := "(I)I" } : MethodName) ({ cls := "FairBlocks$User", name := "send", desc := "(I)I" } : MethodName)) ∈ gw := gm 456 (by decide +kernel) rfl
theorem w_457 : (Cond.code ({ cls := "FairBlocks$User", name := "send", desc := "(I)I" } : MethodName) prog_12_method_9_code (4 : Nat) (Option.some FieldType.int)) ∈ gw := gm 457 (by decide +kernel) rfl
theorem w_458 : (Cond.methodLink "FairBlocks$User" (43 : Nat) ({ cls := "java/lang/Math", name := "min", desc := "(II)I" } : MethodName)) ∈ gw := gm 458 (by decide +kernel) rfl
theorem w_459 : (Cond.static ({ cls := "java/lang/Math", name := "min", desc := "(II)I" } : MethodName)) ∈ gw := gm 459 (by decide +kernel) rfl
theorem w_460 : (Cond.code ({ cls := "java/lang/Math", name := "min", desc := "(II)I" } : MethodName) prog_16_method_69_code (2 : Nat) (Option.some FieldType.int)) ∈ gw := gm 460 (by decide +kernel) rfl
theorem w_461 : (Cond.methodLink "FairBlocks$Scheduler" (58 : Nat) ({ cls := "FairBlocks$Scheduler", name := "endSlot", desc := "(LFairBlocks$Standing;)I" } : MethodName)) ∈ gw := gm 461 (by decide +kernel) rfl
theorem w_463 : (Cond.instanceMethod ({ cls := "FairBlocks$Scheduler", name := "endSlot", desc := "(LFairBlocks$Standing;)I" } : MethodName)) ∈ gw := gm 463 (by decide +kernel) rfl
theorem w_464 : (Cond.code ({ cls := "FairBlocks$Scheduler", name := "endSlot", desc := "(LFairBlocks$Standing;)I" } : MethodName) prog_8_method_6_code (6 : Nat) (Option.some FieldType.int)) ∈ gw := gm 464 (by decide +kernel) rfl
theorem w_465 : (Cond.methodLink "FairBlocks$Scheduler" (92 : Nat) ({ cls := "FairBlocks$User", name := "waiting", desc := "()I" } : MethodName)) ∈ gw := gm 465 (by decide +kernel) rfl
theorem w_466 : (Cond.instanceMethod ({ cls := "FairBlocks$User", name := "waiting", desc := "()I" } : MethodName)) ∈ gw := gm 466 (by decide +kernel) rfl
theorem w_467 : (Cond.selects "FairBlocks$User" ({ cls := "FairBlocks$User", name := "waiting", desc := "()I" } : MethodName) ({ cls := "FairBlocks$User", name := "waiting", desc := "()I" } : MethodName)) ∈ gw := gm 467 (by decide +kernel) rfl
theorem w_468 : (Cond.code ({ cls := "FairBlocks$User", name := "waiting", desc := "()I" } : MethodName) prog_12_method_6_code (1 : Nat) (Option.some FieldType.int)) ∈ gw := gm 468 (by decide +kernel) rfl
theorem w_469 : (Cond.methodLink "FairBlocksLaw" (40 : Nat) ({ cls := "FairBlocks", name := "turn", desc := "(I)I" } : MethodName)) ∈ gw := gm 469 (by decide +kernel) rfl
theorem w_470 : (Cond.instanceMethod ({ cls := "FairBlocks", name := "turn", desc := "(I)I" } : MethodName)) ∈ gw := gm 470 (by decide +kernel) rfl
theorem w_471 : (Cond.selects "FairBlocks" ({ cls := "FairBlocks", name := "turn", desc := "(I)I" } : MethodName) ({ cls := "FairBlocks", name := "turn", desc := "(I)I" } : MethodName)) ∈ gw := gm 471 (by decide +kernel) rfl
theorem w_472 : (Cond.code ({ cls := "FairBlocks", name := "turn", desc := "(I)I" } : MethodName) prog_1_method_8_code (3 : Nat) (Option.some FieldType.int)) ∈ gw := gm 472 (by decide +kernel) rfl
theorem w_473 : (Cond.methodLink "FairBlocksLaw" (44 : Nat) ({ cls := "FairBlocks", name := "drop", desc := "(I)I" } : MethodName)) ∈ gw := gm 473 (by decide +kernel) rfl
theorem w_474 : (Cond.instanceMethod ({ cls := "FairBlocks", name := "drop", desc := "(I)I" } : MethodName)) ∈ gw := gm 474 (by decide +kernel) rfl
theorem w_475 : (Cond.selects "FairBlocks" ({ cls := "FairBlocks", name := "drop", desc := "(I)I" } : MethodName) ({ cls := "FairBlocks", name := "drop", desc := "(I)I" } : MethodName)) ∈ gw := gm 475 (by decide +kernel) rfl
theorem w_476 : (Cond.code ({ cls := "FairBlocks", name := "drop", desc := "(I)I" } : MethodName) prog_1_method_9_code (4 : Nat) (Option.some FieldType.int)) ∈ gw := gm 476 (by decide +kernel) rfl
theorem w_477 : (Cond.methodLink "FairBlocks" (151 : Nat) ({ cls := "FairBlocks$User", name := "waiting", desc := "()I" } : MethodName)) ∈ gw := gm 477 (by decide +kernel) rfl
theorem w_478 : (Cond.methodLink "FairBlocks" (154 : Nat) ({ cls := "FairBlocks$User", name := "dropAll", desc := "()V" } : MethodName)) ∈ gw := gm 478 (by decide +kernel) rfl
theorem w_479 : (Cond.instanceMethod ({ cls := "FairBlocks$User", name := "dropAll", desc := "()V" } : MethodName)) ∈ gw := gm 479 (by decide +kernel) rfl
theorem w_480 : (Cond.selects "FairBlocks$User" ({ cls := "FairBlocks$User", name := "dropAll", desc := "()V" } : MethodName) ({ cls := "FairBlocks$User", name := "dropAll", desc := "()V" } : MethodName)) ∈ gw := gm 480 (by decide +kernel) rfl
theorem w_481 : (Cond.code ({ cls := "FairBlocks$User", name := "dropAll", desc := "()V" } : MethodName) prog_12_method_7_code (1 : Nat) (Option.none : Option FieldType)) ∈ gw := gm 481 (by decide +kernel) rfl
theorem w_482 : (Cond.methodLink "FairBlocksLaw" (48 : Nat) ({ cls := "FairBlocks", name := "set", desc := "(III)I" } : MethodName)) ∈ gw := gm 482 (by decide +kernel) rfl
theorem w_483 : (Cond.instanceMethod ({ cls := "FairBlocks", name := "set", desc := "(III)I" } : MethodName)) ∈ gw := gm 483 (by decide +kernel) rfl
theorem w_484 : (Cond.selects "FairBlocks" ({ cls := "FairBlocks", name := "set", desc := "(III)I" } : MethodName) ({ cls := "FairBlocks", name := "set", desc := "(III)I" } : MethodName)) ∈ gw := gm 484 (by decide +kernel) rfl
theorem w_485 : (Cond.code ({ cls := "FairBlocks", name := "set", desc := "(III)I" } : MethodName) prog_1_method_10_code (4 : Nat) (Option.some FieldType.int)) ∈ gw := gm 485 (by decide +kernel) rfl
theorem w_486 : (Cond.methodLink "FairBlocks" (157 : Nat) ({ cls := "FairBlocks$User", name := "change", desc := "(II)I" } : MethodName)) ∈ gw := gm 486 (by decide +kernel) rfl
theorem w_487 : (Cond.instanceMethod ({ cls := "FairBlocks$User", name := "change", desc := "(II)I" } : MethodName)) ∈ gw := gm 487 (by decide +kernel) rfl
theorem w_488 : (Cond.selects "FairBlocks$User" ({ cls := "FairBlocks$User", name := "change", desc := "(II)I" } : MethodName) ({ cls := "FairBlocks$User", name := "change", desc := "(II)I" } : MethodName)) ∈ gw := gm 488 (by decide +kernel) rfl
theorem w_489 : (Cond.code ({ cls := "FairBlocks$User", name := "change", desc := "(II)I" } : MethodName) prog_12_method_5_code (4 : Nat) (Option.some FieldType.int)) ∈ gw := gm 489 (by decide +kernel) rfl
theorem w_490 : (Cond.methodLink "FairBlocksLaw" (53 : Nat) ({ cls := "FairBlocks", name := "patience", desc := "(I)I" } : MethodName)) ∈ gw := gm 490 (by decide +kernel) rfl
theorem w_491 : (Cond.instanceMethod ({ cls := "FairBlocks", name := "patience", desc := "(I)I" } : MethodName)) ∈ gw := gm 491 (by decide +kernel) rfl
theorem w_492 : (Cond.selects "FairBlocks" ({ cls := "FairBlocks", name := "patience", desc := "(I)I" } : MethodName) ({ cls := "FairBlocks", name := "patience", desc := "(I)I" } : MethodName)) ∈ gw := gm 492 (by decide +kernel) rfl
theorem w_493 : (Cond.code ({ cls := "FairBlocks", name := "patience", desc := "(I)I" } : MethodName) prog_1_method_11_code (3 : Nat) (Option.some FieldType.int)) ∈ gw := gm 493 (by decide +kernel) rfl
theorem w_494 : (Cond.methodLink "FairBlocksLaw" (57 : Nat) ({ cls := "FairBlocks", name := "undo", desc := "()I" } : MethodName)) ∈ gw := gm 494 (by decide +kernel) rfl
theorem w_495 : (Cond.instanceMethod ({ cls := "FairBlocks", name := "undo", desc := "()I" } : MethodName)) ∈ gw := gm 495 (by decide +kernel) rfl
theorem w_496 : (Cond.selects "FairBlocks" ({ cls := "FairBlocks", name := "undo", desc := "()I" } : MethodName) ({ cls := "FairBlocks", name := "undo", desc := "()I" } : MethodName)) ∈ gw := gm 496 (by decide +kernel) rfl
theorem w_497 : (Cond.code ({ cls := "FairBlocks", name := "undo", desc := "()I" } : MethodName) prog_1_method_12_code (1 : Nat) (Option.some FieldType.int)) ∈ gw := gm 497 (by decide +kernel) rfl
theorem w_498 : (Cond.methodLink "FairBlocks" (166 : Nat) ({ cls := "FairBlocks$Acts", name := "takeBack", desc := "(LFairBlocks$Standing;)V" } : MethodName)) ∈ gw := gm 498 (by decide +kernel) rfl
theorem w_499 : (Cond.instanceMethod ({ cls := "FairBlocks$Acts", name := "takeBack", desc := "(LFairBlocks$Standing;)V" } : MethodName)) ∈ gw := gm 499 (by decide +kernel) rfl
theorem w_500 : (Cond.selects "FairBlocks$Acts" ({ cls := "FairBlocks$Acts", name := "takeBack", desc := "(LFairBlocks$Standing;)V" } : MethodName) ({ cls := "FairBlocks$Acts", name := "takeBack", desc := "(LFairBlocks$Standing;)V" } : MethodName)) ∈ gw := gm 500 (by decide +kernel) rfl
theorem w_501 : (Cond.code ({ cls := "FairBlocks$Acts", name := "takeBack", desc := "(LFairBlocks$Standing;)V" } : MethodName) prog_2_method_3_code (2 : Nat) (Option.none : Option FieldType)) ∈ gw := gm 501 (by decide +kernel) rfl
theorem w_502 : (Cond.methodLink "FairBlocksLaw" (61 : Nat) ({ cls := "FairBlocks", name := "ahead", desc := "(III)I" } : MethodName)) ∈ gw := gm 502 (by decide +kernel) rfl
theorem w_503 : (Cond.instanceMethod ({ cls := "FairBlocks", name := "ahead", desc := "(III)I" } : MethodName)) ∈ gw := gm 503 (by decide +kernel) rfl
theorem w_504 : (Cond.selects "FairBlocks" ({ cls := "FairBlocks", name := "ahead", desc := "(III)I" } : MethodName) ({ cls := "FairBlocks", name := "ahead", desc := "(III)I" } : MethodName)) ∈ gw := gm 504 (by decide +kernel) rfl
theorem w_505 : (Cond.code ({ cls := "FairBlocks", name := "ahead", desc := "(III)I" } : MethodName) prog_1_method_13_code (5 : Nat) (Option.some FieldType.int)) ∈ gw := gm 505 (by decide +kernel) rfl
theorem w_506 : (Cond.methodLink "FairBlocks" (169 : Nat) ({ cls := "FairBlocks$Bench", name := "freshTrial", desc := "()LFairBlocks$Standing;" } : MethodName)) ∈ gw := gm 506 (by decide +kernel) rfl
theorem w_507 : (Cond.instanceMethod ({ cls := "FairBlocks$Bench", name := "freshTrial", desc := "()LFairBlocks$Standing;" } : MethodName)) ∈ gw := gm 507 (by decide +kernel) rfl
theorem w_508 : (Cond.selects "FairBlocks$Bench" ({ cls := "FairBlocks$Bench", name := "freshTrial", desc := "()LFairBlocks$Standing;" } : MethodName) ({ cls := "FairBlocks$Bench", name := "freshTrial", desc := "()LFairBlocks$Standing;" } : MethodName)) ∈ gw := gm 508 (by decide +kernel) rfl
theorem w_509 : (Cond.code ({ cls := "FairBlocks$Bench", name := "freshTrial", desc := "()LFairBlocks$Standing;" } : MethodName) prog_3_method_2_code (1 : Nat) (Option.some (FieldType.object "FairBlocks$Standing"))) ∈ gw := gm 509 (by decide +kernel) rfl
theorem w_510 : (Cond.methodLink "FairBlocks$Bench" (35 : Nat) ({ cls := "FairBlocks$Standing", name := "copyFrom", desc := "(LFairBlocks$Standing;)V" } : MethodName)) ∈ gw := gm 510 (by decide +kernel) rfl
theorem w_511 : (Cond.methodLink "FairBlocksLaw" (65 : Nat) ({ cls := "FairBlocks", name := "who", desc := "(I)I" } : MethodName)) ∈ gw := gm 511 (by decide +kernel) rfl
theorem w_512 : (Cond.instanceMethod ({ cls := "FairBlocks", name := "who", desc := "(I)I" } : MethodName)) ∈ gw := gm 512 (by decide +kernel) rfl
theorem w_513 : (Cond.selects "FairBlocks" ({ cls := "FairBlocks", name := "who", desc := "(I)I" } : MethodName) ({ cls := "FairBlocks", name := "who", desc := "(I)I" } : MethodName)) ∈ gw := gm 513 (by decide +kernel) rfl
theorem w_514 : (Cond.code ({ cls := "FairBlocks", name := "who", desc := "(I)I" } : MethodName) prog_1_method_14_code (2 : Nat) (Option.some FieldType.int)) ∈ gw := gm 514 (by decide +kernel) rfl
theorem w_515 : (Cond.methodLink "FairBlocks" (176 : Nat) ({ cls := "FairBlocks$Scheduler", name := "runOne", desc := "(LFairBlocks$Standing;Z)I" } : MethodName)) ∈ gw := gm 515 (by decide +kernel) rfl
theorem w_516 : (Cond.methodLink "FairBlocks" (180 : Nat) ({ cls := "FairBlocks$Scheduler", name := "holderOf", desc := "(I)I" } : MethodName)) ∈ gw := gm 516 (by decide +kernel) rfl
theorem w_517 : (Cond.instanceMethod ({ cls := "FairBlocks$Scheduler", name := "holderOf", desc := "(I)I" } : MethodName)) ∈ gw := gm 517 (by decide +kernel) rfl
theorem w_518 : (Cond.selects "FairBlocks$Scheduler" ({ cls := "FairBlocks$Scheduler", name := "holderOf", desc := "(I)I" } : MethodName) ({ cls := "FairBlocks$Scheduler", name := "holderOf", desc := "(I)I" } : MethodName)) ∈ gw := gm 518 (by decide +kernel) rfl
theorem w_519 : (Cond.code ({ cls := "FairBlocks$Scheduler", name := "holderOf", desc := "(I)I" } : MethodName) prog_8_method_4_code (2 : Nat) (Option.some FieldType.int)) ∈ gw := gm 519 (by decide +kernel) rfl
theorem w_521 : (Cond.methodLink "FairBlocksLaw" (69 : Nat) ({ cls := "FairBlocks", name := "longest", desc := "(II)I" } : MethodName)) ∈ gw := gm 521 (by decide +kernel) rfl
theorem w_522 : (Cond.instanceMethod ({ cls := "FairBlocks", name := "longest", desc := "(II)I" } : MethodName)) ∈ gw := gm 522 (by decide +kernel) rfl
theorem w_523 : (Cond.selects "FairBlocks" ({ cls := "FairBlocks", name := "longest", desc := "(II)I" } : MethodName) ({ cls := "FairBlocks", name := "longest", desc := "(II)I" } : MethodName)) ∈ gw := gm 523 (by decide +kernel) rfl
theorem w_524 : (Cond.code ({ cls := "FairBlocks", name := "longest", desc := "(II)I" } : MethodName) prog_1_method_15_code (3 : Nat) (Option.some FieldType.int)) ∈ gw := gm 524 (by decide +kernel) rfl
theorem w_525 : (Cond.methodLink "FairBlocks" (183 : Nat) ({ cls := "FairBlocks$Outlook", name := "longestWait", desc := "(II)I" } : MethodName)) ∈ gw := gm 525 (by decide +kernel) rfl
theorem w_526 : (Cond.instanceMethod ({ cls := "FairBlocks$Outlook", name := "longestWait", desc := "(II)I" } : MethodName)) ∈ gw := gm 526 (by decide +kernel) rfl
theorem w_527 : (Cond.selects "FairBlocks$Outlook" ({ cls := "FairBlocks$Outlook", name := "longestWait", desc := "(II)I" } : MethodName) ({ cls := "FairBlocks$Outlook", name := "longestWait", desc := "(II)I" } : MethodName)) ∈ gw := gm 527 (by decide +kernel) rfl
theorem w_528 : (Cond.code ({ cls := "FairBlocks$Outlook", name := "longestWait", desc := "(II)I" } : MethodName) prog_6_method_2_code (6 : Nat) (Option.some FieldType.int)) ∈ gw := gm 528 (by decide +kernel) rfl
theorem w_529 : (Cond.methodLink "FairBlocks$Outlook" (15 : Nat) ({ cls := "FairBlocks$Bench", name := "freshTrial", desc := "()LFairBlocks$Standing;" } : MethodName)) ∈ gw := gm 529 (by decide +kernel) rfl
theorem w_530 : (Cond.methodLink "FairBlocks$Outlook" (25 : Nat) ({ cls := "FairBlocks$Scheduler", name := "runOne", desc := "(LFairBlocks$Standing;Z)I" } : MethodName)) ∈ gw := gm 530 (by decide +kernel) rfl
theorem w_531 : (Cond.methodLink "FairBlocks$Outlook" (43 : Nat) ({ cls := "java/lang/Math", name := "max", desc := "(II)I" } : MethodName)) ∈ gw := gm 531 (by decide +kernel) rfl
theorem w_532 : (Cond.static ({ cls := "java/lang/Math", name := "max", desc := "(II)I" } : MethodName)) ∈ gw := gm 532 (by decide +kernel) rfl
theorem w_533 : (Cond.code ({ cls := "java/lang/Math", name := "max", desc := "(II)I" } : MethodName) prog_16_method_65_code (2 : Nat) (Option.some FieldType.int)) ∈ gw := gm 533 (by decide +kernel) rfl
theorem w_534 : (Cond.methodLink "FairBlocksLaw" (73 : Nat) ({ cls := "FairBlocks", name := "empty", desc := "(I)I" } : MethodName)) ∈ gw := gm 534 (by decide +kernel) rfl
theorem w_535 : (Cond.instanceMethod ({ cls := "FairBlocks", name := "empty", desc := "(I)I" } : MethodName)) ∈ gw := gm 535 (by decide +kernel) rfl
theorem w_536 : (Cond.selects "FairBlocks" ({ cls := "FairBlocks", name := "empty", desc := "(I)I" } : MethodName) ({ cls := "FairBlocks", name := "empty", desc := "(I)I" } : MethodName)) ∈ gw := gm 536 (by decide +kernel) rfl
theorem w_537 : (Cond.code ({ cls := "FairBlocks", name := "empty", desc := "(I)I" } : MethodName) prog_1_method_16_code (2 : Nat) (Option.some FieldType.int)) ∈ gw := gm 537 (by decide +kernel) rfl
theorem w_538 : (Cond.methodLink "FairBlocks" (186 : Nat) ({ cls := "FairBlocks$Outlook", name := "slotsUntilEmpty", desc := "(I)I" } : MethodName)) ∈ gw := gm 538 (by decide +kernel) rfl
theorem w_539 : (Cond.instanceMethod ({ cls := "FairBlocks$Outlook", name := "slotsUntilEmpty", desc := "(I)I" } : MethodName)) ∈ gw := gm 539 (by decide +kernel) rfl
theorem w_540 : (Cond.selects "FairBlocks$Outlook" ({ cls := "FairBlocks$Outlook", name := "slotsUntilEmpty", desc := "(I)I" } : MethodName) ({ cls := "FairBlocks$Outlook", name := "slotsUntilEmpty", desc := "(I)I" } : MethodName)) ∈ gw := gm 540 (by decide +kernel) rfl
theorem w_541 : (Cond.code ({ cls := "FairBlocks$Outlook", name := "slotsUntilEmpty", desc := "(I)I" } : MethodName) prog_6_method_3_code (4 : Nat) (Option.some FieldType.int)) ∈ gw := gm 541 (by decide +kernel) rfl
theorem w_542 : (Cond.methodLink "FairBlocks$Outlook" (49 : Nat) ({ cls := "FairBlocks$User", name := "waiting", desc := "()I" } : MethodName)) ∈ gw := gm 542 (by decide +kernel) rfl
theorem w_543 : (Cond.methodLink "FairBlocksLaw" (77 : Nat) ({ cls := "FairBlocks", name := "best", desc := "(I)I" } : MethodName)) ∈ gw := gm 543 (by decide +kernel) rfl
theorem w_544 : (Cond.instanceMethod ({ cls := "FairBlocks", name := "best", desc := "(I)I" } : MethodName)) ∈ gw := gm 544 (by decide +kernel) rfl
theorem w_545 : (Cond.selects "FairBlocks" ({ cls := "FairBlocks", name := "best", desc := "(I)I" } : MethodName) ({ cls := "FairBlocks", name := "best", desc := "(I)I" } : MethodName)) ∈ gw := gm 545 (by decide +kernel) rfl
theorem w_546 : (Cond.code ({ cls := "FairBlocks", name := "best", desc := "(I)I" } : MethodName) prog_1_method_17_code (2 : Nat) (Option.some FieldType.int)) ∈ gw := gm 546 (by decide +kernel) rfl
theorem w_547 : (Cond.methodLink "FairBlocks" (189 : Nat) ({ cls := "FairBlocks$Outlook", name := "bestWeight", desc := "(I)I" } : MethodName)) ∈ gw := gm 547 (by decide +kernel) rfl
theorem w_548 : (Cond.instanceMethod ({ cls := "FairBlocks$Outlook", name := "bestWeight", desc := "(I)I" } : MethodName)) ∈ gw := gm 548 (by decide +kernel) rfl
theorem w_549 : (Cond.selects "FairBlocks$Outlook" ({ cls := "FairBlocks$Outlook", name := "bestWeight", desc := "(I)I" } : MethodName) ({ cls := "FairBlocks$Outlook", name := "bestWeight", desc := "(I)I" } : MethodName)) ∈ gw := gm 549 (by decide +kernel) rfl
theorem w_550 : (Cond.code ({ cls := "FairBlocks$Outlook", name := "bestWeight", desc := "(I)I" } : MethodName) prog_6_method_4_code (7 : Nat) (Option.some FieldType.int)) ∈ gw := gm 550 (by decide +kernel) rfl
theorem w_551 : (Cond.methodLink "FairBlocks$Outlook" (56 : Nat) ({ cls := "FairBlocks$Scheduler", name := "run", desc := "(LFairBlocks$Standing;I)I" } : MethodName)) ∈ gw := gm 551 (by decide +kernel) rfl
theorem w_552 : (Cond.methodLink "FairBlocks$Outlook" (60 : Nat) ({ cls := "FairBlocks$Outlook", name := "leastGain", desc := "(LFairBlocks$Standing;)I" } : MethodName)) ∈ gw := gm 552 (by decide +kernel) rfl
theorem w_554 : (Cond.instanceMethod ({ cls := "FairBlocks$Outlook", name := "leastGain", desc := "(LFairBlocks$Standing;)I" } : MethodName)) ∈ gw := gm 554 (by decide +kernel) rfl
theorem w_555 : (Cond.code ({ cls := "FairBlocks$Outlook", name := "leastGain", desc := "(LFairBlocks$Standing;)I" } : MethodName) prog_6_method_5_code (4 : Nat) (Option.some FieldType.int)) ∈ gw := gm 555 (by decide +kernel) rfl
theorem w_556 : (Cond.methodLink "FairBlocks$Outlook" (79 : Nat) ({ cls := "java/lang/Math", name := "min", desc := "(II)I" } : MethodName)) ∈ gw := gm 556 (by decide +kernel) rfl
theorem w_557 : (Cond.methodLink "FairBlocksLaw" (83 : Nat) ({ cls := "FairBlocks", name := "judge", desc := "(IJ)I" } : MethodName)) ∈ gw := gm 557 (by decide +kernel) rfl
theorem w_558 : (Cond.instanceMethod ({ cls := "FairBlocks", name := "judge", desc := "(IJ)I" } : MethodName)) ∈ gw := gm 558 (by decide +kernel) rfl
theorem w_559 : (Cond.selects "FairBlocks" ({ cls := "FairBlocks", name := "judge", desc := "(IJ)I" } : MethodName) ({ cls := "FairBlocks", name := "judge", desc := "(IJ)I" } : MethodName)) ∈ gw := gm 559 (by decide +kernel) rfl
theorem w_560 : (Cond.code ({ cls := "FairBlocks", name := "judge", desc := "(IJ)I" } : MethodName) prog_1_method_18_code (4 : Nat) (Option.some FieldType.int)) ∈ gw := gm 560 (by decide +kernel) rfl
theorem w_561 : (Cond.methodLink "FairBlocks" (192 : Nat) ({ cls := "FairBlocks$Court", name := "leastTooLong", desc := "(I)J" } : MethodName)) ∈ gw := gm 561 (by decide +kernel) rfl
theorem w_562 : (Cond.static ({ cls := "FairBlocks$Court", name := "leastTooLong", desc := "(I)J" } : MethodName)) ∈ gw := gm 562 (by decide +kernel) rfl
theorem w_563 : (Cond.code ({ cls := "FairBlocks$Court", name := "leastTooLong", desc := "(I)J" } : MethodName) prog_5_method_2_code (4 : Nat) (Option.some FieldType.long)) ∈ gw := gm 563 (by decide +kernel) rfl
theorem w_564 : (Cond.constantLong "FairBlocks$Court" (22 : Nat) (1000 : Int64)) ∈ gw := gm 564 (by decide +kernel) rfl
theorem w_565 : (Cond.methodLink "FairBlocks" (196 : Nat) ({ cls := "FairBlocks$Court", name := "firstWrong", desc := "(IJ)I" } : MethodName)) ∈ gw := gm 565 (by decide +kernel) rfl
theorem w_566 : (Cond.instanceMethod ({ cls := "FairBlocks$Court", name := "firstWrong", desc := "(IJ)I" } : MethodName)) ∈ gw := gm 566 (by decide +kernel) rfl
theorem w_567 : (Cond.selects "FairBlocks$Court" ({ cls := "FairBlocks$Court", name := "firstWrong", desc := "(IJ)I" } : MethodName) ({ cls := "FairBlocks$Court", name := "firstWrong", desc := "(IJ)I" } : MethodName)) ∈ gw := gm 567 (by decide +kernel) rfl
theorem w_568 : (Cond.code ({ cls := "FairBlocks$Court", name := "firstWrong", desc := "(IJ)I" } : MethodName) prog_5_method_3_code (7 : Nat) (Option.some FieldType.int)) ∈ gw := gm 568 (by decide +kernel) rfl
theorem w_569 : (Cond.methodLink "FairBlocks$Court" (24 : Nat) ({ cls := "FairBlocks$Bench", name := "freshTrial", desc := "()LFairBlocks$Standing;" } : MethodName)) ∈ gw := gm 569 (by decide +kernel) rfl
theorem w_570 : (Cond.methodLink "FairBlocks$Court" (30 : Nat) ({ cls := "FairBlocks$Court", name := "doingAt", desc := "(JI)I" } : MethodName)) ∈ gw := gm 570 (by decide +kernel) rfl
theorem w_571 : (Cond.static ({ cls := "FairBlocks$Court", name := "doingAt", desc := "(JI)I" } : MethodName)) ∈ gw := gm 571 (by decide +kernel) rfl
theorem w_572 : (Cond.code ({ cls := "FairBlocks$Court", name := "doingAt", desc := "(JI)I" } : MethodName) prog_5_method_4_code (6 : Nat) (Option.some FieldType.int)) ∈ gw := gm 572 (by decide +kernel) rfl
theorem w_573 : (Cond.methodLink "FairBlocks$Court" (34 : Nat) ({ cls := "FairBlocks$Court", name := "holds", desc := "(LFairBlocks$Standing;III)Z" } : MethodName)) ∈ gw := gm 573 (by decide +kernel) rfl
theorem w_575 : (Cond.instanceMethod ({ cls := "FairBlocks$Court", name := "holds", desc := "(LFairBlocks$Standing;III)Z" } : MethodName)) ∈ gw := gm 575 (by decide +kernel) rfl
theorem w_576 : (Cond.code ({ cls := "FairBlocks$Court", name := "holds", desc := "(LFairBlocks$Standing;III)Z" } : MethodName) prog_5_method_5_code (6 : Nat) (Option.some FieldType.boolean)) ∈ gw := gm 576 (by decide +kernel) rfl
theorem w_577 : (Cond.methodLink "FairBlocks$Court" (46 : Nat) ({ cls := "FairBlocks$Scheduler", name := "run", desc := "(LFairBlocks$Standing;I)I" } : MethodName)) ∈ gw := gm 577 (by decide +kernel) rfl
theorem w_578 : (Cond.methodLink "FairBlocks$Court" (52 : Nat) ({ cls := "FairBlocks$Plan", name := "has", desc := "(I)Z" } : MethodName)) ∈ gw := gm 578 (by decide +kernel) rfl
theorem w_579 : (Cond.methodLink "FairBlocks$Court" (62 : Nat) ({ cls := "FairBlocks$Court", name := "turnsOrDrops", desc := "(ILFairBlocks$User;)Z" } : MethodName)) ∈ gw := gm 579 (by decide +kernel) rfl
theorem w_580 : (Cond.static ({ cls := "FairBlocks$Court", name := "turnsOrDrops", desc := "(ILFairBlocks$User;)Z" } : MethodName)) ∈ gw := gm 580 (by decide +kernel) rfl
theorem w_581 : (Cond.code ({ cls := "FairBlocks$Court", name := "turnsOrDrops", desc := "(ILFairBlocks$User;)Z" } : MethodName) prog_5_method_6_code (2 : Nat) (Option.some FieldType.boolean)) ∈ gw := gm 581 (by decide +kernel) rfl
theorem w_582 : (Cond.methodLink "FairBlocks$Court" (90 : Nat) ({ cls := "FairBlocks$User", name := "dropAll", desc := "()V" } : MethodName)) ∈ gw := gm 582 (by decide +kernel) rfl
theorem w_583 : (Cond.methodLink "FairBlocks$Court" (66 : Nat) ({ cls := "FairBlocks$Court", name := "weighs", desc := "(LFairBlocks$User;I)Z" } : MethodName)) ∈ gw := gm 583 (by decide +kernel) rfl
theorem w_584 : (Cond.static ({ cls := "FairBlocks$Court", name := "weighs", desc := "(LFairBlocks$User;I)Z" } : MethodName)) ∈ gw := gm 584 (by decide +kernel) rfl
theorem w_585 : (Cond.code ({ cls := "FairBlocks$Court", name := "weighs", desc := "(LFairBlocks$User;I)Z" } : MethodName) prog_5_method_7_code (2 : Nat) (Option.some FieldType.boolean)) ∈ gw := gm 585 (by decide +kernel) rfl
theorem w_586 : (Cond.methodLink "FairBlocks$Court" (79 : Nat) ({ cls := "FairBlocks$Court", name := "holderBehind", desc := "(LFairBlocks$Standing;I)I" } : MethodName)) ∈ gw := gm 586 (by decide +kernel) rfl
theorem w_588 : (Cond.instanceMethod ({ cls := "FairBlocks$Court", name := "holderBehind", desc := "(LFairBlocks$Standing;I)I" } : MethodName)) ∈ gw := gm 588 (by decide +kernel) rfl
theorem w_589 : (Cond.code ({ cls := "FairBlocks$Court", name := "holderBehind", desc := "(LFairBlocks$Standing;I)I" } : MethodName) prog_5_method_8_code (3 : Nat) (Option.some FieldType.int)) ∈ gw := gm 589 (by decide +kernel) rfl
theorem w_590 : (Cond.methodLink "FairBlocks$Court" (96 : Nat) ({ cls := "FairBlocks$Standing", name := "copyFrom", desc := "(LFairBlocks$Standing;)V" } : MethodName)) ∈ gw := gm 590 (by decide +kernel) rfl
theorem w_591 : (Cond.methodLink "FairBlocks$Court" (100 : Nat) ({ cls := "FairBlocks$Scheduler", name := "runOne", desc := "(LFairBlocks$Standing;Z)I" } : MethodName)) ∈ gw := gm 591 (by decide +kernel) rfl
theorem w_592 : (Cond.methodLink "FairBlocks$Court" (104 : Nat) ({ cls := "FairBlocks$Scheduler", name := "holderOf", desc := "(I)I" } : MethodName)) ∈ gw := gm 592 (by decide +kernel) rfl
theorem w_593 : (Cond.methodLink "FairBlocks$Court" (82 : Nat) ({ cls := "FairBlocks$User", name := "waiting", desc := "()I" } : MethodName)) ∈ gw := gm 593 (by decide +kernel) rfl
theorem w_594 : (Cond.methodLink "FairBlocksLaw" (88 : Nat) ({ cls := "FairBlocks", name := "see", desc := "(IIIII)I" } : MethodName)) ∈ gw := gm 594 (by decide +kernel) rfl
theorem w_595 : (Cond.instanceMethod ({ cls := "FairBlocks", name := "see", desc := "(IIIII)I" } : MethodName)) ∈ gw := gm 595 (by decide +kernel) rfl
theorem w_596 : (Cond.selects "FairBlocks" ({ cls := "FairBlocks", name := "see", desc := "(IIIII)I" } : MethodName) ({ cls := "FairBlocks", name := "see", desc := "(IIIII)I" } : MethodName)) ∈ gw := gm 596 (by decide +kernel) rfl
theorem w_597 : (Cond.code ({ cls := "FairBlocks", name := "see", desc := "(IIIII)I" } : MethodName) prog_1_method_19_code (6 : Nat) (Option.some FieldType.int)) ∈ gw := gm 597 (by decide +kernel) rfl
theorem w_598 : (Cond.methodLink "FairBlocks" (201 : Nat) ({ cls := "FairBlocks$Sightings", name := "add", desc := "(IIIII)V" } : MethodName)) ∈ gw := gm 598 (by decide +kernel) rfl
theorem w_599 : (Cond.instanceMethod ({ cls := "FairBlocks$Sightings", name := "add", desc := "(IIIII)V" } : MethodName)) ∈ gw := gm 599 (by decide +kernel) rfl
theorem w_600 : (Cond.selects "FairBlocks$Sightings" ({ cls := "FairBlocks$Sightings", name := "add", desc := "(IIIII)V" } : MethodName) ({ cls := "FairBlocks$Sightings", name := "add", desc := "(IIIII)V" } : MethodName)) ∈ gw := gm 600 (by decide +kernel) rfl
theorem w_601 : (Cond.code ({ cls := "FairBlocks$Sightings", name := "add", desc := "(IIIII)V" } : MethodName) prog_9_method_2_code (6 : Nat) (Option.none : Option FieldType)) ∈ gw := gm 601 (by decide +kernel) rfl
theorem w_602 : (Cond.methodLink "FairBlocksLaw" (93 : Nat) ({ cls := "FairBlocks", name := "unsee", desc := "()I" } : MethodName)) ∈ gw := gm 602 (by decide +kernel) rfl
theorem w_603 : (Cond.instanceMethod ({ cls := "FairBlocks", name := "unsee", desc := "()I" } : MethodName)) ∈ gw := gm 603 (by decide +kernel) rfl
theorem w_604 : (Cond.selects "FairBlocks" ({ cls := "FairBlocks", name := "unsee", desc := "()I" } : MethodName) ({ cls := "FairBlocks", name := "unsee", desc := "()I" } : MethodName)) ∈ gw := gm 604 (by decide +kernel) rfl
theorem w_605 : (Cond.code ({ cls := "FairBlocks", name := "unsee", desc := "()I" } : MethodName) prog_1_method_20_code (2 : Nat) (Option.some FieldType.int)) ∈ gw := gm 605 (by decide +kernel) rfl
theorem w_606 : (Cond.methodLink "FairBlocksLaw" (97 : Nat) ({ cls := "FairBlocks", name := "which", desc := "()I" } : MethodName)) ∈ gw := gm 606 (by decide +kernel) rfl
theorem w_607 : (Cond.instanceMethod ({ cls := "FairBlocks", name := "which", desc := "()I" } : MethodName)) ∈ gw := gm 607 (by decide +kernel) rfl
theorem w_608 : (Cond.selects "FairBlocks" ({ cls := "FairBlocks", name := "which", desc := "()I" } : MethodName) ({ cls := "FairBlocks", name := "which", desc := "()I" } : MethodName)) ∈ gw := gm 608 (by decide +kernel) rfl
theorem w_609 : (Cond.code ({ cls := "FairBlocks", name := "which", desc := "()I" } : MethodName) prog_1_method_21_code (1 : Nat) (Option.some FieldType.int)) ∈ gw := gm 609 (by decide +kernel) rfl
theorem w_610 : (Cond.methodLink "FairBlocks" (204 : Nat) ({ cls := "FairBlocks$Sightings", name := "suspects", desc := "()I" } : MethodName)) ∈ gw := gm 610 (by decide +kernel) rfl
theorem w_611 : (Cond.instanceMethod ({ cls := "FairBlocks$Sightings", name := "suspects", desc := "()I" } : MethodName)) ∈ gw := gm 611 (by decide +kernel) rfl
theorem w_612 : (Cond.selects "FairBlocks$Sightings" ({ cls := "FairBlocks$Sightings", name := "suspects", desc := "()I" } : MethodName) ({ cls := "FairBlocks$Sightings", name := "suspects", desc := "()I" } : MethodName)) ∈ gw := gm 612 (by decide +kernel) rfl
theorem w_613 : (Cond.code ({ cls := "FairBlocks$Sightings", name := "suspects", desc := "()I" } : MethodName) prog_9_method_3_code (3 : Nat) (Option.some FieldType.int)) ∈ gw := gm 613 (by decide +kernel) rfl
theorem w_614 : (Cond.methodLink "FairBlocks$Sightings" (60 : Nat) ({ cls := "FairBlocks$Sightings", name := "fits", desc := "(I)Z" } : MethodName)) ∈ gw := gm 614 (by decide +kernel) rfl
theorem w_616 : (Cond.instanceMethod ({ cls := "FairBlocks$Sightings", name := "fits", desc := "(I)Z" } : MethodName)) ∈ gw := gm 616 (by decide +kernel) rfl
theorem w_617 : (Cond.code ({ cls := "FairBlocks$Sightings", name := "fits", desc := "(I)Z" } : MethodName) prog_9_method_4_code (5 : Nat) (Option.some FieldType.boolean)) ∈ gw := gm 617 (by decide +kernel) rfl
theorem w_618 : (Cond.methodLink "FairBlocks$Sightings" (64 : Nat) ({ cls := "FairBlocks$Bench", name := "freshTrial", desc := "()LFairBlocks$Standing;" } : MethodName)) ∈ gw := gm 618 (by decide +kernel) rfl
theorem w_619 : (Cond.methodLink "FairBlocks$Sightings" (68 : Nat) ({ cls := "FairBlocks$Sightings", name := "lastSlot", desc := "()I" } : MethodName)) ∈ gw := gm 619 (by decide +kernel) rfl
theorem w_621 : (Cond.instanceMethod ({ cls := "FairBlocks$Sightings", name := "lastSlot", desc := "()I" } : MethodName)) ∈ gw := gm 621 (by decide +kernel) rfl
theorem w_622 : (Cond.code ({ cls := "FairBlocks$Sightings", name := "lastSlot", desc := "()I" } : MethodName) prog_9_method_5_code (3 : Nat) (Option.some FieldType.int)) ∈ gw := gm 622 (by decide +kernel) rfl
theorem w_623 : (Cond.methodLink "FairBlocks$Sightings" (86 : Nat) ({ cls := "java/lang/Math", name := "max", desc := "(II)I" } : MethodName)) ∈ gw := gm 623 (by decide +kernel) rfl
theorem w_624 : (Cond.methodLink "FairBlocks$Sightings" (76 : Nat) ({ cls := "FairBlocks$Scheduler", name := "runOne", desc := "(LFairBlocks$Standing;Z)I" } : MethodName)) ∈ gw := gm 624 (by decide +kernel) rfl
theorem w_625 : (Cond.methodLink "FairBlocks$Sightings" (82 : Nat) ({ cls := "FairBlocks$Sightings", name := "fitsBehind", desc := "(LFairBlocks$Standing;I)Z" } : MethodName)) ∈ gw := gm 625 (by decide +kernel) rfl
theorem w_627 : (Cond.instanceMethod ({ cls := "FairBlocks$Sightings", name := "fitsBehind", desc := "(LFairBlocks$Standing;I)Z" } : MethodName)) ∈ gw := gm 627 (by decide +kernel) rfl
theorem w_628 : (Cond.code ({ cls := "FairBlocks$Sightings", name := "fitsBehind", desc := "(LFairBlocks$Standing;I)Z" } : MethodName) prog_9_method_6_code (6 : Nat) (Option.some FieldType.boolean)) ∈ gw := gm 628 (by decide +kernel) rfl
theorem w_629 : (Cond.methodLink "FairBlocks$Sightings" (92 : Nat) ({ cls := "FairBlocks$Plan", name := "has", desc := "(I)Z" } : MethodName)) ∈ gw := gm 629 (by decide +kernel) rfl
theorem w_630 : (Cond.methodLink "FairBlocks$Sightings" (98 : Nat) ({ cls := "FairBlocks$User", name := "waiting", desc := "()I" } : MethodName)) ∈ gw := gm 630 (by decide +kernel) rfl
theorem w_631 : (Cond.methodLink "FairBlocksLaw" (101 : Nat) ({ cls := "FairBlocks", name := "share", desc := "(IZ)I" } : MethodName)) ∈ gw := gm 631 (by decide +kernel) rfl
theorem w_632 : (Cond.instanceMethod ({ cls := "FairBlocks", name := "share", desc := "(IZ)I" } : MethodName)) ∈ gw := gm 632 (by decide +kernel) rfl
theorem w_633 : (Cond.selects "FairBlocks" ({ cls := "FairBlocks", name := "share", desc := "(IZ)I" } : MethodName) ({ cls := "FairBlocks", name := "share", desc := "(IZ)I" } : MethodName)) ∈ gw := gm 633 (by decide +kernel) rfl
theorem w_634 : (Cond.code ({ cls := "FairBlocks", name := "share", desc := "(IZ)I" } : MethodName) prog_1_method_22_code (3 : Nat) (Option.some FieldType.int)) ∈ gw := gm 634 (by decide +kernel) rfl
theorem w_635 : (Cond.methodLink "FairBlocks" (207 : Nat) ({ cls := "FairBlocks$Chances", name := "shareOf", desc := "(IZ)I" } : MethodName)) ∈ gw := gm 635 (by decide +kernel) rfl
theorem w_636 : (Cond.instanceMethod ({ cls := "FairBlocks$Chances", name := "shareOf", desc := "(IZ)I" } : MethodName)) ∈ gw := gm 636 (by decide +kernel) rfl
theorem w_637 : (Cond.selects "FairBlocks$Chances" ({ cls := "FairBlocks$Chances", name := "shareOf", desc := "(IZ)I" } : MethodName) ({ cls := "FairBlocks$Chances", name := "shareOf", desc := "(IZ)I" } : MethodName)) ∈ gw := gm 637 (by decide +kernel) rfl
theorem w_638 : (Cond.code ({ cls := "FairBlocks$Chances", name := "shareOf", desc := "(IZ)I" } : MethodName) prog_4_method_2_code (10 : Nat) (Option.some FieldType.int)) ∈ gw := gm 638 (by decide +kernel) rfl
theorem w_639 : (Cond.methodLink "FairBlocks$Chances" (31 : Nat) ({ cls := "FairBlocks$Standing", name := "offBits", desc := "(I)I" } : MethodName)) ∈ gw := gm 639 (by decide +kernel) rfl
theorem w_640 : (Cond.instanceMethod ({ cls := "FairBlocks$Standing", name := "offBits", desc := "(I)I" } : MethodName)) ∈ gw := gm 640 (by decide +kernel) rfl
theorem w_641 : (Cond.selects "FairBlocks$Standing" ({ cls := "FairBlocks$Standing", name := "offBits", desc := "(I)I" } : MethodName) ({ cls := "FairBlocks$Standing", name := "offBits", desc := "(I)I" } : MethodName)) ∈ gw := gm 641 (by decide +kernel) rfl
theorem w_642 : (Cond.code ({ cls := "FairBlocks$Standing", name := "offBits", desc := "(I)I" } : MethodName) prog_10_method_3_code (4 : Nat) (Option.some FieldType.int)) ∈ gw := gm 642 (by decide +kernel) rfl
theorem w_643 : (Cond.methodLink "FairBlocks$Chances" (37 : Nat) ({ cls := "java/lang/Integer", name := "bitCount", desc := "(I)I" } : MethodName)) ∈ gw := gm 643 (by decide +kernel) rfl
theorem w_644 : (Cond.static ({ cls := "java/lang/Integer", name := "bitCount", desc := "(I)I" } : MethodName)) ∈ gw := gm 644 (by decide +kernel) rfl
theorem w_645 : (Cond.code ({ cls := "java/lang/Integer", name := "bitCount", desc := "(I)I" } : MethodName) prog_15_method_49_code (1 : Nat) (Option.some FieldType.int)) ∈ gw := gm 645 (by decide +kernel) rfl
theorem w_646 : (Cond.constant "java/lang/Integer" (265 : Nat) (1431655765 : Int32)) ∈ gw := gm 646 (by decide +kernel) rfl
theorem w_647 : (Cond.constant "java/lang/Integer" (266 : Nat) (858993459 : Int32)) ∈ gw := gm 647 (by decide +kernel) rfl
theorem w_648 : (Cond.constant "java/lang/Integer" (267 : Nat) (252645135 : Int32)) ∈ gw := gm 648 (by decide +kernel) rfl
theorem w_649 : (Cond.methodLink "FairBlocks$Chances" (42 : Nat) ({ cls := "FairBlocks$Chances", name := "factorial", desc := "(I)I" } : MethodName)) ∈ gw := gm 649 (by decide +kernel) rfl
theorem w_650 : (Cond.static ({ cls := "FairBlocks$Chances", name := "factorial", desc := "(I)I" } : MethodName)) ∈ gw := gm 650 (by decide +kernel) rfl
theorem w_651 : (Cond.code ({ cls := "FairBlocks$Chances", name := "factorial", desc := "(I)I" } : MethodName) prog_4_method_7_code (1 : Nat) (Option.some FieldType.int)) ∈ gw := gm 651 (by decide +kernel) rfl
theorem w_655 : (Cond.methodLink "FairBlocks$Chances" (45 : Nat) ({ cls := "FairBlocks$Chances", name := "gotWith", desc := "(I)I" } : MethodName)) ∈ gw := gm 655 (by decide +kernel) rfl
theorem w_657 : (Cond.instanceMethod ({ cls := "FairBlocks$Chances", name := "gotWith", desc := "(I)I" } : MethodName)) ∈ gw := gm 657 (by decide +kernel) rfl
theorem w_658 : (Cond.code ({ cls := "FairBlocks$Chances", name := "gotWith", desc := "(I)I" } : MethodName) prog_4_method_3_code (4 : Nat) (Option.some FieldType.int)) ∈ gw := gm 658 (by decide +kernel) rfl
theorem w_659 : (Cond.methodLink "FairBlocks$Chances" (52 : Nat) ({ cls := "FairBlocks$Bench", name := "freshTrial", desc := "()LFairBlocks$Standing;" } : MethodName)) ∈ gw := gm 659 (by decide +kernel) rfl
theorem w_660 : (Cond.methodLink "FairBlocks$Chances" (69 : Nat) ({ cls := "FairBlocks$Scheduler", name := "run", desc := "(LFairBlocks$Standing;I)I" } : MethodName)) ∈ gw := gm 660 (by decide +kernel) rfl
theorem w_661 : (Cond.methodLink "FairBlocks$Chances" (48 : Nat) ({ cls := "FairBlocks$Chances", name := "fraction", desc := "(IIZ)I" } : MethodName)) ∈ gw := gm 661 (by decide +kernel) rfl
theorem w_662 : (Cond.static ({ cls := "FairBlocks$Chances", name := "fraction", desc := "(IIZ)I" } : MethodName)) ∈ gw := gm 662 (by decide +kernel) rfl
theorem w_663 : (Cond.code ({ cls := "FairBlocks$Chances", name := "fraction", desc := "(IIZ)I" } : MethodName) prog_4_method_8_code (4 : Nat) (Option.some FieldType.int)) ∈ gw := gm 663 (by decide +kernel) rfl
theorem w_664 : (Cond.methodLink "FairBlocks$Chances" (98 : Nat) ({ cls := "java/lang/Math", name := "abs", desc := "(I)I" } : MethodName)) ∈ gw := gm 664 (by decide +kernel) rfl
theorem w_665 : (Cond.static ({ cls := "java/lang/Math", name := "abs", desc := "(I)I" } : MethodName)) ∈ gw := gm 665 (by decide +kernel) rfl
theorem w_666 : (Cond.code ({ cls := "java/lang/Math", name := "abs", desc := "(I)I" } : MethodName) prog_16_method_59_code (1 : Nat) (Option.some FieldType.int)) ∈ gw := gm 666 (by decide +kernel) rfl
theorem w_667 : (Cond.methodLink "FairBlocks$Chances" (103 : Nat) ({ cls := "FairBlocks$Chances", name := "commonDivisor", desc := "(II)I" } : MethodName)) ∈ gw := gm 667 (by decide +kernel) rfl
theorem w_668 : (Cond.static ({ cls := "FairBlocks$Chances", name := "commonDivisor", desc := "(II)I" } : MethodName)) ∈ gw := gm 668 (by decide +kernel) rfl
theorem w_669 : (Cond.code ({ cls := "FairBlocks$Chances", name := "commonDivisor", desc := "(II)I" } : MethodName) prog_4_method_9_code (6 : Nat) (Option.some FieldType.int)) ∈ gw := gm 669 (by decide +kernel) rfl
theorem w_670 : (Cond.methodLink "FairBlocksLaw" (106 : Nat) ({ cls := "FairBlocks", name := "fails", desc := "(IIIZ)I" } : MethodName)) ∈ gw := gm 670 (by decide +kernel) rfl
theorem w_671 : (Cond.instanceMethod ({ cls := "FairBlocks", name := "fails", desc := "(IIIZ)I" } : MethodName)) ∈ gw := gm 671 (by decide +kernel) rfl
theorem w_672 : (Cond.selects "FairBlocks" ({ cls := "FairBlocks", name := "fails", desc := "(IIIZ)I" } : MethodName) ({ cls := "FairBlocks", name := "fails", desc := "(IIIZ)I" } : MethodName)) ∈ gw := gm 672 (by decide +kernel) rfl
theorem w_673 : (Cond.code ({ cls := "FairBlocks", name := "fails", desc := "(IIIZ)I" } : MethodName) prog_1_method_23_code (5 : Nat) (Option.some FieldType.int)) ∈ gw := gm 673 (by decide +kernel) rfl
theorem w_674 : (Cond.methodLink "FairBlocks" (211 : Nat) ({ cls := "FairBlocks$Chances", name := "emptyBehind", desc := "(IIIZ)I" } : MethodName)) ∈ gw := gm 674 (by decide +kernel) rfl
theorem w_675 : (Cond.instanceMethod ({ cls := "FairBlocks$Chances", name := "emptyBehind", desc := "(IIIZ)I" } : MethodName)) ∈ gw := gm 675 (by decide +kernel) rfl
theorem w_676 : (Cond.selects "FairBlocks$Chances" ({ cls := "FairBlocks$Chances", name := "emptyBehind", desc := "(IIIZ)I" } : MethodName) ({ cls := "FairBlocks$Chances", name := "emptyBehind", desc := "(IIIZ)I" } : MethodName)) ∈ gw := gm 676 (by decide +kernel) rfl
theorem w_677 : (Cond.code ({ cls := "FairBlocks$Chances", name := "emptyBehind", desc := "(IIIZ)I" } : MethodName) prog_4_method_4_code (9 : Nat) (Option.some FieldType.int)) ∈ gw := gm 677 (by decide +kernel) rfl
theorem w_678 : (Cond.methodLink "FairBlocks$Chances" (75 : Nat) ({ cls := "FairBlocks$Chances", name := "power", desc := "(II)I" } : MethodName)) ∈ gw := gm 678 (by decide +kernel) rfl
theorem w_679 : (Cond.static ({ cls := "FairBlocks$Chances", name := "power", desc := "(II)I" } : MethodName)) ∈ gw := gm 679 (by decide +kernel) rfl
theorem w_680 : (Cond.code ({ cls := "FairBlocks$Chances", name := "power", desc := "(II)I" } : MethodName) prog_4_method_6_code (4 : Nat) (Option.some FieldType.int)) ∈ gw := gm 680 (by decide +kernel) rfl
theorem w_681 : (Cond.methodLink "FairBlocks$Chances" (79 : Nat) ({ cls := "FairBlocks$Chances", name := "isEmptyBehind", desc := "(III)Z" } : MethodName)) ∈ gw := gm 681 (by decide +kernel) rfl
theorem w_683 : (Cond.instanceMethod ({ cls := "FairBlocks$Chances", name := "isEmptyBehind", desc := "(III)Z" } : MethodName)) ∈ gw := gm 683 (by decide +kernel) rfl
theorem w_684 : (Cond.code ({ cls := "FairBlocks$Chances", name := "isEmptyBehind", desc := "(III)Z" } : MethodName) prog_4_method_5_code (6 : Nat) (Option.some FieldType.boolean)) ∈ gw := gm 684 (by decide +kernel) rfl
theorem w_685 : (Cond.methodLink "FairBlocks$Chances" (83 : Nat) ({ cls := "FairBlocks$Scheduler", name := "runOne", desc := "(LFairBlocks$Standing;Z)I" } : MethodName)) ∈ gw := gm 685 (by decide +kernel) rfl
theorem w_686 : (Cond.methodLink "FairBlocks$Chances" (87 : Nat) ({ cls := "FairBlocks$User", name := "waiting", desc := "()I" } : MethodName)) ∈ gw := gm 686 (by decide +kernel) rfl
theorem w_687 : (Cond.methodLink "FairBlocksLaw" (111 : Nat) ({ cls := "FairBlocks", name := "seed", desc := "(J)J" } : MethodName)) ∈ gw := gm 687 (by decide +kernel) rfl
theorem w_688 : (Cond.instanceMethod ({ cls := "FairBlocks", name := "seed", desc := "(J)J" } : MethodName)) ∈ gw := gm 688 (by decide +kernel) rfl
theorem w_689 : (Cond.selects "FairBlocks" ({ cls := "FairBlocks", name := "seed", desc := "(J)J" } : MethodName) ({ cls := "FairBlocks", name := "seed", desc := "(J)J" } : MethodName)) ∈ gw := gm 689 (by decide +kernel) rfl
theorem w_690 : (Cond.code ({ cls := "FairBlocks", name := "seed", desc := "(J)J" } : MethodName) prog_1_method_24_code (5 : Nat) (Option.some FieldType.long)) ∈ gw := gm 690 (by decide +kernel) rfl
theorem w_691 : (Cond.methodLink "FairBlocksLaw" (116 : Nat) ({ cls := "FairBlocks", name := "drawn", desc := "(I)I" } : MethodName)) ∈ gw := gm 691 (by decide +kernel) rfl
theorem w_692 : (Cond.instanceMethod ({ cls := "FairBlocks", name := "drawn", desc := "(I)I" } : MethodName)) ∈ gw := gm 692 (by decide +kernel) rfl
theorem w_693 : (Cond.selects "FairBlocks" ({ cls := "FairBlocks", name := "drawn", desc := "(I)I" } : MethodName) ({ cls := "FairBlocks", name := "drawn", desc := "(I)I" } : MethodName)) ∈ gw := gm 693 (by decide +kernel) rfl
theorem w_694 : (Cond.code ({ cls := "FairBlocks", name := "drawn", desc := "(I)I" } : MethodName) prog_1_method_25_code (6 : Nat) (Option.some FieldType.int)) ∈ gw := gm 694 (by decide +kernel) rfl
theorem w_695 : (Cond.constantLong "FairBlocks" (215 : Nat) (6364136223846793005 : Int64)) ∈ gw := gm 695 (by decide +kernel) rfl
theorem w_696 : (Cond.constantLong "FairBlocks" (217 : Nat) (1442695040888963407 : Int64)) ∈ gw := gm 696 (by decide +kernel) rfl
theorem w_697 : (Cond.methodLink "FairBlocks" (219 : Nat) ({ cls := "FairBlocks$User", name := "takeIn", desc := "(I)V" } : MethodName)) ∈ gw := gm 697 (by decide +kernel) rfl
theorem w_698 : (Cond.methodLink "FairBlocksLaw" (120 : Nat) ({ cls := "FairBlocks", name := "keep", desc := "(I)I" } : MethodName)) ∈ gw := gm 698 (by decide +kernel) rfl
theorem w_699 : (Cond.instanceMethod ({ cls := "FairBlocks", name := "keep", desc := "(I)I" } : MethodName)) ∈ gw := gm 699 (by decide +kernel) rfl
theorem w_700 : (Cond.selects "FairBlocks" ({ cls := "FairBlocks", name := "keep", desc := "(I)I" } : MethodName) ({ cls := "FairBlocks", name := "keep", desc := "(I)I" } : MethodName)) ∈ gw := gm 700 (by decide +kernel) rfl
theorem w_701 : (Cond.code ({ cls := "FairBlocks", name := "keep", desc := "(I)I" } : MethodName) prog_1_method_26_code (2 : Nat) (Option.some FieldType.int)) ∈ gw := gm 701 (by decide +kernel) rfl
theorem w_702 : (Cond.methodLink "FairBlocks" (222 : Nat) ({ cls := "FairBlocks$Standing", name := "copyFrom", desc := "(LFairBlocks$Standing;)V" } : MethodName)) ∈ gw := gm 702 (by decide +kernel) rfl
theorem w_703 : (Cond.methodLink "FairBlocksLaw" (124 : Nat) ({ cls := "FairBlocks", name := "again", desc := "(I)I" } : MethodName)) ∈ gw := gm 703 (by decide +kernel) rfl
theorem w_704 : (Cond.instanceMethod ({ cls := "FairBlocks", name := "again", desc := "(I)I" } : MethodName)) ∈ gw := gm 704 (by decide +kernel) rfl
theorem w_705 : (Cond.selects "FairBlocks" ({ cls := "FairBlocks", name := "again", desc := "(I)I" } : MethodName) ({ cls := "FairBlocks", name := "again", desc := "(I)I" } : MethodName)) ∈ gw := gm 705 (by decide +kernel) rfl
theorem w_706 : (Cond.code ({ cls := "FairBlocks", name := "again", desc := "(I)I" } : MethodName) prog_1_method_27_code (2 : Nat) (Option.some FieldType.int)) ∈ gw := gm 706 (by decide +kernel) rfl
theorem w_707 : (Cond.methodLink "FairBlocksLaw" (128 : Nat) ({ cls := "FairBlocks", name := "count", desc := "(I)I" } : MethodName)) ∈ gw := gm 707 (by decide +kernel) rfl
theorem w_708 : (Cond.instanceMethod ({ cls := "FairBlocks", name := "count", desc := "(I)I" } : MethodName)) ∈ gw := gm 708 (by decide +kernel) rfl
theorem w_709 : (Cond.selects "FairBlocks" ({ cls := "FairBlocks", name := "count", desc := "(I)I" } : MethodName) ({ cls := "FairBlocks", name := "count", desc := "(I)I" } : MethodName)) ∈ gw := gm 709 (by decide +kernel) rfl
theorem w_710 : (Cond.code ({ cls := "FairBlocks", name := "count", desc := "(I)I" } : MethodName) prog_1_method_28_code (2 : Nat) (Option.some FieldType.int)) ∈ gw := gm 710 (by decide +kernel) rfl
theorem w_711 : (Cond.methodLink "FairBlocks" (228 : Nat) ({ cls := "FairBlocks$Standing", name := "offBits", desc := "(I)I" } : MethodName)) ∈ gw := gm 711 (by decide +kernel) rfl
theorem w_712 : (Cond.methodLink "FairBlocks" (231 : Nat) ({ cls := "FairBlocks$Standing", name := "waitingBits", desc := "(I)I" } : MethodName)) ∈ gw := gm 712 (by decide +kernel) rfl
theorem w_713 : (Cond.instanceMethod ({ cls := "FairBlocks$Standing", name := "waitingBits", desc := "(I)I" } : MethodName)) ∈ gw := gm 713 (by decide +kernel) rfl
theorem w_714 : (Cond.selects "FairBlocks$Standing" ({ cls := "FairBlocks$Standing", name := "waitingBits", desc := "(I)I" } : MethodName) ({ cls := "FairBlocks$Standing", name := "waitingBits", desc := "(I)I" } : MethodName)) ∈ gw := gm 714 (by decide +kernel) rfl
theorem w_715 : (Cond.code ({ cls := "FairBlocks$Standing", name := "waitingBits", desc := "(I)I" } : MethodName) prog_10_method_4_code (4 : Nat) (Option.some FieldType.int)) ∈ gw := gm 715 (by decide +kernel) rfl
theorem w_716 : (Cond.methodLink "FairBlocks$Standing" (33 : Nat) ({ cls := "FairBlocks$User", name := "waiting", desc := "()I" } : MethodName)) ∈ gw := gm 716 (by decide +kernel) rfl
theorem w_717 : (Cond.classLink "FairBlocksLaw" (10 : Nat) "FairBlocksModel") ∈ gw := gm 717 (by decide +kernel) rfl
theorem w_718 : (Cond.instantiable "FairBlocksModel" (32 : Nat)) ∈ gw := gm 718 (by decide +kernel) rfl
theorem w_719 : (Cond.methodLink "FairBlocksLaw" (12 : Nat) ({ cls := "FairBlocksModel", name := "<init>", desc := "()V" } : MethodName)) ∈ gw := gm 719 (by decide +kernel) rfl
theorem w_720 : (Cond.instanceMethod ({ cls := "FairBlocksModel", name := "<init>", desc := "()V" } : MethodName)) ∈ gw := gm 720 (by decide +kernel) rfl
theorem w_721 : (Cond.code ({ cls := "FairBlocksModel", name := "<init>", desc := "()V" } : MethodName) prog_14_method_8_code (1 : Nat) (Option.none : Option FieldType)) ∈ gw := gm 721 (by decide +kernel) rfl
theorem w_722 : (Cond.methodLink "FairBlocksModel" (21 : Nat) ({ cls := "java/lang/Object", name := "<init>", desc := "()V" } : MethodName)) ∈ gw := gm 722 (by decide +kernel) rfl
theorem w_723 : (Cond.fieldLink "FairBlocksModel" (1 : Nat) "FairBlocksModel" "thrown" "I") ∈ gw := gm 723 (by decide +kernel) rfl
theorem w_724 : (Cond.fieldLink "FairBlocksModel" (27 : Nat) "FairBlocksModel" "text" "[I") ∈ gw := gm 724 (by decide +kernel) rfl
theorem w_725 : (Cond.fieldLink "FairBlocksModel" (87 : Nat) "FairBlocksModel" "textSize" "I") ∈ gw := gm 725 (by decide +kernel) rfl
theorem w_726 : (Cond.fieldLink "FairBlocksModel" (90 : Nat) "FairBlocksModel" "place" "I") ∈ gw := gm 726 (by decide +kernel) rfl
theorem w_727 : (Cond.fieldLink "FairBlocksModel" (30 : Nat) "FairBlocksModel" "blocks" "I") ∈ gw := gm 727 (by decide +kernel) rfl
theorem w_728 : (Cond.fieldLink "FairBlocksModel" (33 : Nat) "FairBlocksModel" "shift" "I") ∈ gw := gm 728 (by decide +kernel) rfl
theorem w_729 : (Cond.fieldLink "FairBlocksModel" (14 : Nat) "FairBlocksModel" "users" "I") ∈ gw := gm 729 (by decide +kernel) rfl
theorem w_730 : (Cond.fieldLink "FairBlocksModel" (36 : Nat) "FairBlocksModel" "rates" "[I") ∈ gw := gm 730 (by decide +kernel) rfl
theorem w_731 : (Cond.fieldLink "FairBlocksModel" (39 : Nat) "FairBlocksModel" "rateMany" "[I") ∈ gw := gm 731 (by decide +kernel) rfl
theorem w_732 : (Cond.fieldLink "FairBlocksModel" (97 : Nat) "FairBlocksModel" "readBlocks" "I") ∈ gw := gm 732 (by decide +kernel) rfl
theorem w_733 : (Cond.fieldLink "FairBlocksModel" (100 : Nat) "FairBlocksModel" "readShift" "I") ∈ gw := gm 733 (by decide +kernel) rfl
theorem w_734 : (Cond.fieldLink "FairBlocksModel" (103 : Nat) "FairBlocksModel" "readPatience" "I") ∈ gw := gm 734 (by decide +kernel) rfl
theorem w_735 : (Cond.fieldLink "FairBlocksModel" (106 : Nat) "FairBlocksModel" "readUsers" "I") ∈ gw := gm 735 (by decide +kernel) rfl
theorem w_736 : (Cond.fieldLink "FairBlocksModel" (42 : Nat) "FairBlocksModel" "readRates" "[I") ∈ gw := gm 736 (by decide +kernel) rfl
theorem w_737 : (Cond.fieldLink "FairBlocksModel" (45 : Nat) "FairBlocksModel" "readRateMany" "[I") ∈ gw := gm 737 (by decide +kernel) rfl
theorem w_738 : (Cond.fieldLink "FairBlocksModel" (48 : Nat) "FairBlocksModel" "readPage" "[I") ∈ gw := gm 738 (by decide +kernel) rfl
theorem w_739 : (Cond.fieldLink "FairBlocksModel" (11 : Nat) "FairBlocksModel" "page" "[I") ∈ gw := gm 739 (by decide +kernel) rfl
theorem w_740 : (Cond.fieldLink "FairBlocksModel" (7 : Nat) "FairBlocksModel" "trial" "[I") ∈ gw := gm 740 (by decide +kernel) rfl
theorem w_741 : (Cond.fieldLink "FairBlocksModel" (51 : Nat) "FairBlocksModel" "other" "[I") ∈ gw := gm 741 (by decide +kernel) rfl
theorem w_742 : (Cond.fieldLink "FairBlocksModel" (54 : Nat) "FairBlocksModel" "book" "[I") ∈ gw := gm 742 (by decide +kernel) rfl
theorem w_743 : (Cond.fieldLink "FairBlocksModel" (120 : Nat) "FairBlocksModel" "doings" "I") ∈ gw := gm 743 (by decide +kernel) rfl
theorem w_744 : (Cond.fieldLink "FairBlocksModel" (57 : Nat) "FairBlocksModel" "kept" "[I") ∈ gw := gm 744 (by decide +kernel) rfl
theorem w_745 : (Cond.fieldLink "FairBlocksModel" (60 : Nat) "FairBlocksModel" "isKept" "[Z") ∈ gw := gm 745 (by decide +kernel) rfl
theorem w_746 : (Cond.fieldLink "FairBlocksModel" (198 : Nat) "FairBlocksModel" "seen" "I") ∈ gw := gm 746 (by decide +kernel) rfl
theorem w_747 : (Cond.fieldLink "FairBlocksModel" (64 : Nat) "FairBlocksModel" "seenBehind" "[I") ∈ gw := gm 747 (by decide +kernel) rfl
theorem w_748 : (Cond.fieldLink "FairBlocksModel" (67 : Nat) "FairBlocksModel" "seenUser" "[I") ∈ gw := gm 748 (by decide +kernel) rfl
theorem w_749 : (Cond.fieldLink "FairBlocksModel" (70 : Nat) "FairBlocksModel" "seenWhat" "[I") ∈ gw := gm 749 (by decide +kernel) rfl
theorem w_750 : (Cond.fieldLink "FairBlocksModel" (73 : Nat) "FairBlocksModel" "seenMany" "[I") ∈ gw := gm 750 (by decide +kernel) rfl
theorem w_751 : (Cond.fieldLink "FairBlocksModel" (76 : Nat) "FairBlocksModel" "seenWas" "[I") ∈ gw := gm 751 (by decide +kernel) rfl
theorem w_752 : (Cond.fieldLink "FairBlocksModel" (231 : Nat) "FairBlocksModel" "seed" "J") ∈ gw := gm 752 (by decide +kernel) rfl
theorem w_753 : (Cond.fieldLink "FairBlocksModel" (79 : Nat) "FairBlocksModel" "had" "[I") ∈ gw := gm 753 (by decide +kernel) rfl
theorem w_754 : (Cond.fieldLink "FairBlocksModel" (82 : Nat) "FairBlocksModel" "got" "[I") ∈ gw := gm 754 (by decide +kernel) rfl
theorem w_820 : (Cond.methodLink "FairBlocksLaw" (17 : Nat) ({ cls := "FairBlocksModel", name := "write", desc := "(I)I" } : MethodName)) ∈ gw := gm 820 (by decide +kernel) rfl
theorem w_821 : (Cond.instanceMethod ({ cls := "FairBlocksModel", name := "write", desc := "(I)I" } : MethodName)) ∈ gw := gm 821 (by decide +kernel) rfl
theorem w_822 : (Cond.selects "FairBlocksModel" ({ cls := "FairBlocksModel", name := "write", desc := "(I)I" } : MethodName) ({ cls := "FairBlocksModel", name := "write", desc := "(I)I" } : MethodName)) ∈ gw := gm 822 (by decide +kernel) rfl
theorem w_823 : (Cond.code ({ cls := "FairBlocksModel", name := "write", desc := "(I)I" } : MethodName) prog_14_method_9_code (2 : Nat) (Option.some FieldType.int)) ∈ gw := gm 823 (by decide +kernel) rfl
theorem w_824 : (Cond.constantLong "FairBlocksModel" (85 : Nat) (255 : Int64)) ∈ gw := gm 824 (by decide +kernel) rfl
theorem w_825 : (Cond.methodLink "FairBlocksModel" (17 : Nat) ({ cls := "FairBlocksModel", name := "in", desc := "(JJJ)Z" } : MethodName)) ∈ gw := gm 825 (by decide +kernel) rfl
theorem w_826 : (Cond.static ({ cls := "FairBlocksModel", name := "in", desc := "(JJJ)Z" } : MethodName)) ∈ gw := gm 826 (by decide +kernel) rfl
theorem w_827 : (Cond.code ({ cls := "FairBlocksModel", name := "in", desc := "(JJJ)Z" } : MethodName) prog_14_method_2_code (6 : Nat) (Option.some FieldType.boolean)) ∈ gw := gm 827 (by decide +kernel) rfl
theorem w_828 : (Cond.methodLink "FairBlocksLaw" (22 : Nat) ({ cls := "FairBlocksModel", name := "wipe", desc := "()I" } : MethodName)) ∈ gw := gm 828 (by decide +kernel) rfl
theorem w_829 : (Cond.instanceMethod ({ cls := "FairBlocksModel", name := "wipe", desc := "()I" } : MethodName)) ∈ gw := gm 829 (by decide +kernel) rfl
theorem w_830 : (Cond.selects "FairBlocksModel" ({ cls := "FairBlocksModel", name := "wipe", desc := "()I" } : MethodName) ({ cls := "FairBlocksModel", name := "wipe", desc := "()I" } : MethodName)) ∈ gw := gm 830 (by decide +kernel) rfl
theorem w_831 : (Cond.code ({ cls := "FairBlocksModel", name := "wipe", desc := "()I" } : MethodName) prog_14_method_10_code (2 : Nat) (Option.some FieldType.int)) ∈ gw := gm 831 (by decide +kernel) rfl
theorem w_832 : (Cond.methodLink "FairBlocksLaw" (26 : Nat) ({ cls := "FairBlocksModel", name := "fault", desc := "()I" } : MethodName)) ∈ gw := gm 832 (by decide +kernel) rfl
theorem w_833 : (Cond.instanceMethod ({ cls := "FairBlocksModel", name := "fault", desc := "()I" } : MethodName)) ∈ gw := gm 833 (by decide +kernel) rfl
theorem w_834 : (Cond.selects "FairBlocksModel" ({ cls := "FairBlocksModel", name := "fault", desc := "()I" } : MethodName) ({ cls := "FairBlocksModel", name := "fault", desc := "()I" } : MethodName)) ∈ gw := gm 834 (by decide +kernel) rfl
theorem w_835 : (Cond.code ({ cls := "FairBlocksModel", name := "fault", desc := "()I" } : MethodName) prog_14_method_15_code (1 : Nat) (Option.some FieldType.int)) ∈ gw := gm 835 (by decide +kernel) rfl
theorem w_836 : (Cond.methodLink "FairBlocksModel" (116 : Nat) ({ cls := "FairBlocksModel", name := "readCell", desc := "()I" } : MethodName)) ∈ gw := gm 836 (by decide +kernel) rfl
theorem w_838 : (Cond.instanceMethod ({ cls := "FairBlocksModel", name := "readCell", desc := "()I" } : MethodName)) ∈ gw := gm 838 (by decide +kernel) rfl
theorem w_839 : (Cond.code ({ cls := "FairBlocksModel", name := "readCell", desc := "()I" } : MethodName) prog_14_method_14_code (2 : Nat) (Option.some FieldType.int)) ∈ gw := gm 839 (by decide +kernel) rfl
theorem w_840 : (Cond.methodLink "FairBlocksModel" (109 : Nat) ({ cls := "FairBlocksModel", name := "readHead", desc := "()Z" } : MethodName)) ∈ gw := gm 840 (by decide +kernel) rfl
theorem w_842 : (Cond.instanceMethod ({ cls := "FairBlocksModel", name := "readHead", desc := "()Z" } : MethodName)) ∈ gw := gm 842 (by decide +kernel) rfl
theorem w_843 : (Cond.code ({ cls := "FairBlocksModel", name := "readHead", desc := "()Z" } : MethodName) prog_14_method_12_code (1 : Nat) (Option.some FieldType.boolean)) ∈ gw := gm 843 (by decide +kernel) rfl
theorem w_844 : (Cond.methodLink "FairBlocksModel" (93 : Nat) ({ cls := "FairBlocksModel", name := "figure", desc := "(II)I" } : MethodName)) ∈ gw := gm 844 (by decide +kernel) rfl
theorem w_846 : (Cond.instanceMethod ({ cls := "FairBlocksModel", name := "figure", desc := "(II)I" } : MethodName)) ∈ gw := gm 846 (by decide +kernel) rfl
theorem w_847 : (Cond.code ({ cls := "FairBlocksModel", name := "figure", desc := "(II)I" } : MethodName) prog_14_method_11_code (4 : Nat) (Option.some FieldType.int)) ∈ gw := gm 847 (by decide +kernel) rfl
theorem w_848 : (Cond.methodLink "FairBlocksModel" (113 : Nat) ({ cls := "FairBlocksModel", name := "readUser", desc := "()Z" } : MethodName)) ∈ gw := gm 848 (by decide +kernel) rfl
theorem w_850 : (Cond.instanceMethod ({ cls := "FairBlocksModel", name := "readUser", desc := "()Z" } : MethodName)) ∈ gw := gm 850 (by decide +kernel) rfl
theorem w_851 : (Cond.code ({ cls := "FairBlocksModel", name := "readUser", desc := "()Z" } : MethodName) prog_14_method_13_code (6 : Nat) (Option.some FieldType.boolean)) ∈ gw := gm 851 (by decide +kernel) rfl
theorem w_852 : (Cond.methodLink "FairBlocksLaw" (30 : Nat) ({ cls := "FairBlocksModel", name := "cell", desc := "()I" } : MethodName)) ∈ gw := gm 852 (by decide +kernel) rfl
theorem w_853 : (Cond.instanceMethod ({ cls := "FairBlocksModel", name := "cell", desc := "()I" } : MethodName)) ∈ gw := gm 853 (by decide +kernel) rfl
theorem w_854 : (Cond.selects "FairBlocksModel" ({ cls := "FairBlocksModel", name := "cell", desc := "()I" } : MethodName) ({ cls := "FairBlocksModel", name := "cell", desc := "()I" } : MethodName)) ∈ gw := gm 854 (by decide +kernel) rfl
theorem w_855 : (Cond.code ({ cls := "FairBlocksModel", name := "cell", desc := "()I" } : MethodName) prog_14_method_16_code (2 : Nat) (Option.some FieldType.int)) ∈ gw := gm 855 (by decide +kernel) rfl
theorem w_856 : (Cond.methodLink "FairBlocksLaw" (35 : Nat) ({ cls := "FairBlocksModel", name := "user", desc := "(II)I" } : MethodName)) ∈ gw := gm 856 (by decide +kernel) rfl
theorem w_857 : (Cond.instanceMethod ({ cls := "FairBlocksModel", name := "user", desc := "(II)I" } : MethodName)) ∈ gw := gm 857 (by decide +kernel) rfl
theorem w_858 : (Cond.selects "FairBlocksModel" ({ cls := "FairBlocksModel", name := "user", desc := "(II)I" } : MethodName) ({ cls := "FairBlocksModel", name := "user", desc := "(II)I" } : MethodName)) ∈ gw := gm 858 (by decide +kernel) rfl
theorem w_859 : (Cond.code ({ cls := "FairBlocksModel", name := "user", desc := "(II)I" } : MethodName) prog_14_method_27_code (3 : Nat) (Option.some FieldType.int)) ∈ gw := gm 859 (by decide +kernel) rfl
theorem w_860 : (Cond.methodLink "FairBlocksModel" (156 : Nat) ({ cls := "FairBlocksModel", name := "noUser", desc := "(I)Z" } : MethodName)) ∈ gw := gm 860 (by decide +kernel) rfl
theorem w_862 : (Cond.instanceMethod ({ cls := "FairBlocksModel", name := "noUser", desc := "(I)Z" } : MethodName)) ∈ gw := gm 862 (by decide +kernel) rfl
theorem w_863 : (Cond.code ({ cls := "FairBlocksModel", name := "noUser", desc := "(I)Z" } : MethodName) prog_14_method_7_code (2 : Nat) (Option.some FieldType.boolean)) ∈ gw := gm 863 (by decide +kernel) rfl
theorem w_864 : (Cond.constantLong "FairBlocksModel" (160 : Nat) (10 : Int64)) ∈ gw := gm 864 (by decide +kernel) rfl
theorem w_865 : (Cond.methodLink "FairBlocksModel" (123 : Nat) ({ cls := "FairBlocksModel", name := "rateOf", desc := "([II)I" } : MethodName)) ∈ gw := gm 865 (by decide +kernel) rfl
theorem w_867 : (Cond.instanceMethod ({ cls := "FairBlocksModel", name := "rateOf", desc := "([II)I" } : MethodName)) ∈ gw := gm 867 (by decide +kernel) rfl
theorem w_868 : (Cond.code ({ cls := "FairBlocksModel", name := "rateOf", desc := "([II)I" } : MethodName) prog_14_method_17_code (3 : Nat) (Option.some FieldType.int)) ∈ gw := gm 868 (by decide +kernel) rfl
theorem w_869 : (Cond.methodLink "FairBlocksLaw" (39 : Nat) ({ cls := "FairBlocksModel", name := "slot", desc := "(I)I" } : MethodName)) ∈ gw := gm 869 (by decide +kernel) rfl
theorem w_870 : (Cond.instanceMethod ({ cls := "FairBlocksModel", name := "slot", desc := "(I)I" } : MethodName)) ∈ gw := gm 870 (by decide +kernel) rfl
theorem w_871 : (Cond.selects "FairBlocksModel" ({ cls := "FairBlocksModel", name := "slot", desc := "(I)I" } : MethodName) ({ cls := "FairBlocksModel", name := "slot", desc := "(I)I" } : MethodName)) ∈ gw := gm 871 (by decide +kernel) rfl
theorem w_872 : (Cond.code ({ cls := "FairBlocksModel", name := "slot", desc := "(I)I" } : MethodName) prog_14_method_29_code (2 : Nat) (Option.some FieldType.int)) ∈ gw := gm 872 (by decide +kernel) rfl
theorem w_873 : (Cond.constantLong "FairBlocksModel" (162 : Nat) (99 : Int64)) ∈ gw := gm 873 (by decide +kernel) rfl
theorem w_874 : (Cond.methodLink "FairBlocksModel" (164 : Nat) ({ cls := "FairBlocksModel", name := "note", desc := "()V" } : MethodName)) ∈ gw := gm 874 (by decide +kernel) rfl
theorem w_876 : (Cond.instanceMethod ({ cls := "FairBlocksModel", name := "note", desc := "()V" } : MethodName)) ∈ gw := gm 876 (by decide +kernel) rfl
theorem w_877 : (Cond.code ({ cls := "FairBlocksModel", name := "note", desc := "()V" } : MethodName) prog_14_method_28_code (2 : Nat) (Option.none : Option FieldType)) ∈ gw := gm 877 (by decide +kernel) rfl
theorem w_878 : (Cond.methodLink "FairBlocksModel" (167 : Nat) ({ cls := "FairBlocksModel", name := "slotsOn", desc := "([II)I" } : MethodName)) ∈ gw := gm 878 (by decide +kernel) rfl
theorem w_880 : (Cond.instanceMethod ({ cls := "FairBlocksModel", name := "slotsOn", desc := "([II)I" } : MethodName)) ∈ gw := gm 880 (by decide +kernel) rfl
theorem w_881 : (Cond.code ({ cls := "FairBlocksModel", name := "slotsOn", desc := "([II)I" } : MethodName) prog_14_method_26_code (5 : Nat) (Option.some FieldType.int)) ∈ gw := gm 881 (by decide +kernel) rfl
theorem w_882 : (Cond.methodLink "FairBlocksModel" (152 : Nat) ({ cls := "FairBlocksModel", name := "slotOn", desc := "([IZ)I" } : MethodName)) ∈ gw := gm 882 (by decide +kernel) rfl
theorem w_884 : (Cond.instanceMethod ({ cls := "FairBlocksModel", name := "slotOn", desc := "([IZ)I" } : MethodName)) ∈ gw := gm 884 (by decide +kernel) rfl
theorem w_885 : (Cond.code ({ cls := "FairBlocksModel", name := "slotOn", desc := "([IZ)I" } : MethodName) prog_14_method_25_code (6 : Nat) (Option.some FieldType.int)) ∈ gw := gm 885 (by decide +kernel) rfl
theorem w_886 : (Cond.methodLink "FairBlocksModel" (145 : Nat) ({ cls := "FairBlocksModel", name := "whoHas", desc := "([II)I" } : MethodName)) ∈ gw := gm 886 (by decide +kernel) rfl
theorem w_888 : (Cond.instanceMethod ({ cls := "FairBlocksModel", name := "whoHas", desc := "([II)I" } : MethodName)) ∈ gw := gm 888 (by decide +kernel) rfl
theorem w_889 : (Cond.code ({ cls := "FairBlocksModel", name := "whoHas", desc := "([II)I" } : MethodName) prog_14_method_23_code (9 : Nat) (Option.some FieldType.int)) ∈ gw := gm 889 (by decide +kernel) rfl
theorem w_890 : (Cond.methodLink "FairBlocksModel" (135 : Nat) ({ cls := "FairBlocksModel", name := "may", desc := "([III)Z" } : MethodName)) ∈ gw := gm 890 (by decide +kernel) rfl
theorem w_892 : (Cond.instanceMethod ({ cls := "FairBlocksModel", name := "may", desc := "([III)Z" } : MethodName)) ∈ gw := gm 892 (by decide +kernel) rfl
theorem w_893 : (Cond.code ({ cls := "FairBlocksModel", name := "may", desc := "([III)Z" } : MethodName) prog_14_method_20_code (4 : Nat) (Option.some FieldType.boolean)) ∈ gw := gm 893 (by decide +kernel) rfl
theorem w_894 : (Cond.methodLink "FairBlocksModel" (127 : Nat) ({ cls := "FairBlocksModel", name := "hasAny", desc := "([II)Z" } : MethodName)) ∈ gw := gm 894 (by decide +kernel) rfl
theorem w_895 : (Cond.static ({ cls := "FairBlocksModel", name := "hasAny", desc := "([II)Z" } : MethodName)) ∈ gw := gm 895 (by decide +kernel) rfl
theorem w_896 : (Cond.code ({ cls := "FairBlocksModel", name := "hasAny", desc := "([II)Z" } : MethodName) prog_14_method_18_code (2 : Nat) (Option.some FieldType.boolean)) ∈ gw := gm 896 (by decide +kernel) rfl
theorem w_897 : (Cond.methodLink "FairBlocksModel" (131 : Nat) ({ cls := "FairBlocksModel", name := "hadSome", desc := "(II)Z" } : MethodName)) ∈ gw := gm 897 (by decide +kernel) rfl
theorem w_899 : (Cond.instanceMethod ({ cls := "FairBlocksModel", name := "hadSome", desc := "(II)Z" } : MethodName)) ∈ gw := gm 899 (by decide +kernel) rfl
theorem w_900 : (Cond.code ({ cls := "FairBlocksModel", name := "hadSome", desc := "(II)Z" } : MethodName) prog_14_method_19_code (5 : Nat) (Option.some FieldType.boolean)) ∈ gw := gm 900 (by decide +kernel) rfl
theorem w_901 : (Cond.methodLink "FairBlocksModel" (139 : Nat) ({ cls := "FairBlocksModel", name := "urgent", desc := "([II)I" } : MethodName)) ∈ gw := gm 901 (by decide +kernel) rfl
theorem w_903 : (Cond.instanceMethod ({ cls := "FairBlocksModel", name := "urgent", desc := "([II)I" } : MethodName)) ∈ gw := gm 903 (by decide +kernel) rfl
theorem w_904 : (Cond.code ({ cls := "FairBlocksModel", name := "urgent", desc := "([II)I" } : MethodName) prog_14_method_22_code (4 : Nat) (Option.some FieldType.int)) ∈ gw := gm 904 (by decide +kernel) rfl
theorem w_905 : (Cond.methodLink "FairBlocksModel" (142 : Nat) ({ cls := "FairBlocksModel", name := "isDue", desc := "([III)Z" } : MethodName)) ∈ gw := gm 905 (by decide +kernel) rfl
theorem w_907 : (Cond.instanceMethod ({ cls := "FairBlocksModel", name := "isDue", desc := "([III)Z" } : MethodName)) ∈ gw := gm 907 (by decide +kernel) rfl
theorem w_908 : (Cond.code ({ cls := "FairBlocksModel", name := "isDue", desc := "([III)Z" } : MethodName) prog_14_method_21_code (8 : Nat) (Option.some FieldType.boolean)) ∈ gw := gm 908 (by decide +kernel) rfl
theorem w_909 : (Cond.methodLink "FairBlocksModel" (148 : Nat) ({ cls := "FairBlocksModel", name := "sends", desc := "([II)V" } : MethodName)) ∈ gw := gm 909 (by decide +kernel) rfl
theorem w_911 : (Cond.instanceMethod ({ cls := "FairBlocksModel", name := "sends", desc := "([II)V" } : MethodName)) ∈ gw := gm 911 (by decide +kernel) rfl
theorem w_912 : (Cond.code ({ cls := "FairBlocksModel", name := "sends", desc := "([II)V" } : MethodName) prog_14_method_24_code (7 : Nat) (Option.none : Option FieldType)) ∈ gw := gm 912 (by decide +kernel) rfl
theorem w_913 : (Cond.methodLink "FairBlocksLaw" (43 : Nat) ({ cls := "FairBlocksModel", name := "turn", desc := "(I)I" } : MethodName)) ∈ gw := gm 913 (by decide +kernel) rfl
theorem w_914 : (Cond.instanceMethod ({ cls := "FairBlocksModel", name := "turn", desc := "(I)I" } : MethodName)) ∈ gw := gm 914 (by decide +kernel) rfl
theorem w_915 : (Cond.selects "FairBlocksModel" ({ cls := "FairBlocksModel", name := "turn", desc := "(I)I" } : MethodName) ({ cls := "FairBlocksModel", name := "turn", desc := "(I)I" } : MethodName)) ∈ gw := gm 915 (by decide +kernel) rfl
theorem w_916 : (Cond.code ({ cls := "FairBlocksModel", name := "turn", desc := "(I)I" } : MethodName) prog_14_method_30_code (2 : Nat) (Option.some FieldType.int)) ∈ gw := gm 916 (by decide +kernel) rfl
theorem w_917 : (Cond.methodLink "FairBlocksLaw" (47 : Nat) ({ cls := "FairBlocksModel", name := "drop", desc := "(I)I" } : MethodName)) ∈ gw := gm 917 (by decide +kernel) rfl
theorem w_918 : (Cond.instanceMethod ({ cls := "FairBlocksModel", name := "drop", desc := "(I)I" } : MethodName)) ∈ gw := gm 918 (by decide +kernel) rfl
theorem w_919 : (Cond.selects "FairBlocksModel" ({ cls := "FairBlocksModel", name := "drop", desc := "(I)I" } : MethodName) ({ cls := "FairBlocksModel", name := "drop", desc := "(I)I" } : MethodName)) ∈ gw := gm 919 (by decide +kernel) rfl
theorem w_920 : (Cond.code ({ cls := "FairBlocksModel", name := "drop", desc := "(I)I" } : MethodName) prog_14_method_31_code (3 : Nat) (Option.some FieldType.int)) ∈ gw := gm 920 (by decide +kernel) rfl
theorem w_921 : (Cond.methodLink "FairBlocksLaw" (52 : Nat) ({ cls := "FairBlocksModel", name := "set", desc := "(III)I" } : MethodName)) ∈ gw := gm 921 (by decide +kernel) rfl
theorem w_922 : (Cond.instanceMethod ({ cls := "FairBlocksModel", name := "set", desc := "(III)I" } : MethodName)) ∈ gw := gm 922 (by decide +kernel) rfl
theorem w_923 : (Cond.selects "FairBlocksModel" ({ cls := "FairBlocksModel", name := "set", desc := "(III)I" } : MethodName) ({ cls := "FairBlocksModel", name := "set", desc := "(III)I" } : MethodName)) ∈ gw := gm 923 (by decide +kernel) rfl
theorem w_924 : (Cond.code ({ cls := "FairBlocksModel", name := "set", desc := "(III)I" } : MethodName) prog_14_method_32_code (5 : Nat) (Option.some FieldType.int)) ∈ gw := gm 924 (by decide +kernel) rfl
theorem w_925 : (Cond.constantLong "FairBlocksModel" (170 : Nat) (2 : Int64)) ∈ gw := gm 925 (by decide +kernel) rfl
theorem w_926 : (Cond.constantLong "FairBlocksModel" (172 : Nat) (9 : Int64)) ∈ gw := gm 926 (by decide +kernel) rfl
theorem w_927 : (Cond.methodLink "FairBlocksLaw" (56 : Nat) ({ cls := "FairBlocksModel", name := "patience", desc := "(I)I" } : MethodName)) ∈ gw := gm 927 (by decide +kernel) rfl
theorem w_928 : (Cond.instanceMethod ({ cls := "FairBlocksModel", name := "patience", desc := "(I)I" } : MethodName)) ∈ gw := gm 928 (by decide +kernel) rfl
theorem w_929 : (Cond.selects "FairBlocksModel" ({ cls := "FairBlocksModel", name := "patience", desc := "(I)I" } : MethodName) ({ cls := "FairBlocksModel", name := "patience", desc := "(I)I" } : MethodName)) ∈ gw := gm 929 (by decide +kernel) rfl
theorem w_930 : (Cond.code ({ cls := "FairBlocksModel", name := "patience", desc := "(I)I" } : MethodName) prog_14_method_33_code (3 : Nat) (Option.some FieldType.int)) ∈ gw := gm 930 (by decide +kernel) rfl
theorem w_931 : (Cond.methodLink "FairBlocksLaw" (60 : Nat) ({ cls := "FairBlocksModel", name := "undo", desc := "()I" } : MethodName)) ∈ gw := gm 931 (by decide +kernel) rfl
theorem w_932 : (Cond.instanceMethod ({ cls := "FairBlocksModel", name := "undo", desc := "()I" } : MethodName)) ∈ gw := gm 932 (by decide +kernel) rfl
theorem w_933 : (Cond.selects "FairBlocksModel" ({ cls := "FairBlocksModel", name := "undo", desc := "()I" } : MethodName) ({ cls := "FairBlocksModel", name := "undo", desc := "()I" } : MethodName)) ∈ gw := gm 933 (by decide +kernel) rfl
theorem w_934 : (Cond.code ({ cls := "FairBlocksModel", name := "undo", desc := "()I" } : MethodName) prog_14_method_34_code (2 : Nat) (Option.some FieldType.int)) ∈ gw := gm 934 (by decide +kernel) rfl
theorem w_935 : (Cond.methodLink "FairBlocksLaw" (64 : Nat) ({ cls := "FairBlocksModel", name := "ahead", desc := "(III)I" } : MethodName)) ∈ gw := gm 935 (by decide +kernel) rfl
theorem w_936 : (Cond.instanceMethod ({ cls := "FairBlocksModel", name := "ahead", desc := "(III)I" } : MethodName)) ∈ gw := gm 936 (by decide +kernel) rfl
theorem w_937 : (Cond.selects "FairBlocksModel" ({ cls := "FairBlocksModel", name := "ahead", desc := "(III)I" } : MethodName) ({ cls := "FairBlocksModel", name := "ahead", desc := "(III)I" } : MethodName)) ∈ gw := gm 937 (by decide +kernel) rfl
theorem w_938 : (Cond.code ({ cls := "FairBlocksModel", name := "ahead", desc := "(III)I" } : MethodName) prog_14_method_35_code (4 : Nat) (Option.some FieldType.int)) ∈ gw := gm 938 (by decide +kernel) rfl
theorem w_939 : (Cond.constantLong "FairBlocksModel" (174 : Nat) (5 : Int64)) ∈ gw := gm 939 (by decide +kernel) rfl
theorem w_940 : (Cond.methodLink "FairBlocksModel" (176 : Nat) ({ cls := "FairBlocksModel", name := "layTrial", desc := "()V" } : MethodName)) ∈ gw := gm 940 (by decide +kernel) rfl
theorem w_942 : (Cond.instanceMethod ({ cls := "FairBlocksModel", name := "layTrial", desc := "()V" } : MethodName)) ∈ gw := gm 942 (by decide +kernel) rfl
theorem w_943 : (Cond.code ({ cls := "FairBlocksModel", name := "layTrial", desc := "()V" } : MethodName) prog_14_method_6_code (2 : Nat) (Option.none : Option FieldType)) ∈ gw := gm 943 (by decide +kernel) rfl
theorem w_944 : (Cond.methodLink "FairBlocksLaw" (68 : Nat) ({ cls := "FairBlocksModel", name := "who", desc := "(I)I" } : MethodName)) ∈ gw := gm 944 (by decide +kernel) rfl
theorem w_945 : (Cond.instanceMethod ({ cls := "FairBlocksModel", name := "who", desc := "(I)I" } : MethodName)) ∈ gw := gm 945 (by decide +kernel) rfl
theorem w_946 : (Cond.selects "FairBlocksModel" ({ cls := "FairBlocksModel", name := "who", desc := "(I)I" } : MethodName) ({ cls := "FairBlocksModel", name := "who", desc := "(I)I" } : MethodName)) ∈ gw := gm 946 (by decide +kernel) rfl
theorem w_947 : (Cond.code ({ cls := "FairBlocksModel", name := "who", desc := "(I)I" } : MethodName) prog_14_method_37_code (2 : Nat) (Option.some FieldType.int)) ∈ gw := gm 947 (by decide +kernel) rfl
theorem w_948 : (Cond.methodLink "FairBlocksModel" (179 : Nat) ({ cls := "FairBlocksModel", name := "whoNext", desc := "([II)I" } : MethodName)) ∈ gw := gm 948 (by decide +kernel) rfl
theorem w_950 : (Cond.instanceMethod ({ cls := "FairBlocksModel", name := "whoNext", desc := "([II)I" } : MethodName)) ∈ gw := gm 950 (by decide +kernel) rfl
theorem w_951 : (Cond.code ({ cls := "FairBlocksModel", name := "whoNext", desc := "([II)I" } : MethodName) prog_14_method_36_code (3 : Nat) (Option.some FieldType.int)) ∈ gw := gm 951 (by decide +kernel) rfl
theorem w_952 : (Cond.methodLink "FairBlocksLaw" (72 : Nat) ({ cls := "FairBlocksModel", name := "longest", desc := "(II)I" } : MethodName)) ∈ gw := gm 952 (by decide +kernel) rfl
theorem w_953 : (Cond.instanceMethod ({ cls := "FairBlocksModel", name := "longest", desc := "(II)I" } : MethodName)) ∈ gw := gm 953 (by decide +kernel) rfl
theorem w_954 : (Cond.selects "FairBlocksModel" ({ cls := "FairBlocksModel", name := "longest", desc := "(II)I" } : MethodName) ({ cls := "FairBlocksModel", name := "longest", desc := "(II)I" } : MethodName)) ∈ gw := gm 954 (by decide +kernel) rfl
theorem w_955 : (Cond.code ({ cls := "FairBlocksModel", name := "longest", desc := "(II)I" } : MethodName) prog_14_method_38_code (6 : Nat) (Option.some FieldType.int)) ∈ gw := gm 955 (by decide +kernel) rfl
theorem w_956 : (Cond.methodLink "FairBlocksLaw" (76 : Nat) ({ cls := "FairBlocksModel", name := "empty", desc := "(I)I" } : MethodName)) ∈ gw := gm 956 (by decide +kernel) rfl
theorem w_957 : (Cond.instanceMethod ({ cls := "FairBlocksModel", name := "empty", desc := "(I)I" } : MethodName)) ∈ gw := gm 957 (by decide +kernel) rfl
theorem w_958 : (Cond.selects "FairBlocksModel" ({ cls := "FairBlocksModel", name := "empty", desc := "(I)I" } : MethodName) ({ cls := "FairBlocksModel", name := "empty", desc := "(I)I" } : MethodName)) ∈ gw := gm 958 (by decide +kernel) rfl
theorem w_959 : (Cond.code ({ cls := "FairBlocksModel", name := "empty", desc := "(I)I" } : MethodName) prog_14_method_39_code (3 : Nat) (Option.some FieldType.int)) ∈ gw := gm 959 (by decide +kernel) rfl
theorem w_960 : (Cond.methodLink "FairBlocksLaw" (80 : Nat) ({ cls := "FairBlocksModel", name := "best", desc := "(I)I" } : MethodName)) ∈ gw := gm 960 (by decide +kernel) rfl
theorem w_961 : (Cond.instanceMethod ({ cls := "FairBlocksModel", name := "best", desc := "(I)I" } : MethodName)) ∈ gw := gm 961 (by decide +kernel) rfl
theorem w_962 : (Cond.selects "FairBlocksModel" ({ cls := "FairBlocksModel", name := "best", desc := "(I)I" } : MethodName) ({ cls := "FairBlocksModel", name := "best", desc := "(I)I" } : MethodName)) ∈ gw := gm 962 (by decide +kernel) rfl
theorem w_963 : (Cond.code ({ cls := "FairBlocksModel", name := "best", desc := "(I)I" } : MethodName) prog_14_method_40_code (8 : Nat) (Option.some FieldType.int)) ∈ gw := gm 963 (by decide +kernel) rfl
theorem w_964 : (Cond.methodLink "FairBlocksLaw" (87 : Nat) ({ cls := "FairBlocksModel", name := "judge", desc := "(IJ)I" } : MethodName)) ∈ gw := gm 964 (by decide +kernel) rfl
theorem w_965 : (Cond.instanceMethod ({ cls := "FairBlocksModel", name := "judge", desc := "(IJ)I" } : MethodName)) ∈ gw := gm 965 (by decide +kernel) rfl
theorem w_966 : (Cond.selects "FairBlocksModel" ({ cls := "FairBlocksModel", name := "judge", desc := "(IJ)I" } : MethodName) ({ cls := "FairBlocksModel", name := "judge", desc := "(IJ)I" } : MethodName)) ∈ gw := gm 966 (by decide +kernel) rfl
theorem w_967 : (Cond.code ({ cls := "FairBlocksModel", name := "judge", desc := "(IJ)I" } : MethodName) prog_14_method_44_code (6 : Nat) (Option.some FieldType.int)) ∈ gw := gm 967 (by decide +kernel) rfl
theorem w_968 : (Cond.constantLong "FairBlocksModel" (186 : Nat) (4 : Int64)) ∈ gw := gm 968 (by decide +kernel) rfl
theorem w_969 : (Cond.constantLong "FairBlocksModel" (188 : Nat) (1000 : Int64)) ∈ gw := gm 969 (by decide +kernel) rfl
theorem w_970 : (Cond.methodLink "FairBlocksModel" (190 : Nat) ({ cls := "FairBlocksModel", name := "longPower", desc := "(JI)J" } : MethodName)) ∈ gw := gm 970 (by decide +kernel) rfl
theorem w_971 : (Cond.static ({ cls := "FairBlocksModel", name := "longPower", desc := "(JI)J" } : MethodName)) ∈ gw := gm 971 (by decide +kernel) rfl
theorem w_972 : (Cond.code ({ cls := "FairBlocksModel", name := "longPower", desc := "(JI)J" } : MethodName) prog_14_method_43_code (6 : Nat) (Option.some FieldType.long)) ∈ gw := gm 972 (by decide +kernel) rfl
theorem w_973 : (Cond.methodLink "FairBlocksModel" (194 : Nat) ({ cls := "FairBlocksModel", name := "does", desc := "(III)Z" } : MethodName)) ∈ gw := gm 973 (by decide +kernel) rfl
theorem w_975 : (Cond.instanceMethod ({ cls := "FairBlocksModel", name := "does", desc := "(III)Z" } : MethodName)) ∈ gw := gm 975 (by decide +kernel) rfl
theorem w_976 : (Cond.code ({ cls := "FairBlocksModel", name := "does", desc := "(III)Z" } : MethodName) prog_14_method_42_code (4 : Nat) (Option.some FieldType.boolean)) ∈ gw := gm 976 (by decide +kernel) rfl
theorem w_977 : (Cond.methodLink "FairBlocksModel" (182 : Nat) ({ cls := "FairBlocksModel", name := "whoTried", desc := "(I)I" } : MethodName)) ∈ gw := gm 977 (by decide +kernel) rfl
theorem w_979 : (Cond.instanceMethod ({ cls := "FairBlocksModel", name := "whoTried", desc := "(I)I" } : MethodName)) ∈ gw := gm 979 (by decide +kernel) rfl
theorem w_980 : (Cond.code ({ cls := "FairBlocksModel", name := "whoTried", desc := "(I)I" } : MethodName) prog_14_method_41_code (3 : Nat) (Option.some FieldType.int)) ∈ gw := gm 980 (by decide +kernel) rfl
theorem w_981 : (Cond.methodLink "FairBlocksLaw" (92 : Nat) ({ cls := "FairBlocksModel", name := "see", desc := "(IIIII)I" } : MethodName)) ∈ gw := gm 981 (by decide +kernel) rfl
theorem w_982 : (Cond.instanceMethod ({ cls := "FairBlocksModel", name := "see", desc := "(IIIII)I" } : MethodName)) ∈ gw := gm 982 (by decide +kernel) rfl
theorem w_983 : (Cond.selects "FairBlocksModel" ({ cls := "FairBlocksModel", name := "see", desc := "(IIIII)I" } : MethodName) ({ cls := "FairBlocksModel", name := "see", desc := "(IIIII)I" } : MethodName)) ∈ gw := gm 983 (by decide +kernel) rfl
theorem w_984 : (Cond.code ({ cls := "FairBlocksModel", name := "see", desc := "(IIIII)I" } : MethodName) prog_14_method_45_code (6 : Nat) (Option.some FieldType.int)) ∈ gw := gm 984 (by decide +kernel) rfl
theorem w_985 : (Cond.methodLink "FairBlocksLaw" (96 : Nat) ({ cls := "FairBlocksModel", name := "unsee", desc := "()I" } : MethodName)) ∈ gw := gm 985 (by decide +kernel) rfl
theorem w_986 : (Cond.instanceMethod ({ cls := "FairBlocksModel", name := "unsee", desc := "()I" } : MethodName)) ∈ gw := gm 986 (by decide +kernel) rfl
theorem w_987 : (Cond.selects "FairBlocksModel" ({ cls := "FairBlocksModel", name := "unsee", desc := "()I" } : MethodName) ({ cls := "FairBlocksModel", name := "unsee", desc := "()I" } : MethodName)) ∈ gw := gm 987 (by decide +kernel) rfl
theorem w_988 : (Cond.code ({ cls := "FairBlocksModel", name := "unsee", desc := "()I" } : MethodName) prog_14_method_46_code (2 : Nat) (Option.some FieldType.int)) ∈ gw := gm 988 (by decide +kernel) rfl
theorem w_989 : (Cond.methodLink "FairBlocksLaw" (100 : Nat) ({ cls := "FairBlocksModel", name := "which", desc := "()I" } : MethodName)) ∈ gw := gm 989 (by decide +kernel) rfl
theorem w_990 : (Cond.instanceMethod ({ cls := "FairBlocksModel", name := "which", desc := "()I" } : MethodName)) ∈ gw := gm 990 (by decide +kernel) rfl
theorem w_991 : (Cond.selects "FairBlocksModel" ({ cls := "FairBlocksModel", name := "which", desc := "()I" } : MethodName) ({ cls := "FairBlocksModel", name := "which", desc := "()I" } : MethodName)) ∈ gw := gm 991 (by decide +kernel) rfl
theorem w_992 : (Cond.code ({ cls := "FairBlocksModel", name := "which", desc := "()I" } : MethodName) prog_14_method_48_code (5 : Nat) (Option.some FieldType.int)) ∈ gw := gm 992 (by decide +kernel) rfl
theorem w_993 : (Cond.methodLink "FairBlocksModel" (201 : Nat) ({ cls := "FairBlocksModel", name := "isSo", desc := "(II)Z" } : MethodName)) ∈ gw := gm 993 (by decide +kernel) rfl
theorem w_995 : (Cond.instanceMethod ({ cls := "FairBlocksModel", name := "isSo", desc := "(II)Z" } : MethodName)) ∈ gw := gm 995 (by decide +kernel) rfl
theorem w_996 : (Cond.code ({ cls := "FairBlocksModel", name := "isSo", desc := "(II)Z" } : MethodName) prog_14_method_47_code (5 : Nat) (Option.some FieldType.boolean)) ∈ gw := gm 996 (by decide +kernel) rfl
theorem w_997 : (Cond.methodLink "FairBlocksLaw" (105 : Nat) ({ cls := "FairBlocksModel", name := "share", desc := "(IZ)I" } : MethodName)) ∈ gw := gm 997 (by decide +kernel) rfl
theorem w_998 : (Cond.instanceMethod ({ cls := "FairBlocksModel", name := "share", desc := "(IZ)I" } : MethodName)) ∈ gw := gm 998 (by decide +kernel) rfl
theorem w_999 : (Cond.selects "FairBlocksModel" ({ cls := "FairBlocksModel", name := "share", desc := "(IZ)I" } : MethodName) ({ cls := "FairBlocksModel", name := "share", desc := "(IZ)I" } : MethodName)) ∈ gw := gm 999 (by decide +kernel) rfl
theorem w_1000 : (Cond.code ({ cls := "FairBlocksModel", name := "share", desc := "(IZ)I" } : MethodName) prog_14_method_54_code (8 : Nat) (Option.some FieldType.int)) ∈ gw := gm 1000 (by decide +kernel) rfl
theorem w_1001 : (Cond.methodLink "FairBlocksModel" (210 : Nat) ({ cls := "FairBlocksModel", name := "offOnes", desc := "()I" } : MethodName)) ∈ gw := gm 1001 (by decide +kernel) rfl
theorem w_1003 : (Cond.instanceMethod ({ cls := "FairBlocksModel", name := "offOnes", desc := "()I" } : MethodName)) ∈ gw := gm 1003 (by decide +kernel) rfl
theorem w_1004 : (Cond.code ({ cls := "FairBlocksModel", name := "offOnes", desc := "()I" } : MethodName) prog_14_method_52_code (3 : Nat) (Option.some FieldType.int)) ∈ gw := gm 1004 (by decide +kernel) rfl
theorem w_1005 : (Cond.methodLink "FairBlocksModel" (207 : Nat) ({ cls := "FairBlocksModel", name := "has", desc := "(II)Z" } : MethodName)) ∈ gw := gm 1005 (by decide +kernel) rfl
theorem w_1006 : (Cond.static ({ cls := "FairBlocksModel", name := "has", desc := "(II)Z" } : MethodName)) ∈ gw := gm 1006 (by decide +kernel) rfl
theorem w_1007 : (Cond.code ({ cls := "FairBlocksModel", name := "has", desc := "(II)Z" } : MethodName) prog_14_method_3_code (2 : Nat) (Option.some FieldType.boolean)) ∈ gw := gm 1007 (by decide +kernel) rfl
theorem w_1008 : (Cond.methodLink "FairBlocksModel" (213 : Nat) ({ cls := "FairBlocksModel", name := "ones", desc := "(I)I" } : MethodName)) ∈ gw := gm 1008 (by decide +kernel) rfl
theorem w_1009 : (Cond.static ({ cls := "FairBlocksModel", name := "ones", desc := "(I)I" } : MethodName)) ∈ gw := gm 1009 (by decide +kernel) rfl
theorem w_1010 : (Cond.code ({ cls := "FairBlocksModel", name := "ones", desc := "(I)I" } : MethodName) prog_14_method_4_code (3 : Nat) (Option.some FieldType.int)) ∈ gw := gm 1010 (by decide +kernel) rfl
theorem w_1011 : (Cond.methodLink "FairBlocksModel" (216 : Nat) ({ cls := "FairBlocksModel", name := "factorial", desc := "(I)I" } : MethodName)) ∈ gw := gm 1011 (by decide +kernel) rfl
theorem w_1012 : (Cond.static ({ cls := "FairBlocksModel", name := "factorial", desc := "(I)I" } : MethodName)) ∈ gw := gm 1012 (by decide +kernel) rfl
theorem w_1013 : (Cond.code ({ cls := "FairBlocksModel", name := "factorial", desc := "(I)I" } : MethodName) prog_14_method_51_code (3 : Nat) (Option.some FieldType.int)) ∈ gw := gm 1013 (by decide +kernel) rfl
theorem w_1014 : (Cond.methodLink "FairBlocksModel" (219 : Nat) ({ cls := "FairBlocksModel", name := "gotBy", desc := "(I)I" } : MethodName)) ∈ gw := gm 1014 (by decide +kernel) rfl
theorem w_1016 : (Cond.instanceMethod ({ cls := "FairBlocksModel", name := "gotBy", desc := "(I)I" } : MethodName)) ∈ gw := gm 1016 (by decide +kernel) rfl
theorem w_1017 : (Cond.code ({ cls := "FairBlocksModel", name := "gotBy", desc := "(I)I" } : MethodName) prog_14_method_53_code (3 : Nat) (Option.some FieldType.int)) ∈ gw := gm 1017 (by decide +kernel) rfl
theorem w_1018 : (Cond.methodLink "FairBlocksModel" (222 : Nat) ({ cls := "FairBlocksModel", name := "fraction", desc := "(IIZ)I" } : MethodName)) ∈ gw := gm 1018 (by decide +kernel) rfl
theorem w_1019 : (Cond.static ({ cls := "FairBlocksModel", name := "fraction", desc := "(IIZ)I" } : MethodName)) ∈ gw := gm 1019 (by decide +kernel) rfl
theorem w_1020 : (Cond.code ({ cls := "FairBlocksModel", name := "fraction", desc := "(IIZ)I" } : MethodName) prog_14_method_50_code (4 : Nat) (Option.some FieldType.int)) ∈ gw := gm 1020 (by decide +kernel) rfl
theorem w_1021 : (Cond.methodLink "FairBlocksModel" (204 : Nat) ({ cls := "FairBlocksModel", name := "divisor", desc := "(II)I" } : MethodName)) ∈ gw := gm 1021 (by decide +kernel) rfl
theorem w_1022 : (Cond.static ({ cls := "FairBlocksModel", name := "divisor", desc := "(II)I" } : MethodName)) ∈ gw := gm 1022 (by decide +kernel) rfl
theorem w_1023 : (Cond.code ({ cls := "FairBlocksModel", name := "divisor", desc := "(II)I" } : MethodName) prog_14_method_49_code (5 : Nat) (Option.some FieldType.int)) ∈ gw := gm 1023 (by decide +kernel) rfl
theorem w_1024 : (Cond.methodLink "FairBlocksLaw" (110 : Nat) ({ cls := "FairBlocksModel", name := "fails", desc := "(IIIZ)I" } : MethodName)) ∈ gw := gm 1024 (by decide +kernel) rfl
theorem w_1025 : (Cond.instanceMethod ({ cls := "FairBlocksModel", name := "fails", desc := "(IIIZ)I" } : MethodName)) ∈ gw := gm 1025 (by decide +kernel) rfl
theorem w_1026 : (Cond.selects "FairBlocksModel" ({ cls := "FairBlocksModel", name := "fails", desc := "(IIIZ)I" } : MethodName) ({ cls := "FairBlocksModel", name := "fails", desc := "(IIIZ)I" } : MethodName)) ∈ gw := gm 1026 (by decide +kernel) rfl
theorem w_1027 : (Cond.code ({ cls := "FairBlocksModel", name := "fails", desc := "(IIIZ)I" } : MethodName) prog_14_method_55_code (8 : Nat) (Option.some FieldType.int)) ∈ gw := gm 1027 (by decide +kernel) rfl
theorem w_1028 : (Cond.constantLong "FairBlocksModel" (226 : Nat) (6 : Int64)) ∈ gw := gm 1028 (by decide +kernel) rfl
theorem w_1029 : (Cond.methodLink "FairBlocksModel" (228 : Nat) ({ cls := "FairBlocksModel", name := "power", desc := "(II)I" } : MethodName)) ∈ gw := gm 1029 (by decide +kernel) rfl
theorem w_1030 : (Cond.static ({ cls := "FairBlocksModel", name := "power", desc := "(II)I" } : MethodName)) ∈ gw := gm 1030 (by decide +kernel) rfl
theorem w_1031 : (Cond.code ({ cls := "FairBlocksModel", name := "power", desc := "(II)I" } : MethodName) prog_14_method_5_code (4 : Nat) (Option.some FieldType.int)) ∈ gw := gm 1031 (by decide +kernel) rfl
theorem w_1032 : (Cond.methodLink "FairBlocksLaw" (115 : Nat) ({ cls := "FairBlocksModel", name := "seed", desc := "(J)J" } : MethodName)) ∈ gw := gm 1032 (by decide +kernel) rfl
theorem w_1033 : (Cond.instanceMethod ({ cls := "FairBlocksModel", name := "seed", desc := "(J)J" } : MethodName)) ∈ gw := gm 1033 (by decide +kernel) rfl
theorem w_1034 : (Cond.selects "FairBlocksModel" ({ cls := "FairBlocksModel", name := "seed", desc := "(J)J" } : MethodName) ({ cls := "FairBlocksModel", name := "seed", desc := "(J)J" } : MethodName)) ∈ gw := gm 1034 (by decide +kernel) rfl
theorem w_1035 : (Cond.code ({ cls := "FairBlocksModel", name := "seed", desc := "(J)J" } : MethodName) prog_14_method_56_code (5 : Nat) (Option.some FieldType.long)) ∈ gw := gm 1035 (by decide +kernel) rfl
theorem w_1036 : (Cond.methodLink "FairBlocksLaw" (119 : Nat) ({ cls := "FairBlocksModel", name := "drawn", desc := "(I)I" } : MethodName)) ∈ gw := gm 1036 (by decide +kernel) rfl
theorem w_1037 : (Cond.instanceMethod ({ cls := "FairBlocksModel", name := "drawn", desc := "(I)I" } : MethodName)) ∈ gw := gm 1037 (by decide +kernel) rfl
theorem w_1038 : (Cond.selects "FairBlocksModel" ({ cls := "FairBlocksModel", name := "drawn", desc := "(I)I" } : MethodName) ({ cls := "FairBlocksModel", name := "drawn", desc := "(I)I" } : MethodName)) ∈ gw := gm 1038 (by decide +kernel) rfl
theorem w_1039 : (Cond.code ({ cls := "FairBlocksModel", name := "drawn", desc := "(I)I" } : MethodName) prog_14_method_57_code (6 : Nat) (Option.some FieldType.int)) ∈ gw := gm 1039 (by decide +kernel) rfl
theorem w_1040 : (Cond.constantLong "FairBlocksModel" (235 : Nat) (20 : Int64)) ∈ gw := gm 1040 (by decide +kernel) rfl
theorem w_1041 : (Cond.constantLong "FairBlocksModel" (237 : Nat) (6364136223846793005 : Int64)) ∈ gw := gm 1041 (by decide +kernel) rfl
theorem w_1042 : (Cond.constantLong "FairBlocksModel" (239 : Nat) (1442695040888963407 : Int64)) ∈ gw := gm 1042 (by decide +kernel) rfl
theorem w_1043 : (Cond.methodLink "FairBlocksLaw" (123 : Nat) ({ cls := "FairBlocksModel", name := "keep", desc := "(I)I" } : MethodName)) ∈ gw := gm 1043 (by decide +kernel) rfl
theorem w_1044 : (Cond.instanceMethod ({ cls := "FairBlocksModel", name := "keep", desc := "(I)I" } : MethodName)) ∈ gw := gm 1044 (by decide +kernel) rfl
theorem w_1045 : (Cond.selects "FairBlocksModel" ({ cls := "FairBlocksModel", name := "keep", desc := "(I)I" } : MethodName) ({ cls := "FairBlocksModel", name := "keep", desc := "(I)I" } : MethodName)) ∈ gw := gm 1045 (by decide +kernel) rfl
theorem w_1046 : (Cond.code ({ cls := "FairBlocksModel", name := "keep", desc := "(I)I" } : MethodName) prog_14_method_58_code (3 : Nat) (Option.some FieldType.int)) ∈ gw := gm 1046 (by decide +kernel) rfl
theorem w_1047 : (Cond.methodLink "FairBlocksLaw" (127 : Nat) ({ cls := "FairBlocksModel", name := "again", desc := "(I)I" } : MethodName)) ∈ gw := gm 1047 (by decide +kernel) rfl
theorem w_1048 : (Cond.instanceMethod ({ cls := "FairBlocksModel", name := "again", desc := "(I)I" } : MethodName)) ∈ gw := gm 1048 (by decide +kernel) rfl
theorem w_1049 : (Cond.selects "FairBlocksModel" ({ cls := "FairBlocksModel", name := "again", desc := "(I)I" } : MethodName) ({ cls := "FairBlocksModel", name := "again", desc := "(I)I" } : MethodName)) ∈ gw := gm 1049 (by decide +kernel) rfl
theorem w_1050 : (Cond.code ({ cls := "FairBlocksModel", name := "again", desc := "(I)I" } : MethodName) prog_14_method_59_code (3 : Nat) (Option.some FieldType.int)) ∈ gw := gm 1050 (by decide +kernel) rfl
theorem w_1051 : (Cond.methodLink "FairBlocksLaw" (131 : Nat) ({ cls := "FairBlocksModel", name := "count", desc := "(I)I" } : MethodName)) ∈ gw := gm 1051 (by decide +kernel) rfl
theorem w_1052 : (Cond.instanceMethod ({ cls := "FairBlocksModel", name := "count", desc := "(I)I" } : MethodName)) ∈ gw := gm 1052 (by decide +kernel) rfl
theorem w_1053 : (Cond.selects "FairBlocksModel" ({ cls := "FairBlocksModel", name := "count", desc := "(I)I" } : MethodName) ({ cls := "FairBlocksModel", name := "count", desc := "(I)I" } : MethodName)) ∈ gw := gm 1053 (by decide +kernel) rfl
theorem w_1054 : (Cond.code ({ cls := "FairBlocksModel", name := "count", desc := "(I)I" } : MethodName) prog_14_method_61_code (2 : Nat) (Option.some FieldType.int)) ∈ gw := gm 1054 (by decide +kernel) rfl
theorem w_1055 : (Cond.methodLink "FairBlocksModel" (241 : Nat) ({ cls := "FairBlocksModel", name := "waiting", desc := "()I" } : MethodName)) ∈ gw := gm 1055 (by decide +kernel) rfl
theorem w_1057 : (Cond.instanceMethod ({ cls := "FairBlocksModel", name := "waiting", desc := "()I" } : MethodName)) ∈ gw := gm 1057 (by decide +kernel) rfl
theorem w_1058 : (Cond.code ({ cls := "FairBlocksModel", name := "waiting", desc := "()I" } : MethodName) prog_14_method_60_code (3 : Nat) (Option.some FieldType.int)) ∈ gw := gm 1058 (by decide +kernel) rfl
theorem w_1059 : (Cond.constantLong "FairBlocksLaw" (81 : Nat) (4294967295 : Int64)) ∈ gw := gm 1059 (by decide +kernel) rfl
theorem wt_87 : (Cond.arrayOver (FieldType.object "FairBlocks$User")) ∈ lw_tbl := List.mem_append_right _ (List.mem_of_getElem? (i := 87) (by decide +kernel))
theorem wt_221 : (Cond.arrayOver (FieldType.object "FairBlocks$Standing")) ∈ lw_tbl := List.mem_append_right _ (List.mem_of_getElem? (i := 221) (by decide +kernel))
theorem wt_654 : (Cond.laysStatic "FairBlocks" "FACTORIALS" "[I") ∈ lw_tbl := List.mem_append_right _ (List.mem_of_getElem? (i := 654) (by decide +kernel))
theorem wp_0 : Cond.selects (⟨"FairBlocks$Text", "figure", "(I)I"⟩ : MethodName).cls ⟨"FairBlocks$Text", "figure", "(I)I"⟩ ⟨"FairBlocks$Text", "figure", "(I)I"⟩ ∈ gw := gmp 0 (by decide +kernel) rfl
theorem wp_1 : Cond.selects (⟨"FairBlocks$Scheduler", "comeIn", "(LFairBlocks$Standing;)V"⟩ : MethodName).cls ⟨"FairBlocks$Scheduler", "comeIn", "(LFairBlocks$Standing;)V"⟩ ⟨"FairBlocks$Scheduler", "comeIn", "(LFairBlocks$Standing;)V"⟩ ∈ gw := gmp 1 (by decide +kernel) rfl
theorem wp_2 : Cond.selects (⟨"FairBlocks$Scheduler", "dueFor", "(LFairBlocks$Standing;I)I"⟩ : MethodName).cls ⟨"FairBlocks$Scheduler", "dueFor", "(LFairBlocks$Standing;I)I"⟩ ⟨"FairBlocks$Scheduler", "dueFor", "(LFairBlocks$Standing;I)I"⟩ ∈ gw := gmp 2 (by decide +kernel) rfl
theorem wp_3 : Cond.selects (⟨"FairBlocks$Scheduler", "mayHave", "(LFairBlocks$User;II)Z"⟩ : MethodName).cls ⟨"FairBlocks$Scheduler", "mayHave", "(LFairBlocks$User;II)Z"⟩ ⟨"FairBlocks$Scheduler", "mayHave", "(LFairBlocks$User;II)Z"⟩ ∈ gw := gmp 3 (by decide +kernel) rfl
theorem wp_4 : Cond.selects (⟨"FairBlocks$Scheduler", "isBefore", "(LFairBlocks$Standing;II)Z"⟩ : MethodName).cls ⟨"FairBlocks$Scheduler", "isBefore", "(LFairBlocks$Standing;II)Z"⟩ ⟨"FairBlocks$Scheduler", "isBefore", "(LFairBlocks$Standing;II)Z"⟩ ∈ gw := gmp 4 (by decide +kernel) rfl
theorem wp_5 : Cond.selects (⟨"FairBlocks$Scheduler", "endSlot", "(LFairBlocks$Standing;)I"⟩ : MethodName).cls ⟨"FairBlocks$Scheduler", "endSlot", "(LFairBlocks$Standing;)I"⟩ ⟨"FairBlocks$Scheduler", "endSlot", "(LFairBlocks$Standing;)I"⟩ ∈ gw := gmp 5 (by decide +kernel) rfl
theorem wp_6 : Cond.selects (⟨"FairBlocks$Outlook", "leastGain", "(LFairBlocks$Standing;)I"⟩ : MethodName).cls ⟨"FairBlocks$Outlook", "leastGain", "(LFairBlocks$Standing;)I"⟩ ⟨"FairBlocks$Outlook", "leastGain", "(LFairBlocks$Standing;)I"⟩ ∈ gw := gmp 6 (by decide +kernel) rfl
theorem wp_7 : Cond.selects (⟨"FairBlocks$Court", "holds", "(LFairBlocks$Standing;III)Z"⟩ : MethodName).cls ⟨"FairBlocks$Court", "holds", "(LFairBlocks$Standing;III)Z"⟩ ⟨"FairBlocks$Court", "holds", "(LFairBlocks$Standing;III)Z"⟩ ∈ gw := gmp 7 (by decide +kernel) rfl
theorem wp_8 : Cond.selects (⟨"FairBlocks$Court", "holderBehind", "(LFairBlocks$Standing;I)I"⟩ : MethodName).cls ⟨"FairBlocks$Court", "holderBehind", "(LFairBlocks$Standing;I)I"⟩ ⟨"FairBlocks$Court", "holderBehind", "(LFairBlocks$Standing;I)I"⟩ ∈ gw := gmp 8 (by decide +kernel) rfl
theorem wp_9 : Cond.selects (⟨"FairBlocks$Sightings", "fits", "(I)Z"⟩ : MethodName).cls ⟨"FairBlocks$Sightings", "fits", "(I)Z"⟩ ⟨"FairBlocks$Sightings", "fits", "(I)Z"⟩ ∈ gw := gmp 9 (by decide +kernel) rfl
theorem wp_10 : Cond.selects (⟨"FairBlocks$Sightings", "lastSlot", "()I"⟩ : MethodName).cls ⟨"FairBlocks$Sightings", "lastSlot", "()I"⟩ ⟨"FairBlocks$Sightings", "lastSlot", "()I"⟩ ∈ gw := gmp 10 (by decide +kernel) rfl
theorem wp_11 : Cond.selects (⟨"FairBlocks$Sightings", "fitsBehind", "(LFairBlocks$Standing;I)Z"⟩ : MethodName).cls ⟨"FairBlocks$Sightings", "fitsBehind", "(LFairBlocks$Standing;I)Z"⟩ ⟨"FairBlocks$Sightings", "fitsBehind", "(LFairBlocks$Standing;I)Z"⟩ ∈ gw := gmp 11 (by decide +kernel) rfl
theorem wp_12 : Cond.selects (⟨"FairBlocks$Chances", "gotWith", "(I)I"⟩ : MethodName).cls ⟨"FairBlocks$Chances", "gotWith", "(I)I"⟩ ⟨"FairBlocks$Chances", "gotWith", "(I)I"⟩ ∈ gw := gmp 12 (by decide +kernel) rfl
theorem wp_13 : Cond.selects (⟨"FairBlocks$Chances", "isEmptyBehind", "(III)Z"⟩ : MethodName).cls ⟨"FairBlocks$Chances", "isEmptyBehind", "(III)Z"⟩ ⟨"FairBlocks$Chances", "isEmptyBehind", "(III)Z"⟩ ∈ gw := gmp 13 (by decide +kernel) rfl
theorem wp_14 : Cond.selects (⟨"FairBlocksModel", "readCell", "()I"⟩ : MethodName).cls ⟨"FairBlocksModel", "readCell", "()I"⟩ ⟨"FairBlocksModel", "readCell", "()I"⟩ ∈ gw := gmp 14 (by decide +kernel) rfl
theorem wp_15 : Cond.selects (⟨"FairBlocksModel", "readHead", "()Z"⟩ : MethodName).cls ⟨"FairBlocksModel", "readHead", "()Z"⟩ ⟨"FairBlocksModel", "readHead", "()Z"⟩ ∈ gw := gmp 15 (by decide +kernel) rfl
theorem wp_16 : Cond.selects (⟨"FairBlocksModel", "figure", "(II)I"⟩ : MethodName).cls ⟨"FairBlocksModel", "figure", "(II)I"⟩ ⟨"FairBlocksModel", "figure", "(II)I"⟩ ∈ gw := gmp 16 (by decide +kernel) rfl
theorem wp_17 : Cond.selects (⟨"FairBlocksModel", "readUser", "()Z"⟩ : MethodName).cls ⟨"FairBlocksModel", "readUser", "()Z"⟩ ⟨"FairBlocksModel", "readUser", "()Z"⟩ ∈ gw := gmp 17 (by decide +kernel) rfl
theorem wp_18 : Cond.selects (⟨"FairBlocksModel", "noUser", "(I)Z"⟩ : MethodName).cls ⟨"FairBlocksModel", "noUser", "(I)Z"⟩ ⟨"FairBlocksModel", "noUser", "(I)Z"⟩ ∈ gw := gmp 18 (by decide +kernel) rfl
theorem wp_19 : Cond.selects (⟨"FairBlocksModel", "rateOf", "([II)I"⟩ : MethodName).cls ⟨"FairBlocksModel", "rateOf", "([II)I"⟩ ⟨"FairBlocksModel", "rateOf", "([II)I"⟩ ∈ gw := gmp 19 (by decide +kernel) rfl
theorem wp_20 : Cond.selects (⟨"FairBlocksModel", "note", "()V"⟩ : MethodName).cls ⟨"FairBlocksModel", "note", "()V"⟩ ⟨"FairBlocksModel", "note", "()V"⟩ ∈ gw := gmp 20 (by decide +kernel) rfl
theorem wp_21 : Cond.selects (⟨"FairBlocksModel", "slotsOn", "([II)I"⟩ : MethodName).cls ⟨"FairBlocksModel", "slotsOn", "([II)I"⟩ ⟨"FairBlocksModel", "slotsOn", "([II)I"⟩ ∈ gw := gmp 21 (by decide +kernel) rfl
theorem wp_22 : Cond.selects (⟨"FairBlocksModel", "slotOn", "([IZ)I"⟩ : MethodName).cls ⟨"FairBlocksModel", "slotOn", "([IZ)I"⟩ ⟨"FairBlocksModel", "slotOn", "([IZ)I"⟩ ∈ gw := gmp 22 (by decide +kernel) rfl
theorem wp_23 : Cond.selects (⟨"FairBlocksModel", "whoHas", "([II)I"⟩ : MethodName).cls ⟨"FairBlocksModel", "whoHas", "([II)I"⟩ ⟨"FairBlocksModel", "whoHas", "([II)I"⟩ ∈ gw := gmp 23 (by decide +kernel) rfl
theorem wp_24 : Cond.selects (⟨"FairBlocksModel", "may", "([III)Z"⟩ : MethodName).cls ⟨"FairBlocksModel", "may", "([III)Z"⟩ ⟨"FairBlocksModel", "may", "([III)Z"⟩ ∈ gw := gmp 24 (by decide +kernel) rfl
theorem wp_25 : Cond.selects (⟨"FairBlocksModel", "hadSome", "(II)Z"⟩ : MethodName).cls ⟨"FairBlocksModel", "hadSome", "(II)Z"⟩ ⟨"FairBlocksModel", "hadSome", "(II)Z"⟩ ∈ gw := gmp 25 (by decide +kernel) rfl
theorem wp_26 : Cond.selects (⟨"FairBlocksModel", "urgent", "([II)I"⟩ : MethodName).cls ⟨"FairBlocksModel", "urgent", "([II)I"⟩ ⟨"FairBlocksModel", "urgent", "([II)I"⟩ ∈ gw := gmp 26 (by decide +kernel) rfl
theorem wp_27 : Cond.selects (⟨"FairBlocksModel", "isDue", "([III)Z"⟩ : MethodName).cls ⟨"FairBlocksModel", "isDue", "([III)Z"⟩ ⟨"FairBlocksModel", "isDue", "([III)Z"⟩ ∈ gw := gmp 27 (by decide +kernel) rfl
theorem wp_28 : Cond.selects (⟨"FairBlocksModel", "sends", "([II)V"⟩ : MethodName).cls ⟨"FairBlocksModel", "sends", "([II)V"⟩ ⟨"FairBlocksModel", "sends", "([II)V"⟩ ∈ gw := gmp 28 (by decide +kernel) rfl
theorem wp_29 : Cond.selects (⟨"FairBlocksModel", "layTrial", "()V"⟩ : MethodName).cls ⟨"FairBlocksModel", "layTrial", "()V"⟩ ⟨"FairBlocksModel", "layTrial", "()V"⟩ ∈ gw := gmp 29 (by decide +kernel) rfl
theorem wp_30 : Cond.selects (⟨"FairBlocksModel", "whoNext", "([II)I"⟩ : MethodName).cls ⟨"FairBlocksModel", "whoNext", "([II)I"⟩ ⟨"FairBlocksModel", "whoNext", "([II)I"⟩ ∈ gw := gmp 30 (by decide +kernel) rfl
theorem wp_31 : Cond.selects (⟨"FairBlocksModel", "does", "(III)Z"⟩ : MethodName).cls ⟨"FairBlocksModel", "does", "(III)Z"⟩ ⟨"FairBlocksModel", "does", "(III)Z"⟩ ∈ gw := gmp 31 (by decide +kernel) rfl
theorem wp_32 : Cond.selects (⟨"FairBlocksModel", "whoTried", "(I)I"⟩ : MethodName).cls ⟨"FairBlocksModel", "whoTried", "(I)I"⟩ ⟨"FairBlocksModel", "whoTried", "(I)I"⟩ ∈ gw := gmp 32 (by decide +kernel) rfl
theorem wp_33 : Cond.selects (⟨"FairBlocksModel", "isSo", "(II)Z"⟩ : MethodName).cls ⟨"FairBlocksModel", "isSo", "(II)Z"⟩ ⟨"FairBlocksModel", "isSo", "(II)Z"⟩ ∈ gw := gmp 33 (by decide +kernel) rfl
theorem wp_34 : Cond.selects (⟨"FairBlocksModel", "offOnes", "()I"⟩ : MethodName).cls ⟨"FairBlocksModel", "offOnes", "()I"⟩ ⟨"FairBlocksModel", "offOnes", "()I"⟩ ∈ gw := gmp 34 (by decide +kernel) rfl
theorem wp_35 : Cond.selects (⟨"FairBlocksModel", "gotBy", "(I)I"⟩ : MethodName).cls ⟨"FairBlocksModel", "gotBy", "(I)I"⟩ ⟨"FairBlocksModel", "gotBy", "(I)I"⟩ ∈ gw := gmp 35 (by decide +kernel) rfl
theorem wp_36 : Cond.selects (⟨"FairBlocksModel", "waiting", "()I"⟩ : MethodName).cls ⟨"FairBlocksModel", "waiting", "()I"⟩ ⟨"FairBlocksModel", "waiting", "()I"⟩ ∈ gw := gmp 36 (by decide +kernel) rfl
theorem inX0 : ∀ w ∈ u_ws RX0 TX0 3, w ∈ gw := by
  intro w hw
  have h : u_ws RX0 TX0 3 = ([227, 229, 231] : List Nat).filterMap (fun i => tables_1[i]?) := by decide +kernel
  have hg : (u_ws RX0 TX0 3).all goodWord = true := by decide +kernel
  have g := List.all_eq_true.mp hg w hw
  rw [h] at hw
  obtain ⟨i, -, hi⟩ := List.mem_filterMap.mp hw
  exact gm i hi g
theorem inX1 : ∀ w ∈ u_ws RX1 TX1 4, w ∈ gw := by
  intro w hw
  have h : u_ws RX1 TX1 4 = ([205, 207, 209, 211] : List Nat).filterMap (fun i => tables_1[i]?) := by decide +kernel
  have hg : (u_ws RX1 TX1 4).all goodWord = true := by decide +kernel
  have g := List.all_eq_true.mp hg w hw
  rw [h] at hw
  obtain ⟨i, -, hi⟩ := List.mem_filterMap.mp hw
  exact gm i hi g
theorem inX2 : ∀ w ∈ u_ws RX2 TX2 1, w ∈ gw := by
  intro w hw
  have h : u_ws RX2 TX2 1 = ([298] : List Nat).filterMap (fun i => tables_1[i]?) := by decide +kernel
  have hg : (u_ws RX2 TX2 1).all goodWord = true := by decide +kernel
  have g := List.all_eq_true.mp hg w hw
  rw [h] at hw
  obtain ⟨i, -, hi⟩ := List.mem_filterMap.mp hw
  exact gm i hi g
theorem inX3 : ∀ w ∈ u_ws RX3 TX3 2, w ∈ gw := by
  intro w hw
  have h : u_ws RX3 TX3 2 = ([257, 259] : List Nat).filterMap (fun i => tables_1[i]?) := by decide +kernel
  have hg : (u_ws RX3 TX3 2).all goodWord = true := by decide +kernel
  have g := List.all_eq_true.mp hg w hw
  rw [h] at hw
  obtain ⟨i, -, hi⟩ := List.mem_filterMap.mp hw
  exact gm i hi g
theorem inX4 : ∀ w ∈ u_ws RX4 TX4 1, w ∈ gw := by
  intro w hw
  have h : u_ws RX4 TX4 1 = ([243] : List Nat).filterMap (fun i => tables_1[i]?) := by decide +kernel
  have hg : (u_ws RX4 TX4 1).all goodWord = true := by decide +kernel
  have g := List.all_eq_true.mp hg w hw
  rw [h] at hw
  obtain ⟨i, -, hi⟩ := List.mem_filterMap.mp hw
  exact gm i hi g
theorem inX5 : ∀ w ∈ u_ws RX5 TX5 5, w ∈ gw := by
  intro w hw
  have h : u_ws RX5 TX5 5 = ([69, 71, 73, 75, 77] : List Nat).filterMap (fun i => tables_1[i]?) := by decide +kernel
  have hg : (u_ws RX5 TX5 5).all goodWord = true := by decide +kernel
  have g := List.all_eq_true.mp hg w hw
  rw [h] at hw
  obtain ⟨i, -, hi⟩ := List.mem_filterMap.mp hw
  exact gm i hi g
theorem inX6 : ∀ w ∈ u_ws RX6 TX6 5, w ∈ gw := by
  intro w hw
  have h : u_ws RX6 TX6 5 = ([176, 178, 180, 182, 184] : List Nat).filterMap (fun i => tables_1[i]?) := by decide +kernel
  have hg : (u_ws RX6 TX6 5).all goodWord = true := by decide +kernel
  have g := List.all_eq_true.mp hg w hw
  rw [h] at hw
  obtain ⟨i, -, hi⟩ := List.mem_filterMap.mp hw
  exact gm i hi g
theorem inX7 : ∀ w ∈ u_ws RX7 TX7 7, w ∈ gw := by
  intro w hw
  have h : u_ws RX7 TX7 7 = ([276, 278, 280, 282, 284, 286, 288] : List Nat).filterMap (fun i => tables_1[i]?) := by decide +kernel
  have hg : (u_ws RX7 TX7 7).all goodWord = true := by decide +kernel
  have g := List.all_eq_true.mp hg w hw
  rw [h] at hw
  obtain ⟨i, -, hi⟩ := List.mem_filterMap.mp hw
  exact gm i hi g
theorem inX8 : ∀ w ∈ u_ws RX8 TX8 3, w ∈ gw := by
  intro w hw
  have h : u_ws RX8 TX8 3 = ([158, 160, 162] : List Nat).filterMap (fun i => tables_1[i]?) := by decide +kernel
  have hg : (u_ws RX8 TX8 3).all goodWord = true := by decide +kernel
  have g := List.all_eq_true.mp hg w hw
  rw [h] at hw
  obtain ⟨i, -, hi⟩ := List.mem_filterMap.mp hw
  exact gm i hi g
theorem inX9 : ∀ w ∈ u_ws RX9 TX9 2, w ∈ gw := by
  intro w hw
  have h : u_ws RX9 TX9 2 = ([33, 35] : List Nat).filterMap (fun i => tables_1[i]?) := by decide +kernel
  have hg : (u_ws RX9 TX9 2).all goodWord = true := by decide +kernel
  have g := List.all_eq_true.mp hg w hw
  rw [h] at hw
  obtain ⟨i, -, hi⟩ := List.mem_filterMap.mp hw
  exact gm i hi g
theorem inX10 : ∀ w ∈ u_ws RX10 TX10 10, w ∈ gw := by
  intro w hw
  have h : u_ws RX10 TX10 10 = ([121, 123, 125, 127, 129, 131, 133, 135, 137, 139] : List Nat).filterMap (fun i => tables_1[i]?) := by decide +kernel
  have hg : (u_ws RX10 TX10 10).all goodWord = true := by decide +kernel
  have g := List.all_eq_true.mp hg w hw
  rw [h] at hw
  obtain ⟨i, -, hi⟩ := List.mem_filterMap.mp hw
  exact gm i hi g
theorem inX11 : ∀ w ∈ u_ws RX11 TX11 12, w ∈ gw := by
  intro w hw
  have h : u_ws RX11 TX11 12 = ([313, 315, 317, 319, 321, 323, 325, 327, 329, 331, 333, 335] : List Nat).filterMap (fun i => tables_1[i]?) := by decide +kernel
  have hg : (u_ws RX11 TX11 12).all goodWord = true := by decide +kernel
  have g := List.all_eq_true.mp hg w hw
  rw [h] at hw
  obtain ⟨i, -, hi⟩ := List.mem_filterMap.mp hw
  exact gm i hi g
theorem inX12 : ∀ w ∈ u_ws RX12 TX12 32, w ∈ gw := by
  intro w hw
  have h : u_ws RX12 TX12 32 = ([755, 757, 759, 761, 763, 765, 767, 769, 771, 773, 775, 777, 779, 781, 783, 785, 787, 789, 791, 793, 795, 797, 799, 801, 803, 805, 807, 809, 811, 813, 815, 817] : List Nat).filterMap (fun i => tables_1[i]?) := by decide +kernel
  have hg : (u_ws RX12 TX12 32).all goodWord = true := by decide +kernel
  have g := List.all_eq_true.mp hg w hw
  rw [h] at hw
  obtain ⟨i, -, hi⟩ := List.mem_filterMap.mp hw
  exact gm i hi g
