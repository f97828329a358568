section
-- ===== PART A: goes FIRST, ahead of the names: the tables' words, and 'selects' of the private methods out of them =====
/-- a private method of a class that the tables say can be made, by its rows of tables_1 -/
def lw_okq (q : MethodName × Nat) : Prop := (q.1.cls ≠ "java/lang/invoke/MethodHandle" ∧ q.1.cls ≠ "java/lang/invoke/VarHandle") ∧ Cond.instantiable q.1.cls q.2 ∈ tables_1 ∧ Cond.privateMethod q.1 ∈ tables_1 ∧ Cond.instanceMethod q.1 ∈ tables_1
theorem lw_p0 : lw_okq (⟨"FairBlocks$Text", "figure", "(I)I"⟩, 2) := ⟨⟨by decide +kernel, by decide +kernel⟩, List.mem_of_getElem? (i := 25) (by decide +kernel), List.mem_of_getElem? (i := 377) (by decide +kernel), List.mem_of_getElem? (i := 378) (by decide +kernel)⟩
theorem lw_p1 : lw_okq (⟨"FairBlocks$Scheduler", "comeIn", "(LFairBlocks$Standing;)V"⟩, 5) := ⟨⟨by decide +kernel, by decide +kernel⟩, List.mem_of_getElem? (i := 166) (by decide +kernel), List.mem_of_getElem? (i := 434) (by decide +kernel), List.mem_of_getElem? (i := 435) (by decide +kernel)⟩
theorem lw_p2 : lw_okq (⟨"FairBlocks$Scheduler", "dueFor", "(LFairBlocks$Standing;I)I"⟩, 5) := ⟨⟨by decide +kernel, by decide +kernel⟩, List.mem_of_getElem? (i := 166) (by decide +kernel), List.mem_of_getElem? (i := 443) (by decide +kernel), List.mem_of_getElem? (i := 444) (by decide +kernel)⟩
theorem lw_p3 : lw_okq (⟨"FairBlocks$Scheduler", "mayHave", "(LFairBlocks$User;II)Z"⟩, 5) := ⟨⟨by decide +kernel, by decide +kernel⟩, List.mem_of_getElem? (i := 166) (by decide +kernel), List.mem_of_getElem? (i := 447) (by decide +kernel), List.mem_of_getElem? (i := 448) (by decide +kernel)⟩
theorem lw_p4 : lw_okq (⟨"FairBlocks$Scheduler", "isBefore", "(LFairBlocks$Standing;II)Z"⟩, 5) := ⟨⟨by decide +kernel, by decide +kernel⟩, List.mem_of_getElem? (i := 166) (by decide +kernel), List.mem_of_getElem? (i := 451) (by decide +kernel), List.mem_of_getElem? (i := 452) (by decide +kernel)⟩
theorem lw_p5 : lw_okq (⟨"FairBlocks$Scheduler", "endSlot", "(LFairBlocks$Standing;)I"⟩, 5) := ⟨⟨by decide +kernel, by decide +kernel⟩, List.mem_of_getElem? (i := 166) (by decide +kernel), List.mem_of_getElem? (i := 462) (by decide +kernel), List.mem_of_getElem? (i := 463) (by decide +kernel)⟩
theorem lw_p6 : lw_okq (⟨"FairBlocks$Outlook", "leastGain", "(LFairBlocks$Standing;)I"⟩, 1) := ⟨⟨by decide +kernel, by decide +kernel⟩, List.mem_of_getElem? (i := 237) (by decide +kernel), List.mem_of_getElem? (i := 553) (by decide +kernel), List.mem_of_getElem? (i := 554) (by decide +kernel)⟩
theorem lw_p7 : lw_okq (⟨"FairBlocks$Court", "holds", "(LFairBlocks$Standing;III)Z"⟩, 2) := ⟨⟨by decide +kernel, by decide +kernel⟩, List.mem_of_getElem? (i := 248) (by decide +kernel), List.mem_of_getElem? (i := 572) (by decide +kernel), List.mem_of_getElem? (i := 573) (by decide +kernel)⟩
theorem lw_p8 : lw_okq (⟨"FairBlocks$Court", "holderBehind", "(LFairBlocks$Standing;I)I"⟩, 2) := ⟨⟨by decide +kernel, by decide +kernel⟩, List.mem_of_getElem? (i := 248) (by decide +kernel), List.mem_of_getElem? (i := 585) (by decide +kernel), List.mem_of_getElem? (i := 586) (by decide +kernel)⟩
theorem lw_p9 : lw_okq (⟨"FairBlocks$Sightings", "fits", "(I)Z"⟩, 7) := ⟨⟨by decide +kernel, by decide +kernel⟩, List.mem_of_getElem? (i := 263) (by decide +kernel), List.mem_of_getElem? (i := 613) (by decide +kernel), List.mem_of_getElem? (i := 614) (by decide +kernel)⟩
theorem lw_p10 : lw_okq (⟨"FairBlocks$Sightings", "lastSlot", "()I"⟩, 7) := ⟨⟨by decide +kernel, by decide +kernel⟩, List.mem_of_getElem? (i := 263) (by decide +kernel), List.mem_of_getElem? (i := 618) (by decide +kernel), List.mem_of_getElem? (i := 619) (by decide +kernel)⟩
theorem lw_p11 : lw_okq (⟨"FairBlocks$Sightings", "fitsBehind", "(LFairBlocks$Standing;I)Z"⟩, 7) := ⟨⟨by decide +kernel, by decide +kernel⟩, List.mem_of_getElem? (i := 263) (by decide +kernel), List.mem_of_getElem? (i := 624) (by decide +kernel), List.mem_of_getElem? (i := 625) (by decide +kernel)⟩
theorem lw_p12 : lw_okq (⟨"FairBlocks$Chances", "gotWith", "(I)I"⟩, 1) := ⟨⟨by decide +kernel, by decide +kernel⟩, List.mem_of_getElem? (i := 292) (by decide +kernel), List.mem_of_getElem? (i := 654) (by decide +kernel), List.mem_of_getElem? (i := 655) (by decide +kernel)⟩
theorem lw_p13 : lw_okq (⟨"FairBlocks$Chances", "isEmptyBehind", "(III)Z"⟩, 1) := ⟨⟨by decide +kernel, by decide +kernel⟩, List.mem_of_getElem? (i := 292) (by decide +kernel), List.mem_of_getElem? (i := 680) (by decide +kernel), List.mem_of_getElem? (i := 681) (by decide +kernel)⟩
theorem lw_p14 : lw_okq (⟨"FairBlocksModel", "readCell", "()I"⟩, 32) := ⟨⟨by decide +kernel, by decide +kernel⟩, List.mem_of_getElem? (i := 716) (by decide +kernel), List.mem_of_getElem? (i := 835) (by decide +kernel), List.mem_of_getElem? (i := 836) (by decide +kernel)⟩
theorem lw_p15 : lw_okq (⟨"FairBlocksModel", "readHead", "()Z"⟩, 32) := ⟨⟨by decide +kernel, by decide +kernel⟩, List.mem_of_getElem? (i := 716) (by decide +kernel), List.mem_of_getElem? (i := 839) (by decide +kernel), List.mem_of_getElem? (i := 840) (by decide +kernel)⟩
def lw_privs_1 : List (MethodName × Nat) := [(⟨"FairBlocks$Text", "figure", "(I)I"⟩, 2), (⟨"FairBlocks$Scheduler", "comeIn", "(LFairBlocks$Standing;)V"⟩, 5), (⟨"FairBlocks$Scheduler", "dueFor", "(LFairBlocks$Standing;I)I"⟩, 5), (⟨"FairBlocks$Scheduler", "mayHave", "(LFairBlocks$User;II)Z"⟩, 5), (⟨"FairBlocks$Scheduler", "isBefore", "(LFairBlocks$Standing;II)Z"⟩, 5), (⟨"FairBlocks$Scheduler", "endSlot", "(LFairBlocks$Standing;)I"⟩, 5), (⟨"FairBlocks$Outlook", "leastGain", "(LFairBlocks$Standing;)I"⟩, 1), (⟨"FairBlocks$Court", "holds", "(LFairBlocks$Standing;III)Z"⟩, 2), (⟨"FairBlocks$Court", "holderBehind", "(LFairBlocks$Standing;I)I"⟩, 2), (⟨"FairBlocks$Sightings", "fits", "(I)Z"⟩, 7), (⟨"FairBlocks$Sightings", "lastSlot", "()I"⟩, 7), (⟨"FairBlocks$Sightings", "fitsBehind", "(LFairBlocks$Standing;I)Z"⟩, 7), (⟨"FairBlocks$Chances", "gotWith", "(I)I"⟩, 1), (⟨"FairBlocks$Chances", "isEmptyBehind", "(III)Z"⟩, 1), (⟨"FairBlocksModel", "readCell", "()I"⟩, 32), (⟨"FairBlocksModel", "readHead", "()Z"⟩, 32)]
theorem lw_r1 : ∀ q ∈ lw_privs_1, lw_okq q := List.forall_mem_cons.mpr ⟨lw_p0, List.forall_mem_cons.mpr ⟨lw_p1, List.forall_mem_cons.mpr ⟨lw_p2, List.forall_mem_cons.mpr ⟨lw_p3, List.forall_mem_cons.mpr ⟨lw_p4, List.forall_mem_cons.mpr ⟨lw_p5, List.forall_mem_cons.mpr ⟨lw_p6, List.forall_mem_cons.mpr ⟨lw_p7, List.forall_mem_cons.mpr ⟨lw_p8, List.forall_mem_cons.mpr ⟨lw_p9, List.forall_mem_cons.mpr ⟨lw_p10, List.forall_mem_cons.mpr ⟨lw_p11, List.forall_mem_cons.mpr ⟨lw_p12, List.forall_mem_cons.mpr ⟨lw_p13, List.forall_mem_cons.mpr ⟨lw_p14, List.forall_mem_cons.mpr ⟨lw_p15, fun _ h => absurd h List.not_mem_nil⟩⟩⟩⟩⟩⟩⟩⟩⟩⟩⟩⟩⟩⟩⟩⟩
theorem lw_p16 : lw_okq (⟨"FairBlocksModel", "figure", "(II)I"⟩, 32) := ⟨⟨by decide +kernel, by decide +kernel⟩, List.mem_of_getElem? (i := 716) (by decide +kernel), List.mem_of_getElem? (i := 843) (by decide +kernel), List.mem_of_getElem? (i := 844) (by decide +kernel)⟩
theorem lw_p17 : lw_okq (⟨"FairBlocksModel", "readUser", "()Z"⟩, 32) := ⟨⟨by decide +kernel, by decide +kernel⟩, List.mem_of_getElem? (i := 716) (by decide +kernel), List.mem_of_getElem? (i := 847) (by decide +kernel), List.mem_of_getElem? (i := 848) (by decide +kernel)⟩
theorem lw_p18 : lw_okq (⟨"FairBlocksModel", "noUser", "(I)Z"⟩, 32) := ⟨⟨by decide +kernel, by decide +kernel⟩, List.mem_of_getElem? (i := 716) (by decide +kernel), List.mem_of_getElem? (i := 859) (by decide +kernel), List.mem_of_getElem? (i := 860) (by decide +kernel)⟩
theorem lw_p19 : lw_okq (⟨"FairBlocksModel", "rateOf", "([II)I"⟩, 32) := ⟨⟨by decide +kernel, by decide +kernel⟩, List.mem_of_getElem? (i := 716) (by decide +kernel), List.mem_of_getElem? (i := 864) (by decide +kernel), List.mem_of_getElem? (i := 865) (by decide +kernel)⟩
theorem lw_p20 : lw_okq (⟨"FairBlocksModel", "note", "()V"⟩, 32) := ⟨⟨by decide +kernel, by decide +kernel⟩, List.mem_of_getElem? (i := 716) (by decide +kernel), List.mem_of_getElem? (i := 873) (by decide +kernel), List.mem_of_getElem? (i := 874) (by decide +kernel)⟩
theorem lw_p21 : lw_okq (⟨"FairBlocksModel", "slotsOn", "([II)I"⟩, 32) := ⟨⟨by decide +kernel, by decide +kernel⟩, List.mem_of_getElem? (i := 716) (by decide +kernel), List.mem_of_getElem? (i := 877) (by decide +kernel), List.mem_of_getElem? (i := 878) (by decide +kernel)⟩
theorem lw_p22 : lw_okq (⟨"FairBlocksModel", "slotOn", "([IZ)I"⟩, 32) := ⟨⟨by decide +kernel, by decide +kernel⟩, List.mem_of_getElem? (i := 716) (by decide +kernel), List.mem_of_getElem? (i := 881) (by decide +kernel), List.mem_of_getElem? (i := 882) (by decide +kernel)⟩
theorem lw_p23 : lw_okq (⟨"FairBlocksModel", "whoHas", "([II)I"⟩, 32) := ⟨⟨by decide +kernel, by decide +kernel⟩, List.mem_of_getElem? (i := 716) (by decide +kernel), List.mem_of_getElem? (i := 885) (by decide +kernel), List.mem_of_getElem? (i := 886) (by decide +kernel)⟩
theorem lw_p24 : lw_okq (⟨"FairBlocksModel", "may", "([III)Z"⟩, 32) := ⟨⟨by decide +kernel, by decide +kernel⟩, List.mem_of_getElem? (i := 716) (by decide +kernel), List.mem_of_getElem? (i := 889) (by decide +kernel), List.mem_of_getElem? (i := 890) (by decide +kernel)⟩
theorem lw_p25 : lw_okq (⟨"FairBlocksModel", "hadSome", "(II)Z"⟩, 32) := ⟨⟨by decide +kernel, by decide +kernel⟩, List.mem_of_getElem? (i := 716) (by decide +kernel), List.mem_of_getElem? (i := 896) (by decide +kernel), List.mem_of_getElem? (i := 897) (by decide +kernel)⟩
theorem lw_p26 : lw_okq (⟨"FairBlocksModel", "urgent", "([II)I"⟩, 32) := ⟨⟨by decide +kernel, by decide +kernel⟩, List.mem_of_getElem? (i := 716) (by decide +kernel), List.mem_of_getElem? (i := 900) (by decide +kernel), List.mem_of_getElem? (i := 901) (by decide +kernel)⟩
theorem lw_p27 : lw_okq (⟨"FairBlocksModel", "isDue", "([III)Z"⟩, 32) := ⟨⟨by decide +kernel, by decide +kernel⟩, List.mem_of_getElem? (i := 716) (by decide +kernel), List.mem_of_getElem? (i := 904) (by decide +kernel), List.mem_of_getElem? (i := 905) (by decide +kernel)⟩
theorem lw_p28 : lw_okq (⟨"FairBlocksModel", "sends", "([II)V"⟩, 32) := ⟨⟨by decide +kernel, by decide +kernel⟩, List.mem_of_getElem? (i := 716) (by decide +kernel), List.mem_of_getElem? (i := 908) (by decide +kernel), List.mem_of_getElem? (i := 909) (by decide +kernel)⟩
theorem lw_p29 : lw_okq (⟨"FairBlocksModel", "layTrial", "()V"⟩, 32) := ⟨⟨by decide +kernel, by decide +kernel⟩, List.mem_of_getElem? (i := 716) (by decide +kernel), List.mem_of_getElem? (i := 939) (by decide +kernel), List.mem_of_getElem? (i := 940) (by decide +kernel)⟩
theorem lw_p30 : lw_okq (⟨"FairBlocksModel", "whoNext", "([II)I"⟩, 32) := ⟨⟨by decide +kernel, by decide +kernel⟩, List.mem_of_getElem? (i := 716) (by decide +kernel), List.mem_of_getElem? (i := 947) (by decide +kernel), List.mem_of_getElem? (i := 948) (by decide +kernel)⟩
theorem lw_p31 : lw_okq (⟨"FairBlocksModel", "does", "(III)Z"⟩, 32) := ⟨⟨by decide +kernel, by decide +kernel⟩, List.mem_of_getElem? (i := 716) (by decide +kernel), List.mem_of_getElem? (i := 972) (by decide +kernel), List.mem_of_getElem? (i := 973) (by decide +kernel)⟩
def lw_privs_2 : List (MethodName × Nat) := [(⟨"FairBlocksModel", "figure", "(II)I"⟩, 32), (⟨"FairBlocksModel", "readUser", "()Z"⟩, 32), (⟨"FairBlocksModel", "noUser", "(I)Z"⟩, 32), (⟨"FairBlocksModel", "rateOf", "([II)I"⟩, 32), (⟨"FairBlocksModel", "note", "()V"⟩, 32), (⟨"FairBlocksModel", "slotsOn", "([II)I"⟩, 32), (⟨"FairBlocksModel", "slotOn", "([IZ)I"⟩, 32), (⟨"FairBlocksModel", "whoHas", "([II)I"⟩, 32), (⟨"FairBlocksModel", "may", "([III)Z"⟩, 32), (⟨"FairBlocksModel", "hadSome", "(II)Z"⟩, 32), (⟨"FairBlocksModel", "urgent", "([II)I"⟩, 32), (⟨"FairBlocksModel", "isDue", "([III)Z"⟩, 32), (⟨"FairBlocksModel", "sends", "([II)V"⟩, 32), (⟨"FairBlocksModel", "layTrial", "()V"⟩, 32), (⟨"FairBlocksModel", "whoNext", "([II)I"⟩, 32), (⟨"FairBlocksModel", "does", "(III)Z"⟩, 32)]
theorem lw_r2 : ∀ q ∈ lw_privs_2, lw_okq q := List.forall_mem_cons.mpr ⟨lw_p16, List.forall_mem_cons.mpr ⟨lw_p17, List.forall_mem_cons.mpr ⟨lw_p18, List.forall_mem_cons.mpr ⟨lw_p19, List.forall_mem_cons.mpr ⟨lw_p20, List.forall_mem_cons.mpr ⟨lw_p21, List.forall_mem_cons.mpr ⟨lw_p22, List.forall_mem_cons.mpr ⟨lw_p23, List.forall_mem_cons.mpr ⟨lw_p24, List.forall_mem_cons.mpr ⟨lw_p25, List.forall_mem_cons.mpr ⟨lw_p26, List.forall_mem_cons.mpr ⟨lw_p27, List.forall_mem_cons.mpr ⟨lw_p28, List.forall_mem_cons.mpr ⟨lw_p29, List.forall_mem_cons.mpr ⟨lw_p30, List.forall_mem_cons.mpr ⟨lw_p31, fun _ h => absurd h List.not_mem_nil⟩⟩⟩⟩⟩⟩⟩⟩⟩⟩⟩⟩⟩⟩⟩⟩
theorem lw_p32 : lw_okq (⟨"FairBlocksModel", "whoTried", "(I)I"⟩, 32) := ⟨⟨by decide +kernel, by decide +kernel⟩, List.mem_of_getElem? (i := 716) (by decide +kernel), List.mem_of_getElem? (i := 976) (by decide +kernel), List.mem_of_getElem? (i := 977) (by decide +kernel)⟩
theorem lw_p33 : lw_okq (⟨"FairBlocksModel", "isSo", "(II)Z"⟩, 32) := ⟨⟨by decide +kernel, by decide +kernel⟩, List.mem_of_getElem? (i := 716) (by decide +kernel), List.mem_of_getElem? (i := 992) (by decide +kernel), List.mem_of_getElem? (i := 993) (by decide +kernel)⟩
theorem lw_p34 : lw_okq (⟨"FairBlocksModel", "offOnes", "()I"⟩, 32) := ⟨⟨by decide +kernel, by decide +kernel⟩, List.mem_of_getElem? (i := 716) (by decide +kernel), List.mem_of_getElem? (i := 1000) (by decide +kernel), List.mem_of_getElem? (i := 1001) (by decide +kernel)⟩
theorem lw_p35 : lw_okq (⟨"FairBlocksModel", "gotBy", "(I)I"⟩, 32) := ⟨⟨by decide +kernel, by decide +kernel⟩, List.mem_of_getElem? (i := 716) (by decide +kernel), List.mem_of_getElem? (i := 1013) (by decide +kernel), List.mem_of_getElem? (i := 1014) (by decide +kernel)⟩
theorem lw_p36 : lw_okq (⟨"FairBlocksModel", "waiting", "()I"⟩, 32) := ⟨⟨by decide +kernel, by decide +kernel⟩, List.mem_of_getElem? (i := 716) (by decide +kernel), List.mem_of_getElem? (i := 1054) (by decide +kernel), List.mem_of_getElem? (i := 1055) (by decide +kernel)⟩
def lw_privs_3 : List (MethodName × Nat) := [(⟨"FairBlocksModel", "whoTried", "(I)I"⟩, 32), (⟨"FairBlocksModel", "isSo", "(II)Z"⟩, 32), (⟨"FairBlocksModel", "offOnes", "()I"⟩, 32), (⟨"FairBlocksModel", "gotBy", "(I)I"⟩, 32), (⟨"FairBlocksModel", "waiting", "()I"⟩, 32)]
theorem lw_r3 : ∀ q ∈ lw_privs_3, lw_okq q := List.forall_mem_cons.mpr ⟨lw_p32, List.forall_mem_cons.mpr ⟨lw_p33, List.forall_mem_cons.mpr ⟨lw_p34, List.forall_mem_cons.mpr ⟨lw_p35, List.forall_mem_cons.mpr ⟨lw_p36, fun _ h => absurd h List.not_mem_nil⟩⟩⟩⟩⟩
def lw_privs : List (MethodName × Nat) := lw_privs_1 ++ (lw_privs_2 ++ (lw_privs_3))
def lw_tbl : List Cond := k2_sels lw_privs ++ tables_1
theorem lw_privs_ok : ∀ q ∈ lw_privs, lw_okq q := by
  show ∀ q ∈ lw_privs_1 ++ (lw_privs_2 ++ (lw_privs_3)), lw_okq q
  exact List.forall_mem_append.mpr ⟨lw_r1, List.forall_mem_append.mpr ⟨lw_r2, lw_r3⟩⟩

def RX0 : String := "FairBlocks$Acts"
def TX0 : u_T := fun k => match k with
  | 0 => ("FairBlocks$Acts", "before", "[LFairBlocks$Standing;", true)
  | 1 => ("FairBlocks$Acts", "first", "I", false)
  | _ => ("FairBlocks$Acts", "size", "I", false)
def tyX0 : Nat → FieldType := fun k => match k with
  | 0 => .array (.object "FairBlocks$Standing")
  | 1 => .int
  | _ => .int
theorem nmX0 : ∀ a, a < 3 → ∀ b, b < 3 → a ≠ b → (TX0 a).2.1 ≠ (TX0 b).2.1 := by decide +kernel
theorem tyX0_ok : ∀ k, k < 3 → parseFieldDescriptor (TX0 k).2.2.1 = some (tyX0 k) := by decide +kernel
abbrev cX0_init : ByteArray := prog_2_method_1_code
def yX0_init : MethodName := ⟨RX0, "<init>", "()V"⟩
abbrev cX0_remember : ByteArray := prog_2_method_2_code
def yX0_remember : MethodName := ⟨RX0, "remember", "(LFairBlocks$Standing;)V"⟩
abbrev cX0_takeBack : ByteArray := prog_2_method_3_code
def yX0_takeBack : MethodName := ⟨RX0, "takeBack", "(LFairBlocks$Standing;)V"⟩
abbrev cX0_forgetAll : ByteArray := prog_2_method_4_code
def yX0_forgetAll : MethodName := ⟨RX0, "forgetAll", "()V"⟩
def RX1 : String := "FairBlocks$Bench"
def TX1 : u_T := fun k => match k with
  | 0 => ("FairBlocks$Bench", "plan", "LFairBlocks$Plan;", true)
  | 1 => ("FairBlocks$Bench", "live", "LFairBlocks$Standing;", true)
  | 2 => ("FairBlocks$Bench", "trial", "LFairBlocks$Standing;", true)
  | _ => ("FairBlocks$Bench", "scheduler", "LFairBlocks$Scheduler;", true)
def tyX1 : Nat → FieldType := fun k => match k with
  | 0 => .object "FairBlocks$Plan"
  | 1 => .object "FairBlocks$Standing"
  | 2 => .object "FairBlocks$Standing"
  | _ => .object "FairBlocks$Scheduler"
theorem nmX1 : ∀ a, a < 4 → ∀ b, b < 4 → a ≠ b → (TX1 a).2.1 ≠ (TX1 b).2.1 := by decide +kernel
theorem tyX1_ok : ∀ k, k < 4 → parseFieldDescriptor (TX1 k).2.2.1 = some (tyX1 k) := by decide +kernel
abbrev cX1_init : ByteArray := prog_3_method_1_code
def yX1_init : MethodName := ⟨RX1, "<init>", "()V"⟩
abbrev cX1_freshTrial : ByteArray := prog_3_method_2_code
def yX1_freshTrial : MethodName := ⟨RX1, "freshTrial", "()LFairBlocks$Standing;"⟩
def RX2 : String := "FairBlocks$Chances"
def TX2 : u_T := fun k => match k with
  | _ => ("FairBlocks$Chances", "bench", "LFairBlocks$Bench;", true)
def tyX2 : Nat → FieldType := fun k => match k with
  | _ => .object "FairBlocks$Bench"
theorem nmX2 : ∀ a, a < 1 → ∀ b, b < 1 → a ≠ b → (TX2 a).2.1 ≠ (TX2 b).2.1 := by decide +kernel
theorem tyX2_ok : ∀ k, k < 1 → parseFieldDescriptor (TX2 k).2.2.1 = some (tyX2 k) := by decide +kernel
abbrev cX2_init : ByteArray := prog_4_method_1_code
def yX2_init : MethodName := ⟨RX2, "<init>", "(LFairBlocks$Bench;)V"⟩
abbrev cX2_shareOf : ByteArray := prog_4_method_2_code
def yX2_shareOf : MethodName := ⟨RX2, "shareOf", "(IZ)I"⟩
abbrev cX2_gotWith : ByteArray := prog_4_method_3_code
def yX2_gotWith : MethodName := ⟨RX2, "gotWith", "(I)I"⟩
abbrev cX2_emptyBehind : ByteArray := prog_4_method_4_code
def yX2_emptyBehind : MethodName := ⟨RX2, "emptyBehind", "(IIIZ)I"⟩
abbrev cX2_isEmptyBehind : ByteArray := prog_4_method_5_code
def yX2_isEmptyBehind : MethodName := ⟨RX2, "isEmptyBehind", "(III)Z"⟩
abbrev cX2_power : ByteArray := prog_4_method_6_code
def yX2_power : MethodName := ⟨RX2, "power", "(II)I"⟩
abbrev cX2_factorial : ByteArray := prog_4_method_7_code
def yX2_factorial : MethodName := ⟨RX2, "factorial", "(I)I"⟩
abbrev cX2_fraction : ByteArray := prog_4_method_8_code
def yX2_fraction : MethodName := ⟨RX2, "fraction", "(IIZ)I"⟩
abbrev cX2_commonDivisor : ByteArray := prog_4_method_9_code
def yX2_commonDivisor : MethodName := ⟨RX2, "commonDivisor", "(II)I"⟩
def RX3 : String := "FairBlocks$Court"
def TX3 : u_T := fun k => match k with
  | 0 => ("FairBlocks$Court", "bench", "LFairBlocks$Bench;", true)
  | _ => ("FairBlocks$Court", "peek", "LFairBlocks$Standing;", true)
def tyX3 : Nat → FieldType := fun k => match k with
  | 0 => .object "FairBlocks$Bench"
  | _ => .object "FairBlocks$Standing"
theorem nmX3 : ∀ a, a < 2 → ∀ b, b < 2 → a ≠ b → (TX3 a).2.1 ≠ (TX3 b).2.1 := by decide +kernel
theorem tyX3_ok : ∀ k, k < 2 → parseFieldDescriptor (TX3 k).2.2.1 = some (tyX3 k) := by decide +kernel
abbrev cX3_init : ByteArray := prog_5_method_1_code
def yX3_init : MethodName := ⟨RX3, "<init>", "(LFairBlocks$Bench;)V"⟩
abbrev cX3_unitOf : ByteArray := prog_5_method_2_code
def yX3_unitOf : MethodName := ⟨RX3, "unitOf", "(I)J"⟩
abbrev cX3_firstWrong : ByteArray := prog_5_method_3_code
def yX3_firstWrong : MethodName := ⟨RX3, "firstWrong", "(IJ)I"⟩
abbrev cX3_holds : ByteArray := prog_5_method_4_code
def yX3_holds : MethodName := ⟨RX3, "holds", "(LFairBlocks$Standing;III)Z"⟩
abbrev cX3_turnsOrDrops : ByteArray := prog_5_method_5_code
def yX3_turnsOrDrops : MethodName := ⟨RX3, "turnsOrDrops", "(ILFairBlocks$User;)Z"⟩
abbrev cX3_weighs : ByteArray := prog_5_method_6_code
def yX3_weighs : MethodName := ⟨RX3, "weighs", "(LFairBlocks$User;I)Z"⟩
abbrev cX3_holderBehind : ByteArray := prog_5_method_7_code
def yX3_holderBehind : MethodName := ⟨RX3, "holderBehind", "(LFairBlocks$Standing;I)I"⟩
def RX4 : String := "FairBlocks$Outlook"
def TX4 : u_T := fun k => match k with
  | _ => ("FairBlocks$Outlook", "bench", "LFairBlocks$Bench;", true)
def tyX4 : Nat → FieldType := fun k => match k with
  | _ => .object "FairBlocks$Bench"
theorem nmX4 : ∀ a, a < 1 → ∀ b, b < 1 → a ≠ b → (TX4 a).2.1 ≠ (TX4 b).2.1 := by decide +kernel
theorem tyX4_ok : ∀ k, k < 1 → parseFieldDescriptor (TX4 k).2.2.1 = some (tyX4 k) := by decide +kernel
abbrev cX4_init : ByteArray := prog_6_method_1_code
def yX4_init : MethodName := ⟨RX4, "<init>", "(LFairBlocks$Bench;)V"⟩
abbrev cX4_longestWait : ByteArray := prog_6_method_2_code
def yX4_longestWait : MethodName := ⟨RX4, "longestWait", "(II)I"⟩
abbrev cX4_slotsUntilEmpty : ByteArray := prog_6_method_3_code
def yX4_slotsUntilEmpty : MethodName := ⟨RX4, "slotsUntilEmpty", "(I)I"⟩
abbrev cX4_bestWeight : ByteArray := prog_6_method_4_code
def yX4_bestWeight : MethodName := ⟨RX4, "bestWeight", "(I)I"⟩
abbrev cX4_leastGain : ByteArray := prog_6_method_5_code
def yX4_leastGain : MethodName := ⟨RX4, "leastGain", "(LFairBlocks$Standing;)I"⟩
def RX5 : String := "FairBlocks$Plan"
def TX5 : u_T := fun k => match k with
  | 0 => ("FairBlocks$Plan", "blocks", "I", false)
  | 1 => ("FairBlocks$Plan", "shift", "I", false)
  | 2 => ("FairBlocks$Plan", "users", "I", false)
  | 3 => ("FairBlocks$Plan", "rates", "[I", true)
  | _ => ("FairBlocks$Plan", "rateCounts", "[I", true)
def tyX5 : Nat → FieldType := fun k => match k with
  | 0 => .int
  | 1 => .int
  | 2 => .int
  | 3 => .array .int
  | _ => .array .int
theorem nmX5 : ∀ a, a < 5 → ∀ b, b < 5 → a ≠ b → (TX5 a).2.1 ≠ (TX5 b).2.1 := by decide +kernel
theorem tyX5_ok : ∀ k, k < 5 → parseFieldDescriptor (TX5 k).2.2.1 = some (tyX5 k) := by decide +kernel
abbrev cX5_init : ByteArray := prog_7_method_1_code
def yX5_init : MethodName := ⟨RX5, "<init>", "()V"⟩
abbrev cX5_has : ByteArray := prog_7_method_2_code
def yX5_has : MethodName := ⟨RX5, "has", "(I)Z"⟩
abbrev cX5_setRate : ByteArray := prog_7_method_3_code
def yX5_setRate : MethodName := ⟨RX5, "setRate", "(III)V"⟩
abbrev cX5_rateOf : ByteArray := prog_7_method_4_code
def yX5_rateOf : MethodName := ⟨RX5, "rateOf", "(II)I"⟩
def RX6 : String := "FairBlocks$Scheduler"
def TX6 : u_T := fun k => match k with
  | 0 => ("FairBlocks$Scheduler", "plan", "LFairBlocks$Plan;", true)
  | 1 => ("FairBlocks$Scheduler", "rates", "[I", true)
  | 2 => ("FairBlocks$Scheduler", "latestBlock", "[I", true)
  | 3 => ("FairBlocks$Scheduler", "gotNow", "[I", true)
  | _ => ("FairBlocks$Scheduler", "holders", "[I", true)
def tyX6 : Nat → FieldType := fun k => match k with
  | 0 => .object "FairBlocks$Plan"
  | 1 => .array .int
  | 2 => .array .int
  | 3 => .array .int
  | _ => .array .int
theorem nmX6 : ∀ a, a < 5 → ∀ b, b < 5 → a ≠ b → (TX6 a).2.1 ≠ (TX6 b).2.1 := by decide +kernel
theorem tyX6_ok : ∀ k, k < 5 → parseFieldDescriptor (TX6 k).2.2.1 = some (tyX6 k) := by decide +kernel
abbrev cX6_init : ByteArray := prog_8_method_1_code
def yX6_init : MethodName := ⟨RX6, "<init>", "(LFairBlocks$Plan;)V"⟩
abbrev cX6_run : ByteArray := prog_8_method_2_code
def yX6_run : MethodName := ⟨RX6, "run", "(LFairBlocks$Standing;I)I"⟩
abbrev cX6_runOne : ByteArray := prog_8_method_3_code
def yX6_runOne : MethodName := ⟨RX6, "runOne", "(LFairBlocks$Standing;Z)I"⟩
abbrev cX6_holderOf : ByteArray := prog_8_method_4_code
def yX6_holderOf : MethodName := ⟨RX6, "holderOf", "(I)I"⟩
abbrev cX6_comeIn : ByteArray := prog_8_method_5_code
def yX6_comeIn : MethodName := ⟨RX6, "comeIn", "(LFairBlocks$Standing;)V"⟩
abbrev cX6_endSlot : ByteArray := prog_8_method_6_code
def yX6_endSlot : MethodName := ⟨RX6, "endSlot", "(LFairBlocks$Standing;)I"⟩
abbrev cX6_dueFor : ByteArray := prog_8_method_7_code
def yX6_dueFor : MethodName := ⟨RX6, "dueFor", "(LFairBlocks$Standing;I)I"⟩
abbrev cX6_mayHave : ByteArray := prog_8_method_8_code
def yX6_mayHave : MethodName := ⟨RX6, "mayHave", "(LFairBlocks$User;II)Z"⟩
abbrev cX6_isBefore : ByteArray := prog_8_method_9_code
def yX6_isBefore : MethodName := ⟨RX6, "isBefore", "(LFairBlocks$Standing;II)Z"⟩
def RX7 : String := "FairBlocks$Sightings"
def TX7 : u_T := fun k => match k with
  | 0 => ("FairBlocks$Sightings", "bench", "LFairBlocks$Bench;", true)
  | 1 => ("FairBlocks$Sightings", "slots", "[I", true)
  | 2 => ("FairBlocks$Sightings", "users", "[I", true)
  | 3 => ("FairBlocks$Sightings", "whats", "[I", true)
  | 4 => ("FairBlocks$Sightings", "figures", "[I", true)
  | 5 => ("FairBlocks$Sightings", "wases", "[I", true)
  | _ => ("FairBlocks$Sightings", "size", "I", false)
def tyX7 : Nat → FieldType := fun k => match k with
  | 0 => .object "FairBlocks$Bench"
  | 1 => .array .int
  | 2 => .array .int
  | 3 => .array .int
  | 4 => .array .int
  | 5 => .array .int
  | _ => .int
theorem nmX7 : ∀ a, a < 7 → ∀ b, b < 7 → a ≠ b → (TX7 a).2.1 ≠ (TX7 b).2.1 := by decide +kernel
theorem tyX7_ok : ∀ k, k < 7 → parseFieldDescriptor (TX7 k).2.2.1 = some (tyX7 k) := by decide +kernel
abbrev cX7_init : ByteArray := prog_9_method_1_code
def yX7_init : MethodName := ⟨RX7, "<init>", "(LFairBlocks$Bench;)V"⟩
abbrev cX7_add : ByteArray := prog_9_method_2_code
def yX7_add : MethodName := ⟨RX7, "add", "(IIIII)V"⟩
abbrev cX7_suspects : ByteArray := prog_9_method_3_code
def yX7_suspects : MethodName := ⟨RX7, "suspects", "()I"⟩
abbrev cX7_fits : ByteArray := prog_9_method_4_code
def yX7_fits : MethodName := ⟨RX7, "fits", "(I)Z"⟩
abbrev cX7_lastSlot : ByteArray := prog_9_method_5_code
def yX7_lastSlot : MethodName := ⟨RX7, "lastSlot", "()I"⟩
abbrev cX7_fitsBehind : ByteArray := prog_9_method_6_code
def yX7_fitsBehind : MethodName := ⟨RX7, "fitsBehind", "(LFairBlocks$Standing;I)Z"⟩
def RX8 : String := "FairBlocks$Standing"
def TX8 : u_T := fun k => match k with
  | 0 => ("FairBlocks$Standing", "users", "[LFairBlocks$User;", true)
  | 1 => ("FairBlocks$Standing", "patience", "I", false)
  | _ => ("FairBlocks$Standing", "clock", "I", false)
def tyX8 : Nat → FieldType := fun k => match k with
  | 0 => .array (.object "FairBlocks$User")
  | 1 => .int
  | _ => .int
theorem nmX8 : ∀ a, a < 3 → ∀ b, b < 3 → a ≠ b → (TX8 a).2.1 ≠ (TX8 b).2.1 := by decide +kernel
theorem tyX8_ok : ∀ k, k < 3 → parseFieldDescriptor (TX8 k).2.2.1 = some (tyX8 k) := by decide +kernel
abbrev cX8_init : ByteArray := prog_10_method_1_code
def yX8_init : MethodName := ⟨RX8, "<init>", "()V"⟩
abbrev cX8_copyFrom : ByteArray := prog_10_method_2_code
def yX8_copyFrom : MethodName := ⟨RX8, "copyFrom", "(LFairBlocks$Standing;)V"⟩
abbrev cX8_offBits : ByteArray := prog_10_method_3_code
def yX8_offBits : MethodName := ⟨RX8, "offBits", "(I)I"⟩
abbrev cX8_waitingBits : ByteArray := prog_10_method_4_code
def yX8_waitingBits : MethodName := ⟨RX8, "waitingBits", "(I)I"⟩
def RX9 : String := "FairBlocks$Text"
def TX9 : u_T := fun k => match k with
  | 0 => ("FairBlocks$Text", "letters", "[I", true)
  | _ => ("FairBlocks$Text", "length", "I", false)
def tyX9 : Nat → FieldType := fun k => match k with
  | 0 => .array .int
  | _ => .int
theorem nmX9 : ∀ a, a < 2 → ∀ b, b < 2 → a ≠ b → (TX9 a).2.1 ≠ (TX9 b).2.1 := by decide +kernel
theorem tyX9_ok : ∀ k, k < 2 → parseFieldDescriptor (TX9 k).2.2.1 = some (tyX9 k) := by decide +kernel
abbrev cX9_init : ByteArray := prog_11_method_1_code
def yX9_init : MethodName := ⟨RX9, "<init>", "()V"⟩
abbrev cX9_add : ByteArray := prog_11_method_2_code
def yX9_add : MethodName := ⟨RX9, "add", "(I)V"⟩
abbrev cX9_firstFault : ByteArray := prog_11_method_3_code
def yX9_firstFault : MethodName := ⟨RX9, "firstFault", "()I"⟩
abbrev cX9_behind : ByteArray := prog_11_method_4_code
def yX9_behind : MethodName := ⟨RX9, "behind", "(II)I"⟩
abbrev cX9_behindRate : ByteArray := prog_11_method_5_code
def yX9_behindRate : MethodName := ⟨RX9, "behindRate", "(II)I"⟩
abbrev cX9_readInto : ByteArray := prog_11_method_6_code
def yX9_readInto : MethodName := ⟨RX9, "readInto", "(LFairBlocks$Plan;LFairBlocks$Standing;)V"⟩
abbrev cX9_figure : ByteArray := prog_11_method_7_code
def yX9_figure : MethodName := ⟨RX9, "figure", "(I)I"⟩
def RX10 : String := "FairBlocks$User"
def TX10 : u_T := fun k => match k with
  | 0 => ("FairBlocks$User", "comes", "I", false)
  | 1 => ("FairBlocks$User", "weight", "I", false)
  | 2 => ("FairBlocks$User", "loses", "I", false)
  | 3 => ("FairBlocks$User", "off", "Z", false)
  | 4 => ("FairBlocks$User", "queue", "I", false)
  | 5 => ("FairBlocks$User", "toRepeat", "I", false)
  | 6 => ("FairBlocks$User", "mean", "I", false)
  | 7 => ("FairBlocks$User", "wait", "I", false)
  | 8 => ("FairBlocks$User", "sent", "I", false)
  | _ => ("FairBlocks$User", "got", "I", false)
def tyX10 : Nat → FieldType := fun k => match k with
  | 0 => .int
  | 1 => .int
  | 2 => .int
  | 3 => .boolean
  | 4 => .int
  | 5 => .int
  | 6 => .int
  | 7 => .int
  | 8 => .int
  | _ => .int
theorem nmX10 : ∀ a, a < 10 → ∀ b, b < 10 → a ≠ b → (TX10 a).2.1 ≠ (TX10 b).2.1 := by decide +kernel
theorem tyX10_ok : ∀ k, k < 10 → parseFieldDescriptor (TX10 k).2.2.1 = some (tyX10 k) := by decide +kernel
abbrev cX10_init : ByteArray := prog_12_method_1_code
def yX10_init : MethodName := ⟨RX10, "<init>", "()V"⟩
abbrev cX10_begin : ByteArray := prog_12_method_2_code
def yX10_begin : MethodName := ⟨RX10, "begin", "(III)V"⟩
abbrev cX10_copyFrom : ByteArray := prog_12_method_3_code
def yX10_copyFrom : MethodName := ⟨RX10, "copyFrom", "(LFairBlocks$User;)V"⟩
abbrev cX10_told : ByteArray := prog_12_method_4_code
def yX10_told : MethodName := ⟨RX10, "told", "(I)I"⟩
abbrev cX10_change : ByteArray := prog_12_method_5_code
def yX10_change : MethodName := ⟨RX10, "change", "(II)I"⟩
abbrev cX10_waiting : ByteArray := prog_12_method_6_code
def yX10_waiting : MethodName := ⟨RX10, "waiting", "()I"⟩
abbrev cX10_dropAll : ByteArray := prog_12_method_7_code
def yX10_dropAll : MethodName := ⟨RX10, "dropAll", "()V"⟩
abbrev cX10_takeIn : ByteArray := prog_12_method_8_code
def yX10_takeIn : MethodName := ⟨RX10, "takeIn", "(I)V"⟩
abbrev cX10_send : ByteArray := prog_12_method_9_code
def yX10_send : MethodName := ⟨RX10, "send", "(I)I"⟩
def RX11 : String := "FairBlocks"
def TX11 : u_T := fun k => match k with
  | 0 => ("FairBlocks", "text", "LFairBlocks$Text;", true)
  | 1 => ("FairBlocks", "bench", "LFairBlocks$Bench;", true)
  | 2 => ("FairBlocks", "plan", "LFairBlocks$Plan;", true)
  | 3 => ("FairBlocks", "live", "LFairBlocks$Standing;", true)
  | 4 => ("FairBlocks", "acts", "LFairBlocks$Acts;", true)
  | 5 => ("FairBlocks", "kept", "[LFairBlocks$Standing;", true)
  | 6 => ("FairBlocks", "isKept", "[Z", true)
  | 7 => ("FairBlocks", "outlook", "LFairBlocks$Outlook;", true)
  | 8 => ("FairBlocks", "court", "LFairBlocks$Court;", true)
  | 9 => ("FairBlocks", "sightings", "LFairBlocks$Sightings;", true)
  | 10 => ("FairBlocks", "chances", "LFairBlocks$Chances;", true)
  | _ => ("FairBlocks", "seedNow", "J", false)
def tyX11 : Nat → FieldType := fun k => match k with
  | 0 => .object "FairBlocks$Text"
  | 1 => .object "FairBlocks$Bench"
  | 2 => .object "FairBlocks$Plan"
  | 3 => .object "FairBlocks$Standing"
  | 4 => .object "FairBlocks$Acts"
  | 5 => .array (.object "FairBlocks$Standing")
  | 6 => .array .boolean
  | 7 => .object "FairBlocks$Outlook"
  | 8 => .object "FairBlocks$Court"
  | 9 => .object "FairBlocks$Sightings"
  | 10 => .object "FairBlocks$Chances"
  | _ => .long
theorem nmX11 : ∀ a, a < 12 → ∀ b, b < 12 → a ≠ b → (TX11 a).2.1 ≠ (TX11 b).2.1 := by decide +kernel
theorem tyX11_ok : ∀ k, k < 12 → parseFieldDescriptor (TX11 k).2.2.1 = some (tyX11 k) := by decide +kernel
abbrev cX11_init : ByteArray := prog_1_method_1_code
def yX11_init : MethodName := ⟨RX11, "<init>", "()V"⟩
abbrev cX11_write : ByteArray := prog_1_method_2_code
def yX11_write : MethodName := ⟨RX11, "write", "(I)I"⟩
abbrev cX11_wipe : ByteArray := prog_1_method_3_code
def yX11_wipe : MethodName := ⟨RX11, "wipe", "()I"⟩
abbrev cX11_fault : ByteArray := prog_1_method_4_code
def yX11_fault : MethodName := ⟨RX11, "fault", "()I"⟩
abbrev cX11_cell : ByteArray := prog_1_method_5_code
def yX11_cell : MethodName := ⟨RX11, "cell", "()I"⟩
abbrev cX11_user : ByteArray := prog_1_method_6_code
def yX11_user : MethodName := ⟨RX11, "user", "(II)I"⟩
abbrev cX11_slot : ByteArray := prog_1_method_7_code
def yX11_slot : MethodName := ⟨RX11, "slot", "(I)I"⟩
abbrev cX11_turn : ByteArray := prog_1_method_8_code
def yX11_turn : MethodName := ⟨RX11, "turn", "(I)I"⟩
abbrev cX11_drop : ByteArray := prog_1_method_9_code
def yX11_drop : MethodName := ⟨RX11, "drop", "(I)I"⟩
abbrev cX11_set : ByteArray := prog_1_method_10_code
def yX11_set : MethodName := ⟨RX11, "set", "(III)I"⟩
abbrev cX11_patience : ByteArray := prog_1_method_11_code
def yX11_patience : MethodName := ⟨RX11, "patience", "(I)I"⟩
abbrev cX11_undo : ByteArray := prog_1_method_12_code
def yX11_undo : MethodName := ⟨RX11, "undo", "()I"⟩
abbrev cX11_ahead : ByteArray := prog_1_method_13_code
def yX11_ahead : MethodName := ⟨RX11, "ahead", "(III)I"⟩
abbrev cX11_who : ByteArray := prog_1_method_14_code
def yX11_who : MethodName := ⟨RX11, "who", "(I)I"⟩
abbrev cX11_longest : ByteArray := prog_1_method_15_code
def yX11_longest : MethodName := ⟨RX11, "longest", "(II)I"⟩
abbrev cX11_empty : ByteArray := prog_1_method_16_code
def yX11_empty : MethodName := ⟨RX11, "empty", "(I)I"⟩
abbrev cX11_best : ByteArray := prog_1_method_17_code
def yX11_best : MethodName := ⟨RX11, "best", "(I)I"⟩
abbrev cX11_judge : ByteArray := prog_1_method_18_code
def yX11_judge : MethodName := ⟨RX11, "judge", "(IJ)I"⟩
abbrev cX11_see : ByteArray := prog_1_method_19_code
def yX11_see : MethodName := ⟨RX11, "see", "(IIIII)I"⟩
abbrev cX11_unsee : ByteArray := prog_1_method_20_code
def yX11_unsee : MethodName := ⟨RX11, "unsee", "()I"⟩
abbrev cX11_which : ByteArray := prog_1_method_21_code
def yX11_which : MethodName := ⟨RX11, "which", "()I"⟩
abbrev cX11_share : ByteArray := prog_1_method_22_code
def yX11_share : MethodName := ⟨RX11, "share", "(IZ)I"⟩
abbrev cX11_fails : ByteArray := prog_1_method_23_code
def yX11_fails : MethodName := ⟨RX11, "fails", "(IIIZ)I"⟩
abbrev cX11_seed : ByteArray := prog_1_method_24_code
def yX11_seed : MethodName := ⟨RX11, "seed", "(J)J"⟩
abbrev cX11_drawn : ByteArray := prog_1_method_25_code
def yX11_drawn : MethodName := ⟨RX11, "drawn", "(I)I"⟩
abbrev cX11_keep : ByteArray := prog_1_method_26_code
def yX11_keep : MethodName := ⟨RX11, "keep", "(I)I"⟩
abbrev cX11_again : ByteArray := prog_1_method_27_code
def yX11_again : MethodName := ⟨RX11, "again", "(I)I"⟩
abbrev cX11_count : ByteArray := prog_1_method_28_code
def yX11_count : MethodName := ⟨RX11, "count", "(I)I"⟩
abbrev cX11_within : ByteArray := prog_1_method_29_code
def yX11_within : MethodName := ⟨RX11, "within", "(III)Z"⟩
def RX12 : String := "FairBlocksModel"
def TX12 : u_T := fun k => match k with
  | 0 => ("FairBlocksModel", "thrown", "I", false)
  | 1 => ("FairBlocksModel", "text", "[I", true)
  | 2 => ("FairBlocksModel", "textSize", "I", false)
  | 3 => ("FairBlocksModel", "place", "I", false)
  | 4 => ("FairBlocksModel", "blocks", "I", false)
  | 5 => ("FairBlocksModel", "shift", "I", false)
  | 6 => ("FairBlocksModel", "users", "I", false)
  | 7 => ("FairBlocksModel", "rates", "[I", true)
  | 8 => ("FairBlocksModel", "rateMany", "[I", true)
  | 9 => ("FairBlocksModel", "readBlocks", "I", false)
  | 10 => ("FairBlocksModel", "readShift", "I", false)
  | 11 => ("FairBlocksModel", "readPatience", "I", false)
  | 12 => ("FairBlocksModel", "readUsers", "I", false)
  | 13 => ("FairBlocksModel", "readRates", "[I", true)
  | 14 => ("FairBlocksModel", "readRateMany", "[I", true)
  | 15 => ("FairBlocksModel", "readPage", "[I", true)
  | 16 => ("FairBlocksModel", "page", "[I", true)
  | 17 => ("FairBlocksModel", "trial", "[I", true)
  | 18 => ("FairBlocksModel", "other", "[I", true)
  | 19 => ("FairBlocksModel", "book", "[I", true)
  | 20 => ("FairBlocksModel", "doings", "I", false)
  | 21 => ("FairBlocksModel", "kept", "[I", true)
  | 22 => ("FairBlocksModel", "isKept", "[Z", true)
  | 23 => ("FairBlocksModel", "seen", "I", false)
  | 24 => ("FairBlocksModel", "seenBehind", "[I", true)
  | 25 => ("FairBlocksModel", "seenUser", "[I", true)
  | 26 => ("FairBlocksModel", "seenWhat", "[I", true)
  | 27 => ("FairBlocksModel", "seenMany", "[I", true)
  | 28 => ("FairBlocksModel", "seenWas", "[I", true)
  | 29 => ("FairBlocksModel", "seed", "J", false)
  | 30 => ("FairBlocksModel", "had", "[I", true)
  | _ => ("FairBlocksModel", "got", "[I", true)
def tyX12 : Nat → FieldType := fun k => match k with
  | 0 => .int
  | 1 => .array .int
  | 2 => .int
  | 3 => .int
  | 4 => .int
  | 5 => .int
  | 6 => .int
  | 7 => .array .int
  | 8 => .array .int
  | 9 => .int
  | 10 => .int
  | 11 => .int
  | 12 => .int
  | 13 => .array .int
  | 14 => .array .int
  | 15 => .array .int
  | 16 => .array .int
  | 17 => .array .int
  | 18 => .array .int
  | 19 => .array .int
  | 20 => .int
  | 21 => .array .int
  | 22 => .array .boolean
  | 23 => .int
  | 24 => .array .int
  | 25 => .array .int
  | 26 => .array .int
  | 27 => .array .int
  | 28 => .array .int
  | 29 => .long
  | 30 => .array .int
  | _ => .array .int
theorem nmX12 : ∀ a, a < 32 → ∀ b, b < 32 → a ≠ b → (TX12 a).2.1 ≠ (TX12 b).2.1 := by decide +kernel
theorem tyX12_ok : ∀ k, k < 32 → parseFieldDescriptor (TX12 k).2.2.1 = some (tyX12 k) := by decide +kernel
abbrev cX12_in : ByteArray := prog_14_method_2_code
def yX12_in : MethodName := ⟨RX12, "in", "(JJJ)Z"⟩
abbrev cX12_has : ByteArray := prog_14_method_3_code
def yX12_has : MethodName := ⟨RX12, "has", "(II)Z"⟩
abbrev cX12_ones : ByteArray := prog_14_method_4_code
def yX12_ones : MethodName := ⟨RX12, "ones", "(I)I"⟩
abbrev cX12_power : ByteArray := prog_14_method_5_code
def yX12_power : MethodName := ⟨RX12, "power", "(II)I"⟩
abbrev cX12_layTrial : ByteArray := prog_14_method_6_code
def yX12_layTrial : MethodName := ⟨RX12, "layTrial", "()V"⟩
abbrev cX12_noUser : ByteArray := prog_14_method_7_code
def yX12_noUser : MethodName := ⟨RX12, "noUser", "(I)Z"⟩
abbrev cX12_init : ByteArray := prog_14_method_8_code
def yX12_init : MethodName := ⟨RX12, "<init>", "()V"⟩
abbrev cX12_write : ByteArray := prog_14_method_9_code
def yX12_write : MethodName := ⟨RX12, "write", "(I)I"⟩
abbrev cX12_wipe : ByteArray := prog_14_method_10_code
def yX12_wipe : MethodName := ⟨RX12, "wipe", "()I"⟩
abbrev cX12_figure : ByteArray := prog_14_method_11_code
def yX12_figure : MethodName := ⟨RX12, "figure", "(II)I"⟩
abbrev cX12_readHead : ByteArray := prog_14_method_12_code
def yX12_readHead : MethodName := ⟨RX12, "readHead", "()Z"⟩
abbrev cX12_readUser : ByteArray := prog_14_method_13_code
def yX12_readUser : MethodName := ⟨RX12, "readUser", "()Z"⟩
abbrev cX12_readCell : ByteArray := prog_14_method_14_code
def yX12_readCell : MethodName := ⟨RX12, "readCell", "()I"⟩
abbrev cX12_fault : ByteArray := prog_14_method_15_code
def yX12_fault : MethodName := ⟨RX12, "fault", "()I"⟩
abbrev cX12_cell : ByteArray := prog_14_method_16_code
def yX12_cell : MethodName := ⟨RX12, "cell", "()I"⟩
abbrev cX12_rateOf : ByteArray := prog_14_method_17_code
def yX12_rateOf : MethodName := ⟨RX12, "rateOf", "([II)I"⟩
abbrev cX12_hasAny : ByteArray := prog_14_method_18_code
def yX12_hasAny : MethodName := ⟨RX12, "hasAny", "([II)Z"⟩
abbrev cX12_hadSome : ByteArray := prog_14_method_19_code
def yX12_hadSome : MethodName := ⟨RX12, "hadSome", "(II)Z"⟩
abbrev cX12_may : ByteArray := prog_14_method_20_code
def yX12_may : MethodName := ⟨RX12, "may", "([III)Z"⟩
abbrev cX12_isDue : ByteArray := prog_14_method_21_code
def yX12_isDue : MethodName := ⟨RX12, "isDue", "([III)Z"⟩
abbrev cX12_urgent : ByteArray := prog_14_method_22_code
def yX12_urgent : MethodName := ⟨RX12, "urgent", "([II)I"⟩
abbrev cX12_whoHas : ByteArray := prog_14_method_23_code
def yX12_whoHas : MethodName := ⟨RX12, "whoHas", "([II)I"⟩
abbrev cX12_sends : ByteArray := prog_14_method_24_code
def yX12_sends : MethodName := ⟨RX12, "sends", "([II)V"⟩
abbrev cX12_slotOn : ByteArray := prog_14_method_25_code
def yX12_slotOn : MethodName := ⟨RX12, "slotOn", "([IZ)I"⟩
abbrev cX12_slotsOn : ByteArray := prog_14_method_26_code
def yX12_slotsOn : MethodName := ⟨RX12, "slotsOn", "([II)I"⟩
abbrev cX12_user : ByteArray := prog_14_method_27_code
def yX12_user : MethodName := ⟨RX12, "user", "(II)I"⟩
abbrev cX12_note : ByteArray := prog_14_method_28_code
def yX12_note : MethodName := ⟨RX12, "note", "()V"⟩
abbrev cX12_slot : ByteArray := prog_14_method_29_code
def yX12_slot : MethodName := ⟨RX12, "slot", "(I)I"⟩
abbrev cX12_turn : ByteArray := prog_14_method_30_code
def yX12_turn : MethodName := ⟨RX12, "turn", "(I)I"⟩
abbrev cX12_drop : ByteArray := prog_14_method_31_code
def yX12_drop : MethodName := ⟨RX12, "drop", "(I)I"⟩
abbrev cX12_set : ByteArray := prog_14_method_32_code
def yX12_set : MethodName := ⟨RX12, "set", "(III)I"⟩
abbrev cX12_patience : ByteArray := prog_14_method_33_code
def yX12_patience : MethodName := ⟨RX12, "patience", "(I)I"⟩
abbrev cX12_undo : ByteArray := prog_14_method_34_code
def yX12_undo : MethodName := ⟨RX12, "undo", "()I"⟩
abbrev cX12_ahead : ByteArray := prog_14_method_35_code
def yX12_ahead : MethodName := ⟨RX12, "ahead", "(III)I"⟩
abbrev cX12_whoNext : ByteArray := prog_14_method_36_code
def yX12_whoNext : MethodName := ⟨RX12, "whoNext", "([II)I"⟩
abbrev cX12_who : ByteArray := prog_14_method_37_code
def yX12_who : MethodName := ⟨RX12, "who", "(I)I"⟩
abbrev cX12_longest : ByteArray := prog_14_method_38_code
def yX12_longest : MethodName := ⟨RX12, "longest", "(II)I"⟩
abbrev cX12_empty : ByteArray := prog_14_method_39_code
def yX12_empty : MethodName := ⟨RX12, "empty", "(I)I"⟩
abbrev cX12_best : ByteArray := prog_14_method_40_code
def yX12_best : MethodName := ⟨RX12, "best", "(I)I"⟩
abbrev cX12_whoTried : ByteArray := prog_14_method_41_code
def yX12_whoTried : MethodName := ⟨RX12, "whoTried", "(I)I"⟩
abbrev cX12_does : ByteArray := prog_14_method_42_code
def yX12_does : MethodName := ⟨RX12, "does", "(III)Z"⟩
abbrev cX12_longPower : ByteArray := prog_14_method_43_code
def yX12_longPower : MethodName := ⟨RX12, "longPower", "(JI)J"⟩
abbrev cX12_judge : ByteArray := prog_14_method_44_code
def yX12_judge : MethodName := ⟨RX12, "judge", "(IJ)I"⟩
abbrev cX12_see : ByteArray := prog_14_method_45_code
def yX12_see : MethodName := ⟨RX12, "see", "(IIIII)I"⟩
abbrev cX12_unsee : ByteArray := prog_14_method_46_code
def yX12_unsee : MethodName := ⟨RX12, "unsee", "()I"⟩
abbrev cX12_isSo : ByteArray := prog_14_method_47_code
def yX12_isSo : MethodName := ⟨RX12, "isSo", "(II)Z"⟩
abbrev cX12_which : ByteArray := prog_14_method_48_code
def yX12_which : MethodName := ⟨RX12, "which", "()I"⟩
abbrev cX12_divisor : ByteArray := prog_14_method_49_code
def yX12_divisor : MethodName := ⟨RX12, "divisor", "(II)I"⟩
abbrev cX12_fraction : ByteArray := prog_14_method_50_code
def yX12_fraction : MethodName := ⟨RX12, "fraction", "(IIZ)I"⟩
abbrev cX12_factorial : ByteArray := prog_14_method_51_code
def yX12_factorial : MethodName := ⟨RX12, "factorial", "(I)I"⟩
abbrev cX12_offOnes : ByteArray := prog_14_method_52_code
def yX12_offOnes : MethodName := ⟨RX12, "offOnes", "()I"⟩
abbrev cX12_gotBy : ByteArray := prog_14_method_53_code
def yX12_gotBy : MethodName := ⟨RX12, "gotBy", "(I)I"⟩
abbrev cX12_share : ByteArray := prog_14_method_54_code
def yX12_share : MethodName := ⟨RX12, "share", "(IZ)I"⟩
abbrev cX12_fails : ByteArray := prog_14_method_55_code
def yX12_fails : MethodName := ⟨RX12, "fails", "(IIIZ)I"⟩
abbrev cX12_seed : ByteArray := prog_14_method_56_code
def yX12_seed : MethodName := ⟨RX12, "seed", "(J)J"⟩
abbrev cX12_drawn : ByteArray := prog_14_method_57_code
def yX12_drawn : MethodName := ⟨RX12, "drawn", "(I)I"⟩
abbrev cX12_keep : ByteArray := prog_14_method_58_code
def yX12_keep : MethodName := ⟨RX12, "keep", "(I)I"⟩
abbrev cX12_again : ByteArray := prog_14_method_59_code
def yX12_again : MethodName := ⟨RX12, "again", "(I)I"⟩
abbrev cX12_waiting : ByteArray := prog_14_method_60_code
def yX12_waiting : MethodName := ⟨RX12, "waiting", "()I"⟩
abbrev cX12_count : ByteArray := prog_14_method_61_code
def yX12_count : MethodName := ⟨RX12, "count", "(I)I"⟩
def RJ6 : String := "java/lang/Integer"
def TJ6 : u_T := fun k => match k with
  | _ => ("", "", "", false)
def tyJ6 : Nat → FieldType := fun k => match k with
  | _ => .int
theorem nmJ6 : ∀ a, a < 0 → ∀ b, b < 0 → a ≠ b → (TJ6 a).2.1 ≠ (TJ6 b).2.1 := by decide +kernel
theorem tyJ6_ok : ∀ k, k < 0 → parseFieldDescriptor (TJ6 k).2.2.1 = some (tyJ6 k) := by decide +kernel
abbrev cJ6_bitCount_0f7a4 : ByteArray := prog_15_method_49_code
def yJ6_bitCount_0f7a4 : MethodName := ⟨RJ6, "bitCount", "(I)I"⟩
def RJ9 : String := "java/lang/Math"
def TJ9 : u_T := fun k => match k with
  | _ => ("", "", "", false)
def tyJ9 : Nat → FieldType := fun k => match k with
  | _ => .int
theorem nmJ9 : ∀ a, a < 0 → ∀ b, b < 0 → a ≠ b → (TJ9 a).2.1 ≠ (TJ9 b).2.1 := by decide +kernel
theorem tyJ9_ok : ∀ k, k < 0 → parseFieldDescriptor (TJ9 k).2.2.1 = some (tyJ9 k) := by decide +kernel
abbrev cJ9_abs_0f7a4 : ByteArray := prog_16_method_59_code
def yJ9_abs_0f7a4 : MethodName := ⟨RJ9, "abs", "(I)I"⟩
abbrev cJ9_max_7cf53 : ByteArray := prog_16_method_65_code
def yJ9_max_7cf53 : MethodName := ⟨RJ9, "max", "(II)I"⟩
abbrev cJ9_min_7cf53 : ByteArray := prog_16_method_69_code
def yJ9_min_7cf53 : MethodName := ⟨RJ9, "min", "(II)I"⟩
def RL : String := "FairBlocksLaw"
abbrev cL_law : ByteArray := code
def yL_law : MethodName := ⟨RL, "law", "([I)Z"⟩
abbrev vwCl : List vw_C := [(RX0, TX0, 3), (RX1, TX1, 4), (RX2, TX2, 1), (RX3, TX3, 2), (RX4, TX4, 1), (RX5, TX5, 5), (RX6, TX6, 5), (RX7, TX7, 7), (RX8, TX8, 3), (RX9, TX9, 2), (RX10, TX10, 10), (RX11, TX11, 12), (RX12, TX12, 32)]
def gw : List Cond := lw_tbl.filter goodWord
theorem gm {w : Cond} (i : Nat) (h : tables_1[i]? = some w) (hg : goodWord w = true) : w ∈ gw := List.mem_filter.mpr ⟨List.mem_append_right _ (List.mem_of_getElem? h), hg⟩
theorem gmp {w : Cond} (i : Nat) (h : (k2_sels lw_privs)[i]? = some w) (hg : goodWord w = true) : w ∈ gw := List.mem_filter.mpr ⟨List.mem_append_left _ (List.mem_of_getElem? h), hg⟩
theorem gw_good : ∀ w ∈ gw, goodWord w = true := fun w h => (List.mem_filter.mp h).2
theorem gw_in {c : Cond} (h : c ∈ gw) : GoodIn gw (c :: gw) := fun w hw => by
  rcases List.mem_cons.mp hw with e | hw
  · subst e; exact ⟨h, good_of_word (gw_good _ h)⟩
  · exact ⟨hw, good_of_word (gw_good _ hw)⟩
def nwL : List Cond := [(Cond.methodLinkNest "FairBlocks" (9 : Nat) ({ cls := "FairBlocks$Text", name := "<init>", desc := "()V" } : MethodName) "FairBlocks"), (Cond.methodLinkNest "FairBlocks" (18 : Nat) ({ cls := "FairBlocks$Bench", name := "<init>", desc := "()V" } : MethodName) "FairBlocks"), (Cond.methodLinkNest "FairBlocks$Bench" (9 : Nat) ({ cls := "FairBlocks$Plan", name := "<init>", desc := "()V" } : MethodName) "FairBlocks"), (Cond.methodLinkNest "FairBlocks$Standing" (24 : Nat) ({ cls := "FairBlocks$User", name := "<init>", desc := "()V" } : MethodName) "FairBlocks"), (Cond.methodLinkNest "FairBlocks$Text" (23 : Nat) ({ cls := "FairBlocks", name := "within", desc := "(III)Z" } : MethodName) "FairBlocks"), (Cond.methodLinkNest "FairBlocks$Plan" (28 : Nat) ({ cls := "FairBlocks", name := "within", desc := "(III)Z" } : MethodName) "FairBlocks"), (Cond.methodLinkNest "FairBlocks$Scheduler" (62 : Nat) ({ cls := "FairBlocks", name := "within", desc := "(III)Z" } : MethodName) "FairBlocks"), (Cond.methodLinkNest "FairBlocks$Chances" (91 : Nat) ({ cls := "FairBlocks", name := "within", desc := "(III)Z" } : MethodName) "FairBlocks"), (Cond.fieldLinkNest "FairBlocks$Chances" (94 : Nat) "FairBlocks" "FACTORIALS" "[I" "FairBlocks")]
theorem nwL_in : ∀ w ∈ nwL, w ∈ lw_tbl := by
  intro w hw
  have h : nwL = ([26, 41, 47, 89, 364, 388, 520, 650, 651] : List Nat).filterMap (fun i => tables_1[i]?) := by decide +kernel
  rw [h] at hw
  obtain ⟨i, -, hi⟩ := List.mem_filterMap.mp hw
  exact List.mem_append_right _ (List.mem_of_getElem? hi)
theorem nw_0 : (Cond.methodLinkNest "FairBlocks" (9 : Nat) ({ cls := "FairBlocks$Text", name := "<init>", desc := "()V" } : MethodName) "FairBlocks") ∈ nwL := List.mem_of_getElem? (i := 0) (by decide +kernel)
theorem nw_1 : (Cond.methodLinkNest "FairBlocks" (18 : Nat) ({ cls := "FairBlocks$Bench", name := "<init>", desc := "()V" } : MethodName) "FairBlocks") ∈ nwL := List.mem_of_getElem? (i := 1) (by decide +kernel)
theorem nw_2 : (Cond.methodLinkNest "FairBlocks$Bench" (9 : Nat) ({ cls := "FairBlocks$Plan", name := "<init>", desc := "()V" } : MethodName) "FairBlocks") ∈ nwL := List.mem_of_getElem? (i := 2) (by decide +kernel)
theorem nw_3 : (Cond.methodLinkNest "FairBlocks$Standing" (24 : Nat) ({ cls := "FairBlocks$User", name := "<init>", desc := "()V" } : MethodName) "FairBlocks") ∈ nwL := List.mem_of_getElem? (i := 3) (by decide +kernel)
theorem nw_4 : (Cond.methodLinkNest "FairBlocks$Text" (23 : Nat) ({ cls := "FairBlocks", name := "within", desc := "(III)Z" } : MethodName) "FairBlocks") ∈ nwL := List.mem_of_getElem? (i := 4) (by decide +kernel)
theorem nw_5 : (Cond.methodLinkNest "FairBlocks$Plan" (28 : Nat) ({ cls := "FairBlocks", name := "within", desc := "(III)Z" } : MethodName) "FairBlocks") ∈ nwL := List.mem_of_getElem? (i := 5) (by decide +kernel)
theorem nw_6 : (Cond.methodLinkNest "FairBlocks$Scheduler" (62 : Nat) ({ cls := "FairBlocks", name := "within", desc := "(III)Z" } : MethodName) "FairBlocks") ∈ nwL := List.mem_of_getElem? (i := 6) (by decide +kernel)
theorem nw_7 : (Cond.methodLinkNest "FairBlocks$Chances" (91 : Nat) ({ cls := "FairBlocks", name := "within", desc := "(III)Z" } : MethodName) "FairBlocks") ∈ nwL := List.mem_of_getElem? (i := 7) (by decide +kernel)
theorem nw_8 : (Cond.fieldLinkNest "FairBlocks$Chances" (94 : Nat) "FairBlocks" "FACTORIALS" "[I" "FairBlocks") ∈ nwL := List.mem_of_getElem? (i := 8) (by decide +kernel)
theorem w_0 : (Cond.initialized "FairBlocksLaw") ∈ gw := gm 0 (by decide +kernel) rfl
theorem w_1 : (Cond.initialized "FairBlocks") ∈ gw := gm 1 (by decide +kernel) rfl
theorem w_2 : (Cond.initialized "FairBlocks$Text") ∈ gw := gm 2 (by decide +kernel) rfl
theorem w_3 : (Cond.initialized "FairBlocks$Bench") ∈ gw := gm 3 (by decide +kernel) rfl
theorem w_4 : (Cond.initialized "FairBlocks$Plan") ∈ gw := gm 4 (by decide +kernel) rfl
theorem w_5 : (Cond.initialized "FairBlocks$Standing") ∈ gw := gm 5 (by decide +kernel) rfl
theorem w_6 : (Cond.initialized "FairBlocks$User") ∈ gw := gm 6 (by decide +kernel) rfl
theorem w_7 : (Cond.initialized "FairBlocks$Scheduler") ∈ gw := gm 7 (by decide +kernel) rfl
theorem w_8 : (Cond.initialized "FairBlocks$Acts") ∈ gw := gm 8 (by decide +kernel) rfl
theorem w_9 : (Cond.initialized "FairBlocks$Outlook") ∈ gw := gm 9 (by decide +kernel) rfl
theorem w_10 : (Cond.initialized "FairBlocks$Court") ∈ gw := gm 10 (by decide +kernel) rfl
theorem w_11 : (Cond.initialized "FairBlocks$Sightings") ∈ gw := gm 11 (by decide +kernel) rfl
theorem w_12 : (Cond.initialized "FairBlocks$Chances") ∈ gw := gm 12 (by decide +kernel) rfl
theorem w_13 : (Cond.initialized "FairBlocksModel") ∈ gw := gm 13 (by decide +kernel) rfl
theorem w_14 : (Cond.initialized "java/lang/Math") ∈ gw := gm 14 (by decide +kernel) rfl
theorem w_15 : (Cond.initialized "java/lang/Integer") ∈ gw := gm 15 (by decide +kernel) rfl
theorem w_16 : (Cond.classLink "FairBlocksLaw" (7 : Nat) "FairBlocks") ∈ gw := gm 16 (by decide +kernel) rfl
theorem w_17 : (Cond.instantiable "FairBlocks" (12 : Nat)) ∈ gw := gm 17 (by decide +kernel) rfl
theorem w_18 : (Cond.methodLink "FairBlocksLaw" (9 : Nat) ({ cls := "FairBlocks", name := "<init>", desc := "()V" } : MethodName)) ∈ gw := gm 18 (by decide +kernel) rfl
theorem w_19 : (Cond.instanceMethod ({ cls := "FairBlocks", name := "<init>", desc := "()V" } : MethodName)) ∈ gw := gm 19 (by decide +kernel) rfl
theorem w_20 : (Cond.code ({ cls := "FairBlocks", name := "<init>", desc := "()V" } : MethodName) prog_1_method_1_code (2 : Nat) (Option.none : Option FieldType)) ∈ gw := gm 20 (by decide +kernel) rfl
theorem w_21 : (Cond.methodLink "FairBlocks" (1 : Nat) ({ cls := "java/lang/Object", name := "<init>", desc := "()V" } : MethodName)) ∈ gw := gm 21 (by decide +kernel) rfl
theorem w_22 : (Cond.instanceMethod ({ cls := "java/lang/Object", name := "<init>", desc := "()V" } : MethodName)) ∈ gw := gm 22 (by decide +kernel) rfl
theorem w_23 : (Cond.code ({ cls := "java/lang/Object", name := "<init>", desc := "()V" } : MethodName) object_method_1_code (1 : Nat) (Option.none : Option FieldType)) ∈ gw := gm 23 (by decide +kernel) rfl
theorem w_24 : (Cond.classLink "FairBlocks" (7 : Nat) "FairBlocks$Text") ∈ gw := gm 24 (by decide +kernel) rfl
theorem w_25 : (Cond.instantiable "FairBlocks$Text" (2 : Nat)) ∈ gw := gm 25 (by decide +kernel) rfl
theorem w_27 : (Cond.instanceMethod ({ cls := "FairBlocks$Text", name := "<init>", desc := "()V" } : MethodName)) ∈ gw := gm 27 (by decide +kernel) rfl
theorem w_28 : (Cond.code ({ cls := "FairBlocks$Text", name := "<init>", desc := "()V" } : MethodName) prog_11_method_1_code (1 : Nat) (Option.none : Option FieldType)) ∈ gw := gm 28 (by decide +kernel) rfl
theorem w_29 : (Cond.methodLink "FairBlocks$Text" (5 : Nat) ({ cls := "java/lang/Object", name := "<init>", desc := "()V" } : MethodName)) ∈ gw := gm 29 (by decide +kernel) rfl
theorem w_30 : (Cond.fieldLink "FairBlocks$Text" (11 : Nat) "FairBlocks$Text" "letters" "[I") ∈ gw := gm 30 (by decide +kernel) rfl
theorem w_31 : (Cond.fieldLink "FairBlocks$Text" (15 : Nat) "FairBlocks$Text" "length" "I") ∈ gw := gm 31 (by decide +kernel) rfl
theorem w_32 : (Cond.fieldLink "FairBlocks" (89 : Nat) "FairBlocks$Text" "length" "I") ∈ gw := gm 32 (by decide +kernel) rfl
theorem w_38 : (Cond.arrayClass FieldType.int) ∈ gw := gm 38 (by decide +kernel) rfl
theorem w_39 : (Cond.classLink "FairBlocks" (16 : Nat) "FairBlocks$Bench") ∈ gw := gm 39 (by decide +kernel) rfl
theorem w_40 : (Cond.instantiable "FairBlocks$Bench" (4 : Nat)) ∈ gw := gm 40 (by decide +kernel) rfl
theorem w_42 : (Cond.instanceMethod ({ cls := "FairBlocks$Bench", name := "<init>", desc := "()V" } : MethodName)) ∈ gw := gm 42 (by decide +kernel) rfl
theorem w_43 : (Cond.code ({ cls := "FairBlocks$Bench", name := "<init>", desc := "()V" } : MethodName) prog_3_method_1_code (1 : Nat) (Option.none : Option FieldType)) ∈ gw := gm 43 (by decide +kernel) rfl
theorem w_44 : (Cond.methodLink "FairBlocks$Bench" (1 : Nat) ({ cls := "java/lang/Object", name := "<init>", desc := "()V" } : MethodName)) ∈ gw := gm 44 (by decide +kernel) rfl
theorem w_45 : (Cond.classLink "FairBlocks$Bench" (7 : Nat) "FairBlocks$Plan") ∈ gw := gm 45 (by decide +kernel) rfl
theorem w_46 : (Cond.instantiable "FairBlocks$Plan" (5 : Nat)) ∈ gw := gm 46 (by decide +kernel) rfl
theorem w_48 : (Cond.instanceMethod ({ cls := "FairBlocks$Plan", name := "<init>", desc := "()V" } : MethodName)) ∈ gw := gm 48 (by decide +kernel) rfl
theorem w_49 : (Cond.code ({ cls := "FairBlocks$Plan", name := "<init>", desc := "()V" } : MethodName) prog_7_method_1_code (1 : Nat) (Option.none : Option FieldType)) ∈ gw := gm 49 (by decide +kernel) rfl
theorem w_50 : (Cond.methodLink "FairBlocks$Plan" (3 : Nat) ({ cls := "java/lang/Object", name := "<init>", desc := "()V" } : MethodName)) ∈ gw := gm 50 (by decide +kernel) rfl
theorem w_51 : (Cond.fieldLink "FairBlocks$Plan" (9 : Nat) "FairBlocks$Plan" "blocks" "I") ∈ gw := gm 51 (by decide +kernel) rfl
theorem w_52 : (Cond.fieldLink "FairBlocks$Scheduler" (36 : Nat) "FairBlocks$Plan" "blocks" "I") ∈ gw := gm 52 (by decide +kernel) rfl
theorem w_53 : (Cond.fieldLink "FairBlocks$Court" (76 : Nat) "FairBlocks$Plan" "blocks" "I") ∈ gw := gm 53 (by decide +kernel) rfl
theorem w_54 : (Cond.fieldLink "FairBlocks$Text" (34 : Nat) "FairBlocks$Plan" "blocks" "I") ∈ gw := gm 54 (by decide +kernel) rfl
theorem w_55 : (Cond.fieldLink "FairBlocks" (173 : Nat) "FairBlocks$Plan" "blocks" "I") ∈ gw := gm 55 (by decide +kernel) rfl
theorem w_56 : (Cond.fieldLink "FairBlocks$Plan" (15 : Nat) "FairBlocks$Plan" "shift" "I") ∈ gw := gm 56 (by decide +kernel) rfl
theorem w_57 : (Cond.fieldLink "FairBlocks$Text" (39 : Nat) "FairBlocks$Plan" "shift" "I") ∈ gw := gm 57 (by decide +kernel) rfl
theorem w_58 : (Cond.fieldLink "FairBlocks$Scheduler" (85 : Nat) "FairBlocks$Plan" "shift" "I") ∈ gw := gm 58 (by decide +kernel) rfl
theorem w_59 : (Cond.fieldLink "FairBlocks" (225 : Nat) "FairBlocks$Plan" "shift" "I") ∈ gw := gm 59 (by decide +kernel) rfl
theorem w_60 : (Cond.fieldLink "FairBlocks$Plan" (18 : Nat) "FairBlocks$Plan" "users" "I") ∈ gw := gm 60 (by decide +kernel) rfl
theorem w_61 : (Cond.fieldLink "FairBlocks$Chances" (21 : Nat) "FairBlocks$Plan" "users" "I") ∈ gw := gm 61 (by decide +kernel) rfl
theorem w_62 : (Cond.fieldLink "FairBlocks$Sightings" (41 : Nat) "FairBlocks$Plan" "users" "I") ∈ gw := gm 62 (by decide +kernel) rfl
theorem w_63 : (Cond.fieldLink "FairBlocks$Scheduler" (66 : Nat) "FairBlocks$Plan" "users" "I") ∈ gw := gm 63 (by decide +kernel) rfl
theorem w_64 : (Cond.fieldLink "FairBlocks$Outlook" (75 : Nat) "FairBlocks$Plan" "users" "I") ∈ gw := gm 64 (by decide +kernel) rfl
theorem w_65 : (Cond.fieldLink "FairBlocks" (108 : Nat) "FairBlocks$Plan" "users" "I") ∈ gw := gm 65 (by decide +kernel) rfl
theorem w_66 : (Cond.fieldLink "FairBlocks$Text" (42 : Nat) "FairBlocks$Plan" "users" "I") ∈ gw := gm 66 (by decide +kernel) rfl
theorem w_67 : (Cond.fieldLink "FairBlocks$Plan" (21 : Nat) "FairBlocks$Plan" "rates" "[I") ∈ gw := gm 67 (by decide +kernel) rfl
theorem w_68 : (Cond.fieldLink "FairBlocks$Plan" (25 : Nat) "FairBlocks$Plan" "rateCounts" "[I") ∈ gw := gm 68 (by decide +kernel) rfl
theorem w_80 : (Cond.classLink "FairBlocks$Bench" (16 : Nat) "FairBlocks$Standing") ∈ gw := gm 80 (by decide +kernel) rfl
theorem w_81 : (Cond.instantiable "FairBlocks$Standing" (3 : Nat)) ∈ gw := gm 81 (by decide +kernel) rfl
theorem w_82 : (Cond.methodLink "FairBlocks$Bench" (18 : Nat) ({ cls := "FairBlocks$Standing", name := "<init>", desc := "()V" } : MethodName)) ∈ gw := gm 82 (by decide +kernel) rfl
theorem w_83 : (Cond.instanceMethod ({ cls := "FairBlocks$Standing", name := "<init>", desc := "()V" } : MethodName)) ∈ gw := gm 83 (by decide +kernel) rfl
theorem w_84 : (Cond.code ({ cls := "FairBlocks$Standing", name := "<init>", desc := "()V" } : MethodName) prog_10_method_1_code (2 : Nat) (Option.none : Option FieldType)) ∈ gw := gm 84 (by decide +kernel) rfl
theorem w_85 : (Cond.methodLink "FairBlocks$Standing" (3 : Nat) ({ cls := "java/lang/Object", name := "<init>", desc := "()V" } : MethodName)) ∈ gw := gm 85 (by decide +kernel) rfl
theorem w_86 : (Cond.classLink "FairBlocks$Standing" (9 : Nat) "FairBlocks$User") ∈ gw := gm 86 (by decide +kernel) rfl
theorem w_88 : (Cond.instantiable "FairBlocks$User" (10 : Nat)) ∈ gw := gm 88 (by decide +kernel) rfl
theorem w_90 : (Cond.instanceMethod ({ cls := "FairBlocks$User", name := "<init>", desc := "()V" } : MethodName)) ∈ gw := gm 90 (by decide +kernel) rfl
theorem w_91 : (Cond.code ({ cls := "FairBlocks$User", name := "<init>", desc := "()V" } : MethodName) prog_12_method_1_code (1 : Nat) (Option.none : Option FieldType)) ∈ gw := gm 91 (by decide +kernel) rfl
theorem w_92 : (Cond.methodLink "FairBlocks$User" (3 : Nat) ({ cls := "java/lang/Object", name := "<init>", desc := "()V" } : MethodName)) ∈ gw := gm 92 (by decide +kernel) rfl
theorem w_93 : (Cond.fieldLink "FairBlocks$User" (9 : Nat) "FairBlocks$User" "comes" "I") ∈ gw := gm 93 (by decide +kernel) rfl
theorem w_94 : (Cond.fieldLink "FairBlocks$Scheduler" (68 : Nat) "FairBlocks$User" "comes" "I") ∈ gw := gm 94 (by decide +kernel) rfl
theorem w_95 : (Cond.fieldLink "FairBlocks$User" (15 : Nat) "FairBlocks$User" "weight" "I") ∈ gw := gm 95 (by decide +kernel) rfl
theorem w_96 : (Cond.fieldLink "FairBlocks$Outlook" (53 : Nat) "FairBlocks$User" "weight" "I") ∈ gw := gm 96 (by decide +kernel) rfl
theorem w_97 : (Cond.fieldLink "FairBlocks$Court" (93 : Nat) "FairBlocks$User" "weight" "I") ∈ gw := gm 97 (by decide +kernel) rfl
theorem w_98 : (Cond.fieldLink "FairBlocks$Scheduler" (116 : Nat) "FairBlocks$User" "weight" "I") ∈ gw := gm 98 (by decide +kernel) rfl
theorem w_99 : (Cond.fieldLink "FairBlocks$User" (18 : Nat) "FairBlocks$User" "loses" "I") ∈ gw := gm 99 (by decide +kernel) rfl
theorem w_100 : (Cond.fieldLink "FairBlocks$User" (21 : Nat) "FairBlocks$User" "off" "Z") ∈ gw := gm 100 (by decide +kernel) rfl
theorem w_101 : (Cond.fieldLink "FairBlocks$Standing" (29 : Nat) "FairBlocks$User" "off" "Z") ∈ gw := gm 101 (by decide +kernel) rfl
theorem w_102 : (Cond.fieldLink "FairBlocks$Sightings" (54 : Nat) "FairBlocks$User" "off" "Z") ∈ gw := gm 102 (by decide +kernel) rfl
theorem w_103 : (Cond.fieldLink "FairBlocks$Chances" (59 : Nat) "FairBlocks$User" "off" "Z") ∈ gw := gm 103 (by decide +kernel) rfl
theorem w_104 : (Cond.fieldLink "FairBlocks$Court" (86 : Nat) "FairBlocks$User" "off" "Z") ∈ gw := gm 104 (by decide +kernel) rfl
theorem w_105 : (Cond.fieldLink "FairBlocks$Scheduler" (88 : Nat) "FairBlocks$User" "off" "Z") ∈ gw := gm 105 (by decide +kernel) rfl
theorem w_106 : (Cond.fieldLink "FairBlocks" (147 : Nat) "FairBlocks$User" "off" "Z") ∈ gw := gm 106 (by decide +kernel) rfl
theorem w_107 : (Cond.fieldLink "FairBlocks$User" (25 : Nat) "FairBlocks$User" "queue" "I") ∈ gw := gm 107 (by decide +kernel) rfl
theorem w_108 : (Cond.fieldLink "FairBlocks$Scheduler" (107 : Nat) "FairBlocks$User" "queue" "I") ∈ gw := gm 108 (by decide +kernel) rfl
theorem w_109 : (Cond.fieldLink "FairBlocks$User" (28 : Nat) "FairBlocks$User" "toRepeat" "I") ∈ gw := gm 109 (by decide +kernel) rfl
theorem w_110 : (Cond.fieldLink "FairBlocks$Scheduler" (110 : Nat) "FairBlocks$User" "toRepeat" "I") ∈ gw := gm 110 (by decide +kernel) rfl
theorem w_111 : (Cond.fieldLink "FairBlocks$User" (31 : Nat) "FairBlocks$User" "mean" "I") ∈ gw := gm 111 (by decide +kernel) rfl
theorem w_112 : (Cond.fieldLink "FairBlocks$Scheduler" (82 : Nat) "FairBlocks$User" "mean" "I") ∈ gw := gm 112 (by decide +kernel) rfl
theorem w_113 : (Cond.fieldLink "FairBlocks$User" (34 : Nat) "FairBlocks$User" "wait" "I") ∈ gw := gm 113 (by decide +kernel) rfl
theorem w_114 : (Cond.fieldLink "FairBlocks$Outlook" (37 : Nat) "FairBlocks$User" "wait" "I") ∈ gw := gm 114 (by decide +kernel) rfl
theorem w_115 : (Cond.fieldLink "FairBlocks$Court" (70 : Nat) "FairBlocks$User" "wait" "I") ∈ gw := gm 115 (by decide +kernel) rfl
theorem w_116 : (Cond.fieldLink "FairBlocks$Sightings" (95 : Nat) "FairBlocks$User" "wait" "I") ∈ gw := gm 116 (by decide +kernel) rfl
theorem w_117 : (Cond.fieldLink "FairBlocks$Scheduler" (96 : Nat) "FairBlocks$User" "wait" "I") ∈ gw := gm 117 (by decide +kernel) rfl
theorem w_118 : (Cond.fieldLink "FairBlocks$User" (37 : Nat) "FairBlocks$User" "sent" "I") ∈ gw := gm 118 (by decide +kernel) rfl
theorem w_119 : (Cond.fieldLink "FairBlocks$User" (40 : Nat) "FairBlocks$User" "got" "I") ∈ gw := gm 119 (by decide +kernel) rfl
theorem w_120 : (Cond.fieldLink "FairBlocks$Outlook" (64 : Nat) "FairBlocks$User" "got" "I") ∈ gw := gm 120 (by decide +kernel) rfl
theorem w_142 : (Cond.fieldLink "FairBlocks$Standing" (11 : Nat) "FairBlocks$Standing" "users" "[LFairBlocks$User;") ∈ gw := gm 142 (by decide +kernel) rfl
theorem w_143 : (Cond.fieldLink "FairBlocks$Outlook" (31 : Nat) "FairBlocks$Standing" "users" "[LFairBlocks$User;") ∈ gw := gm 143 (by decide +kernel) rfl
theorem w_144 : (Cond.fieldLink "FairBlocks$Sightings" (49 : Nat) "FairBlocks$Standing" "users" "[LFairBlocks$User;") ∈ gw := gm 144 (by decide +kernel) rfl
theorem w_145 : (Cond.fieldLink "FairBlocks$Chances" (56 : Nat) "FairBlocks$Standing" "users" "[LFairBlocks$User;") ∈ gw := gm 145 (by decide +kernel) rfl
theorem w_146 : (Cond.fieldLink "FairBlocks$Scheduler" (46 : Nat) "FairBlocks$Standing" "users" "[LFairBlocks$User;") ∈ gw := gm 146 (by decide +kernel) rfl
theorem w_147 : (Cond.fieldLink "FairBlocks$Court" (58 : Nat) "FairBlocks$Standing" "users" "[LFairBlocks$User;") ∈ gw := gm 147 (by decide +kernel) rfl
theorem w_148 : (Cond.fieldLink "FairBlocks" (124 : Nat) "FairBlocks$Standing" "users" "[LFairBlocks$User;") ∈ gw := gm 148 (by decide +kernel) rfl
theorem w_149 : (Cond.fieldLink "FairBlocks$Text" (53 : Nat) "FairBlocks$Standing" "users" "[LFairBlocks$User;") ∈ gw := gm 149 (by decide +kernel) rfl
theorem w_150 : (Cond.fieldLink "FairBlocks$Standing" (17 : Nat) "FairBlocks$Standing" "patience" "I") ∈ gw := gm 150 (by decide +kernel) rfl
theorem w_151 : (Cond.fieldLink "FairBlocks$Text" (45 : Nat) "FairBlocks$Standing" "patience" "I") ∈ gw := gm 151 (by decide +kernel) rfl
theorem w_152 : (Cond.fieldLink "FairBlocks$Scheduler" (113 : Nat) "FairBlocks$Standing" "patience" "I") ∈ gw := gm 152 (by decide +kernel) rfl
theorem w_153 : (Cond.fieldLink "FairBlocks" (160 : Nat) "FairBlocks$Standing" "patience" "I") ∈ gw := gm 153 (by decide +kernel) rfl
theorem w_154 : (Cond.fieldLink "FairBlocks$Standing" (21 : Nat) "FairBlocks$Standing" "clock" "I") ∈ gw := gm 154 (by decide +kernel) rfl
theorem w_155 : (Cond.fieldLink "FairBlocks$Scheduler" (75 : Nat) "FairBlocks$Standing" "clock" "I") ∈ gw := gm 155 (by decide +kernel) rfl
theorem w_156 : (Cond.fieldLink "FairBlocks$Text" (50 : Nat) "FairBlocks$Standing" "clock" "I") ∈ gw := gm 156 (by decide +kernel) rfl
theorem w_157 : (Cond.fieldLink "FairBlocks" (117 : Nat) "FairBlocks$Standing" "clock" "I") ∈ gw := gm 157 (by decide +kernel) rfl
theorem w_165 : (Cond.classLink "FairBlocks$Bench" (26 : Nat) "FairBlocks$Scheduler") ∈ gw := gm 165 (by decide +kernel) rfl
theorem w_166 : (Cond.instantiable "FairBlocks$Scheduler" (5 : Nat)) ∈ gw := gm 166 (by decide +kernel) rfl
theorem w_167 : (Cond.methodLink "FairBlocks$Bench" (28 : Nat) ({ cls := "FairBlocks$Scheduler", name := "<init>", desc := "(LFairBlocks$Plan;)V" } : MethodName)) ∈ gw := gm 167 (by decide +kernel) rfl
theorem w_168 : (Cond.instanceMethod ({ cls := "FairBlocks$Scheduler", name := "<init>", desc := "(LFairBlocks$Plan;)V" } : MethodName)) ∈ gw := gm 168 (by decide +kernel) rfl
theorem w_169 : (Cond.code ({ cls := "FairBlocks$Scheduler", name := "<init>", desc := "(LFairBlocks$Plan;)V" } : MethodName) prog_8_method_1_code (2 : Nat) (Option.none : Option FieldType)) ∈ gw := gm 169 (by decide +kernel) rfl
theorem w_170 : (Cond.methodLink "FairBlocks$Scheduler" (3 : Nat) ({ cls := "java/lang/Object", name := "<init>", desc := "()V" } : MethodName)) ∈ gw := gm 170 (by decide +kernel) rfl
theorem w_171 : (Cond.fieldLink "FairBlocks$Scheduler" (24 : Nat) "FairBlocks$Scheduler" "plan" "LFairBlocks$Plan;") ∈ gw := gm 171 (by decide +kernel) rfl
theorem w_172 : (Cond.fieldLink "FairBlocks$Scheduler" (9 : Nat) "FairBlocks$Scheduler" "rates" "[I") ∈ gw := gm 172 (by decide +kernel) rfl
theorem w_173 : (Cond.fieldLink "FairBlocks$Scheduler" (15 : Nat) "FairBlocks$Scheduler" "latestBlock" "[I") ∈ gw := gm 173 (by decide +kernel) rfl
theorem w_174 : (Cond.fieldLink "FairBlocks$Scheduler" (18 : Nat) "FairBlocks$Scheduler" "gotNow" "[I") ∈ gw := gm 174 (by decide +kernel) rfl
theorem w_175 : (Cond.fieldLink "FairBlocks$Scheduler" (21 : Nat) "FairBlocks$Scheduler" "holders" "[I") ∈ gw := gm 175 (by decide +kernel) rfl
theorem w_187 : (Cond.fieldLink "FairBlocks$Bench" (10 : Nat) "FairBlocks$Bench" "plan" "LFairBlocks$Plan;") ∈ gw := gm 187 (by decide +kernel) rfl
theorem w_188 : (Cond.fieldLink "FairBlocks" (23 : Nat) "FairBlocks$Bench" "plan" "LFairBlocks$Plan;") ∈ gw := gm 188 (by decide +kernel) rfl
theorem w_189 : (Cond.fieldLink "FairBlocks$Chances" (15 : Nat) "FairBlocks$Bench" "plan" "LFairBlocks$Plan;") ∈ gw := gm 189 (by decide +kernel) rfl
theorem w_190 : (Cond.fieldLink "FairBlocks$Sightings" (35 : Nat) "FairBlocks$Bench" "plan" "LFairBlocks$Plan;") ∈ gw := gm 190 (by decide +kernel) rfl
theorem w_191 : (Cond.fieldLink "FairBlocks$Court" (38 : Nat) "FairBlocks$Bench" "plan" "LFairBlocks$Plan;") ∈ gw := gm 191 (by decide +kernel) rfl
theorem w_192 : (Cond.fieldLink "FairBlocks$Outlook" (71 : Nat) "FairBlocks$Bench" "plan" "LFairBlocks$Plan;") ∈ gw := gm 192 (by decide +kernel) rfl
theorem w_193 : (Cond.fieldLink "FairBlocks$Bench" (19 : Nat) "FairBlocks$Bench" "live" "LFairBlocks$Standing;") ∈ gw := gm 193 (by decide +kernel) rfl
theorem w_194 : (Cond.fieldLink "FairBlocks" (28 : Nat) "FairBlocks$Bench" "live" "LFairBlocks$Standing;") ∈ gw := gm 194 (by decide +kernel) rfl
theorem w_195 : (Cond.fieldLink "FairBlocks$Chances" (27 : Nat) "FairBlocks$Bench" "live" "LFairBlocks$Standing;") ∈ gw := gm 195 (by decide +kernel) rfl
theorem w_196 : (Cond.fieldLink "FairBlocks$Sightings" (45 : Nat) "FairBlocks$Bench" "live" "LFairBlocks$Standing;") ∈ gw := gm 196 (by decide +kernel) rfl
theorem w_197 : (Cond.fieldLink "FairBlocks$Outlook" (67 : Nat) "FairBlocks$Bench" "live" "LFairBlocks$Standing;") ∈ gw := gm 197 (by decide +kernel) rfl
theorem w_198 : (Cond.fieldLink "FairBlocks$Bench" (23 : Nat) "FairBlocks$Bench" "trial" "LFairBlocks$Standing;") ∈ gw := gm 198 (by decide +kernel) rfl
theorem w_199 : (Cond.fieldLink "FairBlocks$Bench" (31 : Nat) "FairBlocks$Bench" "scheduler" "LFairBlocks$Scheduler;") ∈ gw := gm 199 (by decide +kernel) rfl
theorem w_200 : (Cond.fieldLink "FairBlocks$Outlook" (21 : Nat) "FairBlocks$Bench" "scheduler" "LFairBlocks$Scheduler;") ∈ gw := gm 200 (by decide +kernel) rfl
theorem w_201 : (Cond.fieldLink "FairBlocks$Chances" (65 : Nat) "FairBlocks$Bench" "scheduler" "LFairBlocks$Scheduler;") ∈ gw := gm 201 (by decide +kernel) rfl
theorem w_202 : (Cond.fieldLink "FairBlocks$Sightings" (72 : Nat) "FairBlocks$Bench" "scheduler" "LFairBlocks$Scheduler;") ∈ gw := gm 202 (by decide +kernel) rfl
theorem w_203 : (Cond.fieldLink "FairBlocks$Court" (42 : Nat) "FairBlocks$Bench" "scheduler" "LFairBlocks$Scheduler;") ∈ gw := gm 203 (by decide +kernel) rfl
theorem w_204 : (Cond.fieldLink "FairBlocks" (137 : Nat) "FairBlocks$Bench" "scheduler" "LFairBlocks$Scheduler;") ∈ gw := gm 204 (by decide +kernel) rfl
theorem w_214 : (Cond.classLink "FairBlocks" (33 : Nat) "FairBlocks$Acts") ∈ gw := gm 214 (by decide +kernel) rfl
theorem w_215 : (Cond.instantiable "FairBlocks$Acts" (3 : Nat)) ∈ gw := gm 215 (by decide +kernel) rfl
theorem w_216 : (Cond.methodLink "FairBlocks" (35 : Nat) ({ cls := "FairBlocks$Acts", name := "<init>", desc := "()V" } : MethodName)) ∈ gw := gm 216 (by decide +kernel) rfl
theorem w_217 : (Cond.instanceMethod ({ cls := "FairBlocks$Acts", name := "<init>", desc := "()V" } : MethodName)) ∈ gw := gm 217 (by decide +kernel) rfl
theorem w_218 : (Cond.code ({ cls := "FairBlocks$Acts", name := "<init>", desc := "()V" } : MethodName) prog_2_method_1_code (2 : Nat) (Option.none : Option FieldType)) ∈ gw := gm 218 (by decide +kernel) rfl
theorem w_219 : (Cond.methodLink "FairBlocks$Acts" (3 : Nat) ({ cls := "java/lang/Object", name := "<init>", desc := "()V" } : MethodName)) ∈ gw := gm 219 (by decide +kernel) rfl
theorem w_220 : (Cond.classLink "FairBlocks$Acts" (9 : Nat) "FairBlocks$Standing") ∈ gw := gm 220 (by decide +kernel) rfl
theorem w_222 : (Cond.methodLink "FairBlocks$Acts" (24 : Nat) ({ cls := "FairBlocks$Standing", name := "<init>", desc := "()V" } : MethodName)) ∈ gw := gm 222 (by decide +kernel) rfl
theorem w_223 : (Cond.fieldLink "FairBlocks$Acts" (11 : Nat) "FairBlocks$Acts" "before" "[LFairBlocks$Standing;") ∈ gw := gm 223 (by decide +kernel) rfl
theorem w_224 : (Cond.fieldLink "FairBlocks$Acts" (17 : Nat) "FairBlocks$Acts" "first" "I") ∈ gw := gm 224 (by decide +kernel) rfl
theorem w_225 : (Cond.fieldLink "FairBlocks$Acts" (21 : Nat) "FairBlocks$Acts" "size" "I") ∈ gw := gm 225 (by decide +kernel) rfl
theorem w_226 : (Cond.fieldLink "FairBlocks" (163 : Nat) "FairBlocks$Acts" "size" "I") ∈ gw := gm 226 (by decide +kernel) rfl
theorem w_234 : (Cond.classLink "FairBlocks" (40 : Nat) "FairBlocks$Standing") ∈ gw := gm 234 (by decide +kernel) rfl
theorem w_235 : (Cond.methodLink "FairBlocks" (46 : Nat) ({ cls := "FairBlocks$Standing", name := "<init>", desc := "()V" } : MethodName)) ∈ gw := gm 235 (by decide +kernel) rfl
theorem w_236 : (Cond.classLink "FairBlocks" (51 : Nat) "FairBlocks$Outlook") ∈ gw := gm 236 (by decide +kernel) rfl
theorem w_237 : (Cond.instantiable "FairBlocks$Outlook" (1 : Nat)) ∈ gw := gm 237 (by decide +kernel) rfl
theorem w_238 : (Cond.methodLink "FairBlocks" (53 : Nat) ({ cls := "FairBlocks$Outlook", name := "<init>", desc := "(LFairBlocks$Bench;)V" } : MethodName)) ∈ gw := gm 238 (by decide +kernel) rfl
theorem w_239 : (Cond.instanceMethod ({ cls := "FairBlocks$Outlook", name := "<init>", desc := "(LFairBlocks$Bench;)V" } : MethodName)) ∈ gw := gm 239 (by decide +kernel) rfl
theorem w_240 : (Cond.code ({ cls := "FairBlocks$Outlook", name := "<init>", desc := "(LFairBlocks$Bench;)V" } : MethodName) prog_6_method_1_code (2 : Nat) (Option.none : Option FieldType)) ∈ gw := gm 240 (by decide +kernel) rfl
theorem w_241 : (Cond.methodLink "FairBlocks$Outlook" (3 : Nat) ({ cls := "java/lang/Object", name := "<init>", desc := "()V" } : MethodName)) ∈ gw := gm 241 (by decide +kernel) rfl
theorem w_242 : (Cond.fieldLink "FairBlocks$Outlook" (9 : Nat) "FairBlocks$Outlook" "bench" "LFairBlocks$Bench;") ∈ gw := gm 242 (by decide +kernel) rfl
theorem w_246 : (Cond.arrayClass FieldType.boolean) ∈ gw := gm 246 (by decide +kernel) rfl
theorem w_247 : (Cond.classLink "FairBlocks" (60 : Nat) "FairBlocks$Court") ∈ gw := gm 247 (by decide +kernel) rfl
theorem w_248 : (Cond.instantiable "FairBlocks$Court" (2 : Nat)) ∈ gw := gm 248 (by decide +kernel) rfl
theorem w_249 : (Cond.methodLink "FairBlocks" (62 : Nat) ({ cls := "FairBlocks$Court", name := "<init>", desc := "(LFairBlocks$Bench;)V" } : MethodName)) ∈ gw := gm 249 (by decide +kernel) rfl
theorem w_250 : (Cond.instanceMethod ({ cls := "FairBlocks$Court", name := "<init>", desc := "(LFairBlocks$Bench;)V" } : MethodName)) ∈ gw := gm 250 (by decide +kernel) rfl
theorem w_251 : (Cond.code ({ cls := "FairBlocks$Court", name := "<init>", desc := "(LFairBlocks$Bench;)V" } : MethodName) prog_5_method_1_code (2 : Nat) (Option.none : Option FieldType)) ∈ gw := gm 251 (by decide +kernel) rfl
theorem w_252 : (Cond.methodLink "FairBlocks$Court" (3 : Nat) ({ cls := "java/lang/Object", name := "<init>", desc := "()V" } : MethodName)) ∈ gw := gm 252 (by decide +kernel) rfl
theorem w_253 : (Cond.classLink "FairBlocks$Court" (15 : Nat) "FairBlocks$Standing") ∈ gw := gm 253 (by decide +kernel) rfl
theorem w_254 : (Cond.methodLink "FairBlocks$Court" (17 : Nat) ({ cls := "FairBlocks$Standing", name := "<init>", desc := "()V" } : MethodName)) ∈ gw := gm 254 (by decide +kernel) rfl
theorem w_255 : (Cond.fieldLink "FairBlocks$Court" (9 : Nat) "FairBlocks$Court" "bench" "LFairBlocks$Bench;") ∈ gw := gm 255 (by decide +kernel) rfl
theorem w_256 : (Cond.fieldLink "FairBlocks$Court" (18 : Nat) "FairBlocks$Court" "peek" "LFairBlocks$Standing;") ∈ gw := gm 256 (by decide +kernel) rfl
theorem w_262 : (Cond.classLink "FairBlocks" (67 : Nat) "FairBlocks$Sightings") ∈ gw := gm 262 (by decide +kernel) rfl
theorem w_263 : (Cond.instantiable "FairBlocks$Sightings" (7 : Nat)) ∈ gw := gm 263 (by decide +kernel) rfl
theorem w_264 : (Cond.methodLink "FairBlocks" (69 : Nat) ({ cls := "FairBlocks$Sightings", name := "<init>", desc := "(LFairBlocks$Bench;)V" } : MethodName)) ∈ gw := gm 264 (by decide +kernel) rfl
theorem w_265 : (Cond.instanceMethod ({ cls := "FairBlocks$Sightings", name := "<init>", desc := "(LFairBlocks$Bench;)V" } : MethodName)) ∈ gw := gm 265 (by decide +kernel) rfl
theorem w_266 : (Cond.code ({ cls := "FairBlocks$Sightings", name := "<init>", desc := "(LFairBlocks$Bench;)V" } : MethodName) prog_9_method_1_code (2 : Nat) (Option.none : Option FieldType)) ∈ gw := gm 266 (by decide +kernel) rfl
theorem w_267 : (Cond.methodLink "FairBlocks$Sightings" (3 : Nat) ({ cls := "java/lang/Object", name := "<init>", desc := "()V" } : MethodName)) ∈ gw := gm 267 (by decide +kernel) rfl
theorem w_268 : (Cond.fieldLink "FairBlocks$Sightings" (31 : Nat) "FairBlocks$Sightings" "bench" "LFairBlocks$Bench;") ∈ gw := gm 268 (by decide +kernel) rfl
theorem w_269 : (Cond.fieldLink "FairBlocks$Sightings" (9 : Nat) "FairBlocks$Sightings" "slots" "[I") ∈ gw := gm 269 (by decide +kernel) rfl
theorem w_270 : (Cond.fieldLink "FairBlocks$Sightings" (15 : Nat) "FairBlocks$Sightings" "users" "[I") ∈ gw := gm 270 (by decide +kernel) rfl
theorem w_271 : (Cond.fieldLink "FairBlocks$Sightings" (18 : Nat) "FairBlocks$Sightings" "whats" "[I") ∈ gw := gm 271 (by decide +kernel) rfl
theorem w_272 : (Cond.fieldLink "FairBlocks$Sightings" (21 : Nat) "FairBlocks$Sightings" "figures" "[I") ∈ gw := gm 272 (by decide +kernel) rfl
theorem w_273 : (Cond.fieldLink "FairBlocks$Sightings" (24 : Nat) "FairBlocks$Sightings" "wases" "[I") ∈ gw := gm 273 (by decide +kernel) rfl
theorem w_274 : (Cond.fieldLink "FairBlocks$Sightings" (27 : Nat) "FairBlocks$Sightings" "size" "I") ∈ gw := gm 274 (by decide +kernel) rfl
theorem w_275 : (Cond.fieldLink "FairBlocks" (200 : Nat) "FairBlocks$Sightings" "size" "I") ∈ gw := gm 275 (by decide +kernel) rfl
theorem w_291 : (Cond.classLink "FairBlocks" (74 : Nat) "FairBlocks$Chances") ∈ gw := gm 291 (by decide +kernel) rfl
theorem w_292 : (Cond.instantiable "FairBlocks$Chances" (1 : Nat)) ∈ gw := gm 292 (by decide +kernel) rfl
theorem w_293 : (Cond.methodLink "FairBlocks" (76 : Nat) ({ cls := "FairBlocks$Chances", name := "<init>", desc := "(LFairBlocks$Bench;)V" } : MethodName)) ∈ gw := gm 293 (by decide +kernel) rfl
theorem w_294 : (Cond.instanceMethod ({ cls := "FairBlocks$Chances", name := "<init>", desc := "(LFairBlocks$Bench;)V" } : MethodName)) ∈ gw := gm 294 (by decide +kernel) rfl
theorem w_295 : (Cond.code ({ cls := "FairBlocks$Chances", name := "<init>", desc := "(LFairBlocks$Bench;)V" } : MethodName) prog_4_method_1_code (2 : Nat) (Option.none : Option FieldType)) ∈ gw := gm 295 (by decide +kernel) rfl
theorem w_296 : (Cond.methodLink "FairBlocks$Chances" (3 : Nat) ({ cls := "java/lang/Object", name := "<init>", desc := "()V" } : MethodName)) ∈ gw := gm 296 (by decide +kernel) rfl
theorem w_297 : (Cond.fieldLink "FairBlocks$Chances" (9 : Nat) "FairBlocks$Chances" "bench" "LFairBlocks$Bench;") ∈ gw := gm 297 (by decide +kernel) rfl
theorem w_301 : (Cond.fieldLink "FairBlocks" (10 : Nat) "FairBlocks" "text" "LFairBlocks$Text;") ∈ gw := gm 301 (by decide +kernel) rfl
theorem w_302 : (Cond.fieldLink "FairBlocks" (19 : Nat) "FairBlocks" "bench" "LFairBlocks$Bench;") ∈ gw := gm 302 (by decide +kernel) rfl
theorem w_303 : (Cond.fieldLink "FairBlocks" (27 : Nat) "FairBlocks" "plan" "LFairBlocks$Plan;") ∈ gw := gm 303 (by decide +kernel) rfl
theorem w_304 : (Cond.fieldLink "FairBlocks" (32 : Nat) "FairBlocks" "live" "LFairBlocks$Standing;") ∈ gw := gm 304 (by decide +kernel) rfl
theorem w_305 : (Cond.fieldLink "FairBlocks" (36 : Nat) "FairBlocks" "acts" "LFairBlocks$Acts;") ∈ gw := gm 305 (by decide +kernel) rfl
theorem w_306 : (Cond.fieldLink "FairBlocks" (42 : Nat) "FairBlocks" "kept" "[LFairBlocks$Standing;") ∈ gw := gm 306 (by decide +kernel) rfl
theorem w_307 : (Cond.fieldLink "FairBlocks" (47 : Nat) "FairBlocks" "isKept" "[Z") ∈ gw := gm 307 (by decide +kernel) rfl
theorem w_308 : (Cond.fieldLink "FairBlocks" (56 : Nat) "FairBlocks" "outlook" "LFairBlocks$Outlook;") ∈ gw := gm 308 (by decide +kernel) rfl
theorem w_309 : (Cond.fieldLink "FairBlocks" (63 : Nat) "FairBlocks" "court" "LFairBlocks$Court;") ∈ gw := gm 309 (by decide +kernel) rfl
theorem w_310 : (Cond.fieldLink "FairBlocks" (70 : Nat) "FairBlocks" "sightings" "LFairBlocks$Sightings;") ∈ gw := gm 310 (by decide +kernel) rfl
theorem w_311 : (Cond.fieldLink "FairBlocks" (77 : Nat) "FairBlocks" "chances" "LFairBlocks$Chances;") ∈ gw := gm 311 (by decide +kernel) rfl
theorem w_312 : (Cond.fieldLink "FairBlocks" (81 : Nat) "FairBlocks" "seedNow" "J") ∈ gw := gm 312 (by decide +kernel) rfl
theorem w_338 : (Cond.methodLink "FairBlocksLaw" (13 : Nat) ({ cls := "FairBlocks", name := "write", desc := "(I)I" } : MethodName)) ∈ gw := gm 338 (by decide +kernel) rfl
theorem w_339 : (Cond.instanceMethod ({ cls := "FairBlocks", name := "write", desc := "(I)I" } : MethodName)) ∈ gw := gm 339 (by decide +kernel) rfl
theorem w_340 : (Cond.selects "FairBlocks" ({ cls := "FairBlocks", name := "write", desc := "(I)I" } : MethodName) ({ cls := "FairBlocks", name := "write", desc := "(I)I" } : MethodName)) ∈ gw := gm 340 (by decide +kernel) rfl
theorem w_341 : (Cond.code ({ cls := "FairBlocks", name := "write", desc := "(I)I" } : MethodName) prog_1_method_2_code (2 : Nat) (Option.some FieldType.int)) ∈ gw := gm 341 (by decide +kernel) rfl
theorem w_342 : (Cond.methodLink "FairBlocks" (85 : Nat) ({ cls := "FairBlocks", name := "within", desc := "(III)Z" } : MethodName)) ∈ gw := gm 342 (by decide +kernel) rfl
theorem w_343 : (Cond.static ({ cls := "FairBlocks", name := "within", desc := "(III)Z" } : MethodName)) ∈ gw := gm 343 (by decide +kernel) rfl
theorem w_344 : (Cond.code ({ cls := "FairBlocks", name := "within", desc := "(III)Z" } : MethodName) prog_1_method_29_code (3 : Nat) (Option.some FieldType.boolean)) ∈ gw := gm 344 (by decide +kernel) rfl
theorem w_345 : (Cond.methodLink "FairBlocks" (93 : Nat) ({ cls := "FairBlocks$Text", name := "add", desc := "(I)V" } : MethodName)) ∈ gw := gm 345 (by decide +kernel) rfl
theorem w_346 : (Cond.instanceMethod ({ cls := "FairBlocks$Text", name := "add", desc := "(I)V" } : MethodName)) ∈ gw := gm 346 (by decide +kernel) rfl
theorem w_347 : (Cond.selects "FairBlocks$Text" ({ cls := "FairBlocks$Text", name := "add", desc := "(I)V" } : MethodName) ({ cls := "FairBlocks$Text", name := "add", desc := "(I)V" } : MethodName)) ∈ gw := gm 347 (by decide +kernel) rfl
theorem w_348 : (Cond.code ({ cls := "FairBlocks$Text", name := "add", desc := "(I)V" } : MethodName) prog_11_method_2_code (2 : Nat) (Option.none : Option FieldType)) ∈ gw := gm 348 (by decide +kernel) rfl
theorem w_349 : (Cond.methodLink "FairBlocksLaw" (18 : Nat) ({ cls := "FairBlocks", name := "wipe", desc := "()I" } : MethodName)) ∈ gw := gm 349 (by decide +kernel) rfl
theorem w_350 : (Cond.instanceMethod ({ cls := "FairBlocks", name := "wipe", desc := "()I" } : MethodName)) ∈ gw := gm 350 (by decide +kernel) rfl
theorem w_351 : (Cond.selects "FairBlocks" ({ cls := "FairBlocks", name := "wipe", desc := "()I" } : MethodName) ({ cls := "FairBlocks", name := "wipe", desc := "()I" } : MethodName)) ∈ gw := gm 351 (by decide +kernel) rfl
theorem w_352 : (Cond.code ({ cls := "FairBlocks", name := "wipe", desc := "()I" } : MethodName) prog_1_method_3_code (2 : Nat) (Option.some FieldType.int)) ∈ gw := gm 352 (by decide +kernel) rfl
theorem w_353 : (Cond.methodLink "FairBlocksLaw" (23 : Nat) ({ cls := "FairBlocks", name := "fault", desc := "()I" } : MethodName)) ∈ gw := gm 353 (by decide +kernel) rfl
theorem w_354 : (Cond.instanceMethod ({ cls := "FairBlocks", name := "fault", desc := "()I" } : MethodName)) ∈ gw := gm 354 (by decide +kernel) rfl
theorem w_355 : (Cond.selects "FairBlocks" ({ cls := "FairBlocks", name := "fault", desc := "()I" } : MethodName) ({ cls := "FairBlocks", name := "fault", desc := "()I" } : MethodName)) ∈ gw := gm 355 (by decide +kernel) rfl
theorem w_356 : (Cond.code ({ cls := "FairBlocks", name := "fault", desc := "()I" } : MethodName) prog_1_method_4_code (1 : Nat) (Option.some FieldType.int)) ∈ gw := gm 356 (by decide +kernel) rfl
theorem w_357 : (Cond.methodLink "FairBlocks" (97 : Nat) ({ cls := "FairBlocks$Text", name := "firstFault", desc := "()I" } : MethodName)) ∈ gw := gm 357 (by decide +kernel) rfl
theorem w_358 : (Cond.instanceMethod ({ cls := "FairBlocks$Text", name := "firstFault", desc := "()I" } : MethodName)) ∈ gw := gm 358 (by decide +kernel) rfl
theorem w_359 : (Cond.selects "FairBlocks$Text" ({ cls := "FairBlocks$Text", name := "firstFault", desc := "()I" } : MethodName) ({ cls := "FairBlocks$Text", name := "firstFault", desc := "()I" } : MethodName)) ∈ gw := gm 359 (by decide +kernel) rfl
theorem w_360 : (Cond.code ({ cls := "FairBlocks$Text", name := "firstFault", desc := "()I" } : MethodName) prog_11_method_3_code (4 : Nat) (Option.some FieldType.int)) ∈ gw := gm 360 (by decide +kernel) rfl
theorem w_361 : (Cond.methodLink "FairBlocks$Text" (19 : Nat) ({ cls := "FairBlocks$Text", name := "behind", desc := "(II)I" } : MethodName)) ∈ gw := gm 361 (by decide +kernel) rfl
theorem w_362 : (Cond.static ({ cls := "FairBlocks$Text", name := "behind", desc := "(II)I" } : MethodName)) ∈ gw := gm 362 (by decide +kernel) rfl
theorem w_363 : (Cond.code ({ cls := "FairBlocks$Text", name := "behind", desc := "(II)I" } : MethodName) prog_11_method_4_code (2 : Nat) (Option.some FieldType.int)) ∈ gw := gm 363 (by decide +kernel) rfl
theorem w_365 : (Cond.methodLink "FairBlocks$Text" (27 : Nat) ({ cls := "FairBlocks$Text", name := "behindRate", desc := "(II)I" } : MethodName)) ∈ gw := gm 365 (by decide +kernel) rfl
theorem w_366 : (Cond.static ({ cls := "FairBlocks$Text", name := "behindRate", desc := "(II)I" } : MethodName)) ∈ gw := gm 366 (by decide +kernel) rfl
theorem w_367 : (Cond.code ({ cls := "FairBlocks$Text", name := "behindRate", desc := "(II)I" } : MethodName) prog_11_method_5_code (2 : Nat) (Option.some FieldType.int)) ∈ gw := gm 367 (by decide +kernel) rfl
theorem w_368 : (Cond.methodLink "FairBlocksLaw" (27 : Nat) ({ cls := "FairBlocks", name := "cell", desc := "()I" } : MethodName)) ∈ gw := gm 368 (by decide +kernel) rfl
theorem w_369 : (Cond.instanceMethod ({ cls := "FairBlocks", name := "cell", desc := "()I" } : MethodName)) ∈ gw := gm 369 (by decide +kernel) rfl
theorem w_370 : (Cond.selects "FairBlocks" ({ cls := "FairBlocks", name := "cell", desc := "()I" } : MethodName) ({ cls := "FairBlocks", name := "cell", desc := "()I" } : MethodName)) ∈ gw := gm 370 (by decide +kernel) rfl
theorem w_371 : (Cond.code ({ cls := "FairBlocks", name := "cell", desc := "()I" } : MethodName) prog_1_method_5_code (2 : Nat) (Option.some FieldType.int)) ∈ gw := gm 371 (by decide +kernel) rfl
theorem w_372 : (Cond.methodLink "FairBlocks" (101 : Nat) ({ cls := "FairBlocks$Text", name := "readInto", desc := "(LFairBlocks$Plan;LFairBlocks$Standing;)V" } : MethodName)) ∈ gw := gm 372 (by decide +kernel) rfl
theorem w_373 : (Cond.instanceMethod ({ cls := "FairBlocks$Text", name := "readInto", desc := "(LFairBlocks$Plan;LFairBlocks$Standing;)V" } : MethodName)) ∈ gw := gm 373 (by decide +kernel) rfl
theorem w_374 : (Cond.selects "FairBlocks$Text" ({ cls := "FairBlocks$Text", name := "readInto", desc := "(LFairBlocks$Plan;LFairBlocks$Standing;)V" } : MethodName) ({ cls := "FairBlocks$Text", name := "readInto", desc := "(LFairBlocks$Plan;LFairBlocks$Standing;)V" } : MethodName)) ∈ gw := gm 374 (by decide +kernel) rfl
theorem w_375 : (Cond.code ({ cls := "FairBlocks$Text", name := "readInto", desc := "(LFairBlocks$Plan;LFairBlocks$Standing;)V" } : MethodName) prog_11_method_6_code (6 : Nat) (Option.none : Option FieldType)) ∈ gw := gm 375 (by decide +kernel) rfl
theorem w_376 : (Cond.methodLink "FairBlocks$Text" (30 : Nat) ({ cls := "FairBlocks$Text", name := "figure", desc := "(I)I" } : MethodName)) ∈ gw := gm 376 (by decide +kernel) rfl
theorem w_378 : (Cond.instanceMethod ({ cls := "FairBlocks$Text", name := "figure", desc := "(I)I" } : MethodName)) ∈ gw := gm 378 (by decide +kernel) rfl
theorem w_379 : (Cond.code ({ cls := "FairBlocks$Text", name := "figure", desc := "(I)I" } : MethodName) prog_11_method_7_code (2 : Nat) (Option.some FieldType.int)) ∈ gw := gm 379 (by decide +kernel) rfl
theorem w_380 : (Cond.methodLink "FairBlocks$Text" (56 : Nat) ({ cls := "FairBlocks$User", name := "begin", desc := "(III)V" } : MethodName)) ∈ gw := gm 380 (by decide +kernel) rfl
theorem w_381 : (Cond.instanceMethod ({ cls := "FairBlocks$User", name := "begin", desc := "(III)V" } : MethodName)) ∈ gw := gm 381 (by decide +kernel) rfl
theorem w_382 : (Cond.selects "FairBlocks$User" ({ cls := "FairBlocks$User", name := "begin", desc := "(III)V" } : MethodName) ({ cls := "FairBlocks$User", name := "begin", desc := "(III)V" } : MethodName)) ∈ gw := gm 382 (by decide +kernel) rfl
theorem w_383 : (Cond.code ({ cls := "FairBlocks$User", name := "begin", desc := "(III)V" } : MethodName) prog_12_method_2_code (4 : Nat) (Option.none : Option FieldType)) ∈ gw := gm 383 (by decide +kernel) rfl
theorem w_384 : (Cond.methodLink "FairBlocks$Text" (62 : Nat) ({ cls := "FairBlocks$Plan", name := "setRate", desc := "(III)V" } : MethodName)) ∈ gw := gm 384 (by decide +kernel) rfl
theorem w_385 : (Cond.instanceMethod ({ cls := "FairBlocks$Plan", name := "setRate", desc := "(III)V" } : MethodName)) ∈ gw := gm 385 (by decide +kernel) rfl
theorem w_386 : (Cond.selects "FairBlocks$Plan" ({ cls := "FairBlocks$Plan", name := "setRate", desc := "(III)V" } : MethodName) ({ cls := "FairBlocks$Plan", name := "setRate", desc := "(III)V" } : MethodName)) ∈ gw := gm 386 (by decide +kernel) rfl
theorem w_387 : (Cond.code ({ cls := "FairBlocks$Plan", name := "setRate", desc := "(III)V" } : MethodName) prog_7_method_3_code (4 : Nat) (Option.none : Option FieldType)) ∈ gw := gm 387 (by decide +kernel) rfl
theorem w_389 : (Cond.methodLink "FairBlocks" (105 : Nat) ({ cls := "FairBlocks$Acts", name := "forgetAll", desc := "()V" } : MethodName)) ∈ gw := gm 389 (by decide +kernel) rfl
theorem w_390 : (Cond.instanceMethod ({ cls := "FairBlocks$Acts", name := "forgetAll", desc := "()V" } : MethodName)) ∈ gw := gm 390 (by decide +kernel) rfl
theorem w_391 : (Cond.selects "FairBlocks$Acts" ({ cls := "FairBlocks$Acts", name := "forgetAll", desc := "()V" } : MethodName) ({ cls := "FairBlocks$Acts", name := "forgetAll", desc := "()V" } : MethodName)) ∈ gw := gm 391 (by decide +kernel) rfl
theorem w_392 : (Cond.code ({ cls := "FairBlocks$Acts", name := "forgetAll", desc := "()V" } : MethodName) prog_2_method_4_code (1 : Nat) (Option.none : Option FieldType)) ∈ gw := gm 392 (by decide +kernel) rfl
theorem w_393 : (Cond.methodLink "FairBlocksLaw" (31 : Nat) ({ cls := "FairBlocks", name := "user", desc := "(II)I" } : MethodName)) ∈ gw := gm 393 (by decide +kernel) rfl
theorem w_394 : (Cond.instanceMethod ({ cls := "FairBlocks", name := "user", desc := "(II)I" } : MethodName)) ∈ gw := gm 394 (by decide +kernel) rfl
theorem w_395 : (Cond.selects "FairBlocks" ({ cls := "FairBlocks", name := "user", desc := "(II)I" } : MethodName) ({ cls := "FairBlocks", name := "user", desc := "(II)I" } : MethodName)) ∈ gw := gm 395 (by decide +kernel) rfl
theorem w_396 : (Cond.code ({ cls := "FairBlocks", name := "user", desc := "(II)I" } : MethodName) prog_1_method_6_code (3 : Nat) (Option.some FieldType.int)) ∈ gw := gm 396 (by decide +kernel) rfl
theorem w_397 : (Cond.methodLink "FairBlocks" (113 : Nat) ({ cls := "FairBlocks$Plan", name := "has", desc := "(I)Z" } : MethodName)) ∈ gw := gm 397 (by decide +kernel) rfl
theorem w_398 : (Cond.instanceMethod ({ cls := "FairBlocks$Plan", name := "has", desc := "(I)Z" } : MethodName)) ∈ gw := gm 398 (by decide +kernel) rfl
theorem w_399 : (Cond.selects "FairBlocks$Plan" ({ cls := "FairBlocks$Plan", name := "has", desc := "(I)Z" } : MethodName) ({ cls := "FairBlocks$Plan", name := "has", desc := "(I)Z" } : MethodName)) ∈ gw := gm 399 (by decide +kernel) rfl
theorem w_400 : (Cond.code ({ cls := "FairBlocks$Plan", name := "has", desc := "(I)Z" } : MethodName) prog_7_method_2_code (2 : Nat) (Option.some FieldType.boolean)) ∈ gw := gm 400 (by decide +kernel) rfl
theorem w_401 : (Cond.methodLink "FairBlocks" (120 : Nat) ({ cls := "FairBlocks$Plan", name := "rateOf", desc := "(II)I" } : MethodName)) ∈ gw := gm 401 (by decide +kernel) rfl
theorem w_402 : (Cond.instanceMethod ({ cls := "FairBlocks$Plan", name := "rateOf", desc := "(II)I" } : MethodName)) ∈ gw := gm 402 (by decide +kernel) rfl
theorem w_403 : (Cond.selects "FairBlocks$Plan" ({ cls := "FairBlocks$Plan", name := "rateOf", desc := "(II)I" } : MethodName) ({ cls := "FairBlocks$Plan", name := "rateOf", desc := "(II)I" } : MethodName)) ∈ gw := gm 403 (by decide +kernel) rfl
theorem w_404 : (Cond.code ({ cls := "FairBlocks$Plan", name := "rateOf", desc := "(II)I" } : MethodName) prog_7_method_4_code (4 : Nat) (Option.some FieldType.int)) ∈ gw := gm 404 (by decide +kernel) rfl
theorem w_405 : (Cond.methodLink "FairBlocks" (127 : Nat) ({ cls := "FairBlocks$User", name := "told", desc := "(I)I" } : MethodName)) ∈ gw := gm 405 (by decide +kernel) rfl
theorem w_406 : (Cond.instanceMethod ({ cls := "FairBlocks$User", name := "told", desc := "(I)I" } : MethodName)) ∈ gw := gm 406 (by decide +kernel) rfl
theorem w_407 : (Cond.selects "FairBlocks$User" ({ cls := "FairBlocks$User", name := "told", desc := "(I)I" } : MethodName) ({ cls := "FairBlocks$User", name := "told", desc := "(I)I" } : MethodName)) ∈ gw := gm 407 (by decide +kernel) rfl
theorem w_408 : (Cond.code ({ cls := "FairBlocks$User", name := "told", desc := "(I)I" } : MethodName) prog_12_method_4_code (2 : Nat) (Option.some FieldType.int)) ∈ gw := gm 408 (by decide +kernel) rfl
theorem w_409 : (Cond.methodLink "FairBlocksLaw" (36 : Nat) ({ cls := "FairBlocks", name := "slot", desc := "(I)I" } : MethodName)) ∈ gw := gm 409 (by decide +kernel) rfl
theorem w_410 : (Cond.instanceMethod ({ cls := "FairBlocks", name := "slot", desc := "(I)I" } : MethodName)) ∈ gw := gm 410 (by decide +kernel) rfl
theorem w_411 : (Cond.selects "FairBlocks" ({ cls := "FairBlocks", name := "slot", desc := "(I)I" } : MethodName) ({ cls := "FairBlocks", name := "slot", desc := "(I)I" } : MethodName)) ∈ gw := gm 411 (by decide +kernel) rfl
theorem w_412 : (Cond.code ({ cls := "FairBlocks", name := "slot", desc := "(I)I" } : MethodName) prog_1_method_7_code (2 : Nat) (Option.some FieldType.int)) ∈ gw := gm 412 (by decide +kernel) rfl
theorem w_413 : (Cond.methodLink "FairBlocks" (133 : Nat) ({ cls := "FairBlocks$Acts", name := "remember", desc := "(LFairBlocks$Standing;)V" } : MethodName)) ∈ gw := gm 413 (by decide +kernel) rfl
theorem w_414 : (Cond.instanceMethod ({ cls := "FairBlocks$Acts", name := "remember", desc := "(LFairBlocks$Standing;)V" } : MethodName)) ∈ gw := gm 414 (by decide +kernel) rfl
theorem w_415 : (Cond.selects "FairBlocks$Acts" ({ cls := "FairBlocks$Acts", name := "remember", desc := "(LFairBlocks$Standing;)V" } : MethodName) ({ cls := "FairBlocks$Acts", name := "remember", desc := "(LFairBlocks$Standing;)V" } : MethodName)) ∈ gw := gm 415 (by decide +kernel) rfl
theorem w_416 : (Cond.code ({ cls := "FairBlocks$Acts", name := "remember", desc := "(LFairBlocks$Standing;)V" } : MethodName) prog_2_method_2_code (2 : Nat) (Option.none : Option FieldType)) ∈ gw := gm 416 (by decide +kernel) rfl
theorem w_417 : (Cond.methodLink "FairBlocks$Acts" (25 : Nat) ({ cls := "FairBlocks$Standing", name := "copyFrom", desc := "(LFairBlocks$Standing;)V" } : MethodName)) ∈ gw := gm 417 (by decide +kernel) rfl
theorem w_418 : (Cond.instanceMethod ({ cls := "FairBlocks$Standing", name := "copyFrom", desc := "(LFairBlocks$Standing;)V" } : MethodName)) ∈ gw := gm 418 (by decide +kernel) rfl
theorem w_419 : (Cond.selects "FairBlocks$Standing" ({ cls := "FairBlocks$Standing", name := "copyFrom", desc := "(LFairBlocks$Standing;)V" } : MethodName) ({ cls := "FairBlocks$Standing", name := "copyFrom", desc := "(LFairBlocks$Standing;)V" } : MethodName)) ∈ gw := gm 419 (by decide +kernel) rfl
theorem w_420 : (Cond.code ({ cls := "FairBlocks$Standing", name := "copyFrom", desc := "(LFairBlocks$Standing;)V" } : MethodName) prog_10_method_2_code (3 : Nat) (Option.none : Option FieldType)) ∈ gw := gm 420 (by decide +kernel) rfl
theorem w_421 : (Cond.methodLink "FairBlocks$Standing" (25 : Nat) ({ cls := "FairBlocks$User", name := "copyFrom", desc := "(LFairBlocks$User;)V" } : MethodName)) ∈ gw := gm 421 (by decide +kernel) rfl
theorem w_422 : (Cond.instanceMethod ({ cls := "FairBlocks$User", name := "copyFrom", desc := "(LFairBlocks$User;)V" } : MethodName)) ∈ gw := gm 422 (by decide +kernel) rfl
theorem w_423 : (Cond.selects "FairBlocks$User" ({ cls := "FairBlocks$User", name := "copyFrom", desc := "(LFairBlocks$User;)V" } : MethodName) ({ cls := "FairBlocks$User", name := "copyFrom", desc := "(LFairBlocks$User;)V" } : MethodName)) ∈ gw := gm 423 (by decide +kernel) rfl
theorem w_424 : (Cond.code ({ cls := "FairBlocks$User", name := "copyFrom", desc := "(LFairBlocks$User;)V" } : MethodName) prog_12_method_3_code (2 : Nat) (Option.none : Option FieldType)) ∈ gw := gm 424 (by decide +kernel) rfl
theorem w_425 : (Cond.methodLink "FairBlocks" (141 : Nat) ({ cls := "FairBlocks$Scheduler", name := "run", desc := "(LFairBlocks$Standing;I)I" } : MethodName)) ∈ gw := gm 425 (by decide +kernel) rfl
theorem w_426 : (Cond.instanceMethod ({ cls := "FairBlocks$Scheduler", name := "run", desc := "(LFairBlocks$Standing;I)I" } : MethodName)) ∈ gw := gm 426 (by decide +kernel) rfl
theorem w_427 : (Cond.selects "FairBlocks$Scheduler" ({ cls := "FairBlocks$Scheduler", name := "run", desc := "(LFairBlocks$Standing;I)I" } : MethodName) ({ cls := "FairBlocks$Scheduler", name := "run", desc := "(LFairBlocks$Standing;I)I" } : MethodName)) ∈ gw := gm 427 (by decide +kernel) rfl
theorem w_428 : (Cond.code ({ cls := "FairBlocks$Scheduler", name := "run", desc := "(LFairBlocks$Standing;I)I" } : MethodName) prog_8_method_2_code (5 : Nat) (Option.some FieldType.int)) ∈ gw := gm 428 (by decide +kernel) rfl
theorem w_429 : (Cond.methodLink "FairBlocks$Scheduler" (28 : Nat) ({ cls := "FairBlocks$Scheduler", name := "runOne", desc := "(LFairBlocks$Standing;Z)I" } : MethodName)) ∈ gw := gm 429 (by decide +kernel) rfl
theorem w_430 : (Cond.instanceMethod ({ cls := "FairBlocks$Scheduler", name := "runOne", desc := "(LFairBlocks$Standing;Z)I" } : MethodName)) ∈ gw := gm 430 (by decide +kernel) rfl
theorem w_431 : (Cond.selects "FairBlocks$Scheduler" ({ cls := "FairBlocks$Scheduler", name := "runOne", desc := "(LFairBlocks$Standing;Z)I" } : MethodName) ({ cls := "FairBlocks$Scheduler", name := "runOne", desc := "(LFairBlocks$Standing;Z)I" } : MethodName)) ∈ gw := gm 431 (by decide +kernel) rfl
theorem w_432 : (Cond.code ({ cls := "FairBlocks$Scheduler", name := "runOne", desc := "(LFairBlocks$Standing;Z)I" } : MethodName) prog_8_method_3_code (5 : Nat) (Option.some FieldType.int)) ∈ gw := gm 432 (by decide +kernel) rfl
theorem w_433 : (Cond.methodLink "FairBlocks$Scheduler" (32 : Nat) ({ cls := "FairBlocks$Scheduler", name := "comeIn", desc := "(LFairBlocks$Standing;)V" } : MethodName)) ∈ gw := gm 433 (by decide +kernel) rfl
theorem w_435 : (Cond.instanceMethod ({ cls := "FairBlocks$Scheduler", name := "comeIn", desc := "(LFairBlocks$Standing;)V" } : MethodName)) ∈ gw := gm 435 (by decide +kernel) rfl
theorem w_436 : (Cond.code ({ cls := "FairBlocks$Scheduler", name := "comeIn", desc := "(LFairBlocks$Standing;)V" } : MethodName) prog_8_method_5_code (4 : Nat) (Option.none : Option FieldType)) ∈ gw := gm 436 (by decide +kernel) rfl
theorem w_437 : (Cond.methodLink "FairBlocks$Scheduler" (71 : Nat) ({ cls := "FairBlocks$User", name := "takeIn", desc := "(I)V" } : MethodName)) ∈ gw := gm 437 (by decide +kernel) rfl
theorem w_438 : (Cond.instanceMethod ({ cls := "FairBlocks$User", name := "takeIn", desc := "(I)V" } : MethodName)) ∈ gw := gm 438 (by decide +kernel) rfl
theorem w_439 : (Cond.selects "FairBlocks$User" ({ cls := "FairBlocks$User", name := "takeIn", desc := "(I)V" } : MethodName) ({ cls := "FairBlocks$User", name := "takeIn", desc := "(I)V" } : MethodName)) ∈ gw := gm 439 (by decide +kernel) rfl
theorem w_440 : (Cond.code ({ cls := "FairBlocks$User", name := "takeIn", desc := "(I)V" } : MethodName) prog_12_method_8_code (3 : Nat) (Option.none : Option FieldType)) ∈ gw := gm 440 (by decide +kernel) rfl
theorem w_441 : (Cond.methodLink "FairBlocks$Scheduler" (78 : Nat) ({ cls := "FairBlocks$Plan", name := "rateOf", desc := "(II)I" } : MethodName)) ∈ gw := gm 441 (by decide +kernel) rfl
theorem w_442 : (Cond.methodLink "FairBlocks$Scheduler" (42 : Nat) ({ cls := "FairBlocks$Scheduler", name := "dueFor", desc := "(LFairBlocks$Standing;I)I" } : MethodName)) ∈ gw := gm 442 (by decide +kernel) rfl
theorem w_444 : (Cond.instanceMethod ({ cls := "FairBlocks$Scheduler", name := "dueFor", desc := "(LFairBlocks$Standing;I)I" } : MethodName)) ∈ gw := gm 444 (by decide +kernel) rfl
theorem w_445 : (Cond.code ({ cls := "FairBlocks$Scheduler", name := "dueFor", desc := "(LFairBlocks$Standing;I)I" } : MethodName) prog_8_method_7_code (5 : Nat) (Option.some FieldType.int)) ∈ gw := gm 445 (by decide +kernel) rfl
theorem w_446 : (Cond.methodLink "FairBlocks$Scheduler" (99 : Nat) ({ cls := "FairBlocks$Scheduler", name := "mayHave", desc := "(LFairBlocks$User;II)Z" } : MethodName)) ∈ gw := gm 446 (by decide +kernel) rfl
theorem w_448 : (Cond.instanceMethod ({ cls := "FairBlocks$Scheduler", name := "mayHave", desc := "(LFairBlocks$User;II)Z" } : MethodName)) ∈ gw := gm 448 (by decide +kernel) rfl
theorem w_449 : (Cond.code ({ cls := "FairBlocks$Scheduler", name := "mayHave", desc := "(LFairBlocks$User;II)Z" } : MethodName) prog_8_method_8_code (4 : Nat) (Option.some FieldType.boolean)) ∈ gw := gm 449 (by decide +kernel) rfl
theorem w_450 : (Cond.methodLink "FairBlocks$Scheduler" (103 : Nat) ({ cls := "FairBlocks$Scheduler", name := "isBefore", desc := "(LFairBlocks$Standing;II)Z" } : MethodName)) ∈ gw := gm 450 (by decide +kernel) rfl
theorem w_452 : (Cond.instanceMethod ({ cls := "FairBlocks$Scheduler", name := "isBefore", desc := "(LFairBlocks$Standing;II)Z" } : MethodName)) ∈ gw := gm 452 (by decide +kernel) rfl
theorem w_453 : (Cond.code ({ cls := "FairBlocks$Scheduler", name := "isBefore", desc := "(LFairBlocks$Standing;II)Z" } : MethodName) prog_8_method_9_code (10 : Nat) (Option.some FieldType.boolean)) ∈ gw := gm 453 (by decide +kernel) rfl
theorem w_454 : (Cond.methodLink "FairBlocks$Scheduler" (52 : Nat) ({ cls := "FairBlocks$User", name := "send", desc := "(I)I" } : MethodName)) ∈ gw := gm 454 (by decide +kernel) rfl
theorem w_455 : (Cond.instanceMethod ({ cls := "FairBlocks$User", name := "send", desc := "(I)I" } : MethodName)) ∈ gw := gm 455 (by decide +kernel) rfl
theorem w_456 : (Cond.selects "FairBlocks$User" ({ cls := "FairBlocks$User", name := "send", desc := "(I)I" } : MethodName) ({ cls := "FairBlocks$User", name := "send", desc := "(I)I" } : MethodName)) ∈ gw := gm 456 (by decide +kernel) rfl
theorem w_457 : (Cond.code ({ cls := "FairBlocks$User", name := "send", desc := "(I)I" } : MethodName) prog_12_method_9_code (4 : Nat) (Option.some FieldType.int)) ∈ gw := gm 457 (by decide +kernel) rfl
theorem w_458 : (Cond.methodLink "FairBlocks$User" (43 : Nat) ({ cls := "java/lang/Math", name := "min", desc := "(II)I" } : MethodName)) ∈ gw := gm 458 (by decide +kernel) rfl
theorem w_459 : (Cond.static ({ cls := "java/lang/Math", name := "min", desc := "(II)I" } : MethodName)) ∈ gw := gm 459 (by decide +kernel) rfl
theorem w_460 : (Cond.code ({ cls := "java/lang/Math", name := "min", desc := "(II)I" } : MethodName) prog_16_method_69_code (2 : Nat) (Option.some FieldType.int)) ∈ gw := gm 460 (by decide +kernel) rfl
theorem w_461 : (Cond.methodLink "FairBlocks$Scheduler" (58 : Nat) ({ cls := "FairBlocks$Scheduler", name := "endSlot", desc := "(LFairBlocks$Standing;)I" } : MethodName)) ∈ gw := gm 461 (by decide +kernel) rfl
theorem w_463 : (Cond.instanceMethod ({ cls := "FairBlocks$Scheduler", name := "endSlot", desc := "(LFairBlocks$Standing;)I" } : MethodName)) ∈ gw := gm 463 (by decide +kernel) rfl
theorem w_464 : (Cond.code ({ cls := "FairBlocks$Scheduler", name := "endSlot", desc := "(LFairBlocks$Standing;)I" } : MethodName) prog_8_method_6_code (6 : Nat) (Option.some FieldType.int)) ∈ gw := gm 464 (by decide +kernel) rfl
theorem w_465 : (Cond.methodLink "FairBlocks$Scheduler" (92 : Nat) ({ cls := "FairBlocks$User", name := "waiting", desc := "()I" } : MethodName)) ∈ gw := gm 465 (by decide +kernel) rfl
theorem w_466 : (Cond.instanceMethod ({ cls := "FairBlocks$User", name := "waiting", desc := "()I" } : MethodName)) ∈ gw := gm 466 (by decide +kernel) rfl
theorem w_467 : (Cond.selects "FairBlocks$User" ({ cls := "FairBlocks$User", name := "waiting", desc := "()I" } : MethodName) ({ cls := "FairBlocks$User", name := "waiting", desc := "()I" } : MethodName)) ∈ gw := gm 467 (by decide +kernel) rfl
theorem w_468 : (Cond.code ({ cls := "FairBlocks$User", name := "waiting", desc := "()I" } : MethodName) prog_12_method_6_code (1 : Nat) (Option.some FieldType.int)) ∈ gw := gm 468 (by decide +kernel) rfl
theorem w_469 : (Cond.methodLink "FairBlocksLaw" (40 : Nat) ({ cls := "FairBlocks", name := "turn", desc := "(I)I" } : MethodName)) ∈ gw := gm 469 (by decide +kernel) rfl
theorem w_470 : (Cond.instanceMethod ({ cls := "FairBlocks", name := "turn", desc := "(I)I" } : MethodName)) ∈ gw := gm 470 (by decide +kernel) rfl
theorem w_471 : (Cond.selects "FairBlocks" ({ cls := "FairBlocks", name := "turn", desc := "(I)I" } : MethodName) ({ cls := "FairBlocks", name := "turn", desc := "(I)I" } : MethodName)) ∈ gw := gm 471 (by decide +kernel) rfl
theorem w_472 : (Cond.code ({ cls := "FairBlocks", name := "turn", desc := "(I)I" } : MethodName) prog_1_method_8_code (3 : Nat) (Option.some FieldType.int)) ∈ gw := gm 472 (by decide +kernel) rfl
theorem w_473 : (Cond.methodLink "FairBlocksLaw" (44 : Nat) ({ cls := "FairBlocks", name := "drop", desc := "(I)I" } : MethodName)) ∈ gw := gm 473 (by decide +kernel) rfl
theorem w_474 : (Cond.instanceMethod ({ cls := "FairBlocks", name := "drop", desc := "(I)I" } : MethodName)) ∈ gw := gm 474 (by decide +kernel) rfl
theorem w_475 : (Cond.selects "FairBlocks" ({ cls := "FairBlocks", name := "drop", desc := "(I)I" } : MethodName) ({ cls := "FairBlocks", name := "drop", desc := "(I)I" } : MethodName)) ∈ gw := gm 475 (by decide +kernel) rfl
theorem w_476 : (Cond.code ({ cls := "FairBlocks", name := "drop", desc := "(I)I" } : MethodName) prog_1_method_9_code (4 : Nat) (Option.some FieldType.int)) ∈ gw := gm 476 (by decide +kernel) rfl
theorem w_477 : (Cond.methodLink "FairBlocks" (151 : Nat) ({ cls := "FairBlocks$User", name := "waiting", desc := "()I" } : MethodName)) ∈ gw := gm 477 (by decide +kernel) rfl
theorem w_478 : (Cond.methodLink "FairBlocks" (154 : Nat) ({ cls := "FairBlocks$User", name := "dropAll", desc := "()V" } : MethodName)) ∈ gw := gm 478 (by decide +kernel) rfl
theorem w_479 : (Cond.instanceMethod ({ cls := "FairBlocks$User", name := "dropAll", desc := "()V" } : MethodName)) ∈ gw := gm 479 (by decide +kernel) rfl
theorem w_480 : (Cond.selects "FairBlocks$User" ({ cls := "FairBlocks$User", name := "dropAll", desc := "()V" } : MethodName) ({ cls := "FairBlocks$User", name := "dropAll", desc := "()V" } : MethodName)) ∈ gw := gm 480 (by decide +kernel) rfl
theorem w_481 : (Cond.code ({ cls := "FairBlocks$User", name := "dropAll", desc := "()V" } : MethodName) prog_12_method_7_code (1 : Nat) (Option.none : Option FieldType)) ∈ gw := gm 481 (by decide +kernel) rfl
theorem w_482 : (Cond.methodLink "FairBlocksLaw" (48 : Nat) ({ cls := "FairBlocks", name := "set", desc := "(III)I" } : MethodName)) ∈ gw := gm 482 (by decide +kernel) rfl
theorem w_483 : (Cond.instanceMethod ({ cls := "FairBlocks", name := "set", desc := "(III)I" } : MethodName)) ∈ gw := gm 483 (by decide +kernel) rfl
theorem w_484 : (Cond.selects "FairBlocks" ({ cls := "FairBlocks", name := "set", desc := "(III)I" } : MethodName) ({ cls := "FairBlocks", name := "set", desc := "(III)I" } : MethodName)) ∈ gw := gm 484 (by decide +kernel) rfl
theorem w_485 : (Cond.code ({ cls := "FairBlocks", name := "set", desc := "(III)I" } : MethodName) prog_1_method_10_code (4 : Nat) (Option.some FieldType.int)) ∈ gw := gm 485 (by decide +kernel) rfl
theorem w_486 : (Cond.methodLink "FairBlocks" (157 : Nat) ({ cls := "FairBlocks$User", name := "change", desc := "(II)I" } : MethodName)) ∈ gw := gm 486 (by decide +kernel) rfl
theorem w_487 : (Cond.instanceMethod ({ cls := "FairBlocks$User", name := "change", desc := "(II)I" } : MethodName)) ∈ gw := gm 487 (by decide +kernel) rfl
theorem w_488 : (Cond.selects "FairBlocks$User" ({ cls := "FairBlocks$User", name := "change", desc := "(II)I" } : MethodName) ({ cls := "FairBlocks$User", name := "change", desc := "(II)I" } : MethodName)) ∈ gw := gm 488 (by decide +kernel) rfl
theorem w_489 : (Cond.code ({ cls := "FairBlocks$User", name := "change", desc := "(II)I" } : MethodName) prog_12_method_5_code (4 : Nat) (Option.some FieldType.int)) ∈ gw := gm 489 (by decide +kernel) rfl
theorem w_490 : (Cond.methodLink "FairBlocksLaw" (53 : Nat) ({ cls := "FairBlocks", name := "patience", desc := "(I)I" } : MethodName)) ∈ gw := gm 490 (by decide +kernel) rfl
theorem w_491 : (Cond.instanceMethod ({ cls := "FairBlocks", name := "patience", desc := "(I)I" } : MethodName)) ∈ gw := gm 491 (by decide +kernel) rfl
theorem w_492 : (Cond.selects "FairBlocks" ({ cls := "FairBlocks", name := "patience", desc := "(I)I" } : MethodName) ({ cls := "FairBlocks", name := "patience", desc := "(I)I" } : MethodName)) ∈ gw := gm 492 (by decide +kernel) rfl
theorem w_493 : (Cond.code ({ cls := "FairBlocks", name := "patience", desc := "(I)I" } : MethodName) prog_1_method_11_code (3 : Nat) (Option.some FieldType.int)) ∈ gw := gm 493 (by decide +kernel) rfl
theorem w_494 : (Cond.methodLink "FairBlocksLaw" (57 : Nat) ({ cls := "FairBlocks", name := "undo", desc := "()I" } : MethodName)) ∈ gw := gm 494 (by decide +kernel) rfl
theorem w_495 : (Cond.instanceMethod ({ cls := "FairBlocks", name := "undo", desc := "()I" } : MethodName)) ∈ gw := gm 495 (by decide +kernel) rfl
theorem w_496 : (Cond.selects "FairBlocks" ({ cls := "FairBlocks", name := "undo", desc := "()I" } : MethodName) ({ cls := "FairBlocks", name := "undo", desc := "()I" } : MethodName)) ∈ gw := gm 496 (by decide +kernel) rfl
theorem w_497 : (Cond.code ({ cls := "FairBlocks", name := "undo", desc := "()I" } : MethodName) prog_1_method_12_code (1 : Nat) (Option.some FieldType.int)) ∈ gw := gm 497 (by decide +kernel) rfl
theorem w_498 : (Cond.methodLink "FairBlocks" (166 : Nat) ({ cls := "FairBlocks$Acts", name := "takeBack", desc := "(LFairBlocks$Standing;)V" } : MethodName)) ∈ gw := gm 498 (by decide +kernel) rfl
theorem w_499 : (Cond.instanceMethod ({ cls := "FairBlocks$Acts", name := "takeBack", desc := "(LFairBlocks$Standing;)V" } : MethodName)) ∈ gw := gm 499 (by decide +kernel) rfl
theorem w_500 : (Cond.selects "FairBlocks$Acts" ({ cls := "FairBlocks$Acts", name := "takeBack", desc := "(LFairBlocks$Standing;)V" } : MethodName) ({ cls := "FairBlocks$Acts", name := "takeBack", desc := "(LFairBlocks$Standing;)V" } : MethodName)) ∈ gw := gm 500 (by decide +kernel) rfl
theorem w_501 : (Cond.code ({ cls := "FairBlocks$Acts", name := "takeBack", desc := "(LFairBlocks$Standing;)V" } : MethodName) prog_2_method_3_code (2 : Nat) (Option.none : Option FieldType)) ∈ gw := gm 501 (by decide +kernel) rfl
theorem w_502 : (Cond.methodLink "FairBlocksLaw" (61 : Nat) ({ cls := "FairBlocks", name := "ahead", desc := "(III)I" } : MethodName)) ∈ gw := gm 502 (by decide +kernel) rfl
theorem w_503 : (Cond.instanceMethod ({ cls := "FairBlocks", name := "ahead", desc := "(III)I" } : MethodName)) ∈ gw := gm 503 (by decide +kernel) rfl
theorem w_504 : (Cond.selects "FairBlocks" ({ cls := "FairBlocks", name := "ahead", desc := "(III)I" } : MethodName) ({ cls := "FairBlocks", name := "ahead", desc := "(III)I" } : MethodName)) ∈ gw := gm 504 (by decide +kernel) rfl
theorem w_505 : (Cond.code ({ cls := "FairBlocks", name := "ahead", desc := "(III)I" } : MethodName) prog_1_method_13_code (5 : Nat) (Option.some FieldType.int)) ∈ gw := gm 505 (by decide +kernel) rfl
theorem w_506 : (Cond.methodLink "FairBlocks" (169 : Nat) ({ cls := "FairBlocks$Bench", name := "freshTrial", desc := "()LFairBlocks$Standing;" } : MethodName)) ∈ gw := gm 506 (by decide +kernel) rfl
theorem w_507 : (Cond.instanceMethod ({ cls := "FairBlocks$Bench", name := "freshTrial", desc := "()LFairBlocks$Standing;" } : MethodName)) ∈ gw := gm 507 (by decide +kernel) rfl
theorem w_508 : (Cond.selects "FairBlocks$Bench" ({ cls := "FairBlocks$Bench", name := "freshTrial", desc := "()LFairBlocks$Standing;" } : MethodName) ({ cls := "FairBlocks$Bench", name := "freshTrial", desc := "()LFairBlocks$Standing;" } : MethodName)) ∈ gw := gm 508 (by decide +kernel) rfl
theorem w_509 : (Cond.code ({ cls := "FairBlocks$Bench", name := "freshTrial", desc := "()LFairBlocks$Standing;" } : MethodName) prog_3_method_2_code (1 : Nat) (Option.some (FieldType.object "FairBlocks$Standing"))) ∈ gw := gm 509 (by decide +kernel) rfl
theorem w_510 : (Cond.methodLink "FairBlocks$Bench" (35 : Nat) ({ cls := "FairBlocks$Standing", name := "copyFrom", desc := "(LFairBlocks$Standing;)V" } : MethodName)) ∈ gw := gm 510 (by decide +kernel) rfl
theorem w_511 : (Cond.methodLink "FairBlocksLaw" (65 : Nat) ({ cls := "FairBlocks", name := "who", desc := "(I)I" } : MethodName)) ∈ gw := gm 511 (by decide +kernel) rfl
theorem w_512 : (Cond.instanceMethod ({ cls := "FairBlocks", name := "who", desc := "(I)I" } : MethodName)) ∈ gw := gm 512 (by decide +kernel) rfl
theorem w_513 : (Cond.selects "FairBlocks" ({ cls := "FairBlocks", name := "who", desc := "(I)I" } : MethodName) ({ cls := "FairBlocks", name := "who", desc := "(I)I" } : MethodName)) ∈ gw := gm 513 (by decide +kernel) rfl
theorem w_514 : (Cond.code ({ cls := "FairBlocks", name := "who", desc := "(I)I" } : MethodName) prog_1_method_14_code (2 : Nat) (Option.some FieldType.int)) ∈ gw := gm 514 (by decide +kernel) rfl
theorem w_515 : (Cond.methodLink "FairBlocks" (176 : Nat) ({ cls := "FairBlocks$Scheduler", name := "runOne", desc := "(LFairBlocks$Standing;Z)I" } : MethodName)) ∈ gw := gm 515 (by decide +kernel) rfl
theorem w_516 : (Cond.methodLink "FairBlocks" (180 : Nat) ({ cls := "FairBlocks$Scheduler", name := "holderOf", desc := "(I)I" } : MethodName)) ∈ gw := gm 516 (by decide +kernel) rfl
theorem w_517 : (Cond.instanceMethod ({ cls := "FairBlocks$Scheduler", name := "holderOf", desc := "(I)I" } : MethodName)) ∈ gw := gm 517 (by decide +kernel) rfl
theorem w_518 : (Cond.selects "FairBlocks$Scheduler" ({ cls := "FairBlocks$Scheduler", name := "holderOf", desc := "(I)I" } : MethodName) ({ cls := "FairBlocks$Scheduler", name := "holderOf", desc := "(I)I" } : MethodName)) ∈ gw := gm 518 (by decide +kernel) rfl
theorem w_519 : (Cond.code ({ cls := "FairBlocks$Scheduler", name := "holderOf", desc := "(I)I" } : MethodName) prog_8_method_4_code (2 : Nat) (Option.some FieldType.int)) ∈ gw := gm 519 (by decide +kernel) rfl
theorem w_521 : (Cond.methodLink "FairBlocksLaw" (69 : Nat) ({ cls := "FairBlocks", name := "longest", desc := "(II)I" } : MethodName)) ∈ gw := gm 521 (by decide +kernel) rfl
theorem w_522 : (Cond.instanceMethod ({ cls := "FairBlocks", name := "longest", desc := "(II)I" } : MethodName)) ∈ gw := gm 522 (by decide +kernel) rfl
theorem w_523 : (Cond.selects "FairBlocks" ({ cls := "FairBlocks", name := "longest", desc := "(II)I" } : MethodName) ({ cls := "FairBlocks", name := "longest", desc := "(II)I" } : MethodName)) ∈ gw := gm 523 (by decide +kernel) rfl
theorem w_524 : (Cond.code ({ cls := "FairBlocks", name := "longest", desc := "(II)I" } : MethodName) prog_1_method_15_code (3 : Nat) (Option.some FieldType.int)) ∈ gw := gm 524 (by decide +kernel) rfl
theorem w_525 : (Cond.methodLink "FairBlocks" (183 : Nat) ({ cls := "FairBlocks$Outlook", name := "longestWait", desc := "(II)I" } : MethodName)) ∈ gw := gm 525 (by decide +kernel) rfl
theorem w_526 : (Cond.instanceMethod ({ cls := "FairBlocks$Outlook", name := "longestWait", desc := "(II)I" } : MethodName)) ∈ gw := gm 526 (by decide +kernel) rfl
theorem w_527 : (Cond.selects "FairBlocks$Outlook" ({ cls := "FairBlocks$Outlook", name := "longestWait", desc := "(II)I" } : MethodName) ({ cls := "FairBlocks$Outlook", name := "longestWait", desc := "(II)I" } : MethodName)) ∈ gw := gm 527 (by decide +kernel) rfl
theorem w_528 : (Cond.code ({ cls := "FairBlocks$Outlook", name := "longestWait", desc := "(II)I" } : MethodName) prog_6_method_2_code (6 : Nat) (Option.some FieldType.int)) ∈ gw := gm 528 (by decide +kernel) rfl
theorem w_529 : (Cond.methodLink "FairBlocks$Outlook" (15 : Nat) ({ cls := "FairBlocks$Bench", name := "freshTrial", desc := "()LFairBlocks$Standing;" } : MethodName)) ∈ gw := gm 529 (by decide +kernel) rfl
theorem w_530 : (Cond.methodLink "FairBlocks$Outlook" (25 : Nat) ({ cls := "FairBlocks$Scheduler", name := "runOne", desc := "(LFairBlocks$Standing;Z)I" } : MethodName)) ∈ gw := gm 530 (by decide +kernel) rfl
theorem w_531 : (Cond.methodLink "FairBlocks$Outlook" (43 : Nat) ({ cls := "java/lang/Math", name := "max", desc := "(II)I" } : MethodName)) ∈ gw := gm 531 (by decide +kernel) rfl
theorem w_532 : (Cond.static ({ cls := "java/lang/Math", name := "max", desc := "(II)I" } : MethodName)) ∈ gw := gm 532 (by decide +kernel) rfl
theorem w_533 : (Cond.code ({ cls := "java/lang/Math", name := "max", desc := "(II)I" } : MethodName) prog_16_method_65_code (2 : Nat) (Option.some FieldType.int)) ∈ gw := gm 533 (by decide +kernel) rfl
theorem w_534 : (Cond.methodLink "FairBlocksLaw" (73 : Nat) ({ cls := "FairBlocks", name := "empty", desc := "(I)I" } : MethodName)) ∈ gw := gm 534 (by decide +kernel) rfl
theorem w_535 : (Cond.instanceMethod ({ cls := "FairBlocks", name := "empty", desc := "(I)I" } : MethodName)) ∈ gw := gm 535 (by decide +kernel) rfl
theorem w_536 : (Cond.selects "FairBlocks" ({ cls := "FairBlocks", name := "empty", desc := "(I)I" } : MethodName) ({ cls := "FairBlocks", name := "empty", desc := "(I)I" } : MethodName)) ∈ gw := gm 536 (by decide +kernel) rfl
theorem w_537 : (Cond.code ({ cls := "FairBlocks", name := "empty", desc := "(I)I" } : MethodName) prog_1_method_16_code (2 : Nat) (Option.some FieldType.int)) ∈ gw := gm 537 (by decide +kernel) rfl
theorem w_538 : (Cond.methodLink "FairBlocks" (186 : Nat) ({ cls := "FairBlocks$Outlook", name := "slotsUntilEmpty", desc := "(I)I" } : MethodName)) ∈ gw := gm 538 (by decide +kernel) rfl
theorem w_539 : (Cond.instanceMethod ({ cls := "FairBlocks$Outlook", name := "slotsUntilEmpty", desc := "(I)I" } : MethodName)) ∈ gw := gm 539 (by decide +kernel) rfl
theorem w_540 : (Cond.selects "FairBlocks$Outlook" ({ cls := "FairBlocks$Outlook", name := "slotsUntilEmpty", desc := "(I)I" } : MethodName) ({ cls := "FairBlocks$Outlook", name := "slotsUntilEmpty", desc := "(I)I" } : MethodName)) ∈ gw := gm 540 (by decide +kernel) rfl
theorem w_541 : (Cond.code ({ cls := "FairBlocks$Outlook", name := "slotsUntilEmpty", desc := "(I)I" } : MethodName) prog_6_method_3_code (4 : Nat) (Option.some FieldType.int)) ∈ gw := gm 541 (by decide +kernel) rfl
theorem w_542 : (Cond.methodLink "FairBlocks$Outlook" (49 : Nat) ({ cls := "FairBlocks$User", name := "waiting", desc := "()I" } : MethodName)) ∈ gw := gm 542 (by decide +kernel) rfl
theorem w_543 : (Cond.methodLink "FairBlocksLaw" (77 : Nat) ({ cls := "FairBlocks", name := "best", desc := "(I)I" } : MethodName)) ∈ gw := gm 543 (by decide +kernel) rfl
theorem w_544 : (Cond.instanceMethod ({ cls := "FairBlocks", name := "best", desc := "(I)I" } : MethodName)) ∈ gw := gm 544 (by decide +kernel) rfl
theorem w_545 : (Cond.selects "FairBlocks" ({ cls := "FairBlocks", name := "best", desc := "(I)I" } : MethodName) ({ cls := "FairBlocks", name := "best", desc := "(I)I" } : MethodName)) ∈ gw := gm 545 (by decide +kernel) rfl
theorem w_546 : (Cond.code ({ cls := "FairBlocks", name := "best", desc := "(I)I" } : MethodName) prog_1_method_17_code (2 : Nat) (Option.some FieldType.int)) ∈ gw := gm 546 (by decide +kernel) rfl
theorem w_547 : (Cond.methodLink "FairBlocks" (189 : Nat) ({ cls := "FairBlocks$Outlook", name := "bestWeight", desc := "(I)I" } : MethodName)) ∈ gw := gm 547 (by decide +kernel) rfl
theorem w_548 : (Cond.instanceMethod ({ cls := "FairBlocks$Outlook", name := "bestWeight", desc := "(I)I" } : MethodName)) ∈ gw := gm 548 (by decide +kernel) rfl
theorem w_549 : (Cond.selects "FairBlocks$Outlook" ({ cls := "FairBlocks$Outlook", name := "bestWeight", desc := "(I)I" } : MethodName) ({ cls := "FairBlocks$Outlook", name := "bestWeight", desc := "(I)I" } : MethodName)) ∈ gw := gm 549 (by decide +kernel) rfl
theorem w_550 : (Cond.code ({ cls := "FairBlocks$Outlook", name := "bestWeight", desc := "(I)I" } : MethodName) prog_6_method_4_code (7 : Nat) (Option.some FieldType.int)) ∈ gw := gm 550 (by decide +kernel) rfl
theorem w_551 : (Cond.methodLink "FairBlocks$Outlook" (56 : Nat) ({ cls := "FairBlocks$Scheduler", name := "run", desc := "(LFairBlocks$Standing;I)I" } : MethodName)) ∈ gw := gm 551 (by decide +kernel) rfl
theorem w_552 : (Cond.methodLink "FairBlocks$Outlook" (60 : Nat) ({ cls := "FairBlocks$Outlook", name := "leastGain", desc := "(LFairBlocks$Standing;)I" } : MethodName)) ∈ gw := gm 552 (by decide +kernel) rfl
theorem w_554 : (Cond.instanceMethod ({ cls := "FairBlocks$Outlook", name := "leastGain", desc := "(LFairBlocks$Standing;)I" } : MethodName)) ∈ gw := gm 554 (by decide +kernel) rfl
theorem w_555 : (Cond.code ({ cls := "FairBlocks$Outlook", name := "leastGain", desc := "(LFairBlocks$Standing;)I" } : MethodName) prog_6_method_5_code (4 : Nat) (Option.some FieldType.int)) ∈ gw := gm 555 (by decide +kernel) rfl
theorem w_556 : (Cond.methodLink "FairBlocks$Outlook" (79 : Nat) ({ cls := "java/lang/Math", name := "min", desc := "(II)I" } : MethodName)) ∈ gw := gm 556 (by decide +kernel) rfl
theorem w_557 : (Cond.methodLink "FairBlocksLaw" (83 : Nat) ({ cls := "FairBlocks", name := "judge", desc := "(IJ)I" } : MethodName)) ∈ gw := gm 557 (by decide +kernel) rfl
theorem w_558 : (Cond.instanceMethod ({ cls := "FairBlocks", name := "judge", desc := "(IJ)I" } : MethodName)) ∈ gw := gm 558 (by decide +kernel) rfl
theorem w_559 : (Cond.selects "FairBlocks" ({ cls := "FairBlocks", name := "judge", desc := "(IJ)I" } : MethodName) ({ cls := "FairBlocks", name := "judge", desc := "(IJ)I" } : MethodName)) ∈ gw := gm 559 (by decide +kernel) rfl
theorem w_560 : (Cond.code ({ cls := "FairBlocks", name := "judge", desc := "(IJ)I" } : MethodName) prog_1_method_18_code (4 : Nat) (Option.some FieldType.int)) ∈ gw := gm 560 (by decide +kernel) rfl
theorem w_561 : (Cond.methodLink "FairBlocks" (192 : Nat) ({ cls := "FairBlocks$Court", name := "unitOf", desc := "(I)J" } : MethodName)) ∈ gw := gm 561 (by decide +kernel) rfl
theorem w_562 : (Cond.static ({ cls := "FairBlocks$Court", name := "unitOf", desc := "(I)J" } : MethodName)) ∈ gw := gm 562 (by decide +kernel) rfl
theorem w_563 : (Cond.code ({ cls := "FairBlocks$Court", name := "unitOf", desc := "(I)J" } : MethodName) prog_5_method_2_code (4 : Nat) (Option.some FieldType.long)) ∈ gw := gm 563 (by decide +kernel) rfl
theorem w_564 : (Cond.constantLong "FairBlocks$Court" (22 : Nat) (1000 : Int64)) ∈ gw := gm 564 (by decide +kernel) rfl
theorem w_565 : (Cond.methodLink "FairBlocks" (196 : Nat) ({ cls := "FairBlocks$Court", name := "firstWrong", desc := "(IJ)I" } : MethodName)) ∈ gw := gm 565 (by decide +kernel) rfl
theorem w_566 : (Cond.instanceMethod ({ cls := "FairBlocks$Court", name := "firstWrong", desc := "(IJ)I" } : MethodName)) ∈ gw := gm 566 (by decide +kernel) rfl
theorem w_567 : (Cond.selects "FairBlocks$Court" ({ cls := "FairBlocks$Court", name := "firstWrong", desc := "(IJ)I" } : MethodName) ({ cls := "FairBlocks$Court", name := "firstWrong", desc := "(IJ)I" } : MethodName)) ∈ gw := gm 567 (by decide +kernel) rfl
theorem w_568 : (Cond.code ({ cls := "FairBlocks$Court", name := "firstWrong", desc := "(IJ)I" } : MethodName) prog_5_method_3_code (7 : Nat) (Option.some FieldType.int)) ∈ gw := gm 568 (by decide +kernel) rfl
theorem w_569 : (Cond.methodLink "FairBlocks$Court" (24 : Nat) ({ cls := "FairBlocks$Bench", name := "freshTrial", desc := "()LFairBlocks$Standing;" } : MethodName)) ∈ gw := gm 569 (by decide +kernel) rfl
theorem w_570 : (Cond.methodLink "FairBlocks$Court" (30 : Nat) ({ cls := "FairBlocks$Court", name := "unitOf", desc := "(I)J" } : MethodName)) ∈ gw := gm 570 (by decide +kernel) rfl
theorem w_571 : (Cond.methodLink "FairBlocks$Court" (34 : Nat) ({ cls := "FairBlocks$Court", name := "holds", desc := "(LFairBlocks$Standing;III)Z" } : MethodName)) ∈ gw := gm 571 (by decide +kernel) rfl
theorem w_573 : (Cond.instanceMethod ({ cls := "FairBlocks$Court", name := "holds", desc := "(LFairBlocks$Standing;III)Z" } : MethodName)) ∈ gw := gm 573 (by decide +kernel) rfl
theorem w_574 : (Cond.code ({ cls := "FairBlocks$Court", name := "holds", desc := "(LFairBlocks$Standing;III)Z" } : MethodName) prog_5_method_4_code (6 : Nat) (Option.some FieldType.boolean)) ∈ gw := gm 574 (by decide +kernel) rfl
theorem w_575 : (Cond.methodLink "FairBlocks$Court" (46 : Nat) ({ cls := "FairBlocks$Scheduler", name := "run", desc := "(LFairBlocks$Standing;I)I" } : MethodName)) ∈ gw := gm 575 (by decide +kernel) rfl
theorem w_576 : (Cond.methodLink "FairBlocks$Court" (52 : Nat) ({ cls := "FairBlocks$Plan", name := "has", desc := "(I)Z" } : MethodName)) ∈ gw := gm 576 (by decide +kernel) rfl
theorem w_577 : (Cond.methodLink "FairBlocks$Court" (62 : Nat) ({ cls := "FairBlocks$Court", name := "turnsOrDrops", desc := "(ILFairBlocks$User;)Z" } : MethodName)) ∈ gw := gm 577 (by decide +kernel) rfl
theorem w_578 : (Cond.static ({ cls := "FairBlocks$Court", name := "turnsOrDrops", desc := "(ILFairBlocks$User;)Z" } : MethodName)) ∈ gw := gm 578 (by decide +kernel) rfl
theorem w_579 : (Cond.code ({ cls := "FairBlocks$Court", name := "turnsOrDrops", desc := "(ILFairBlocks$User;)Z" } : MethodName) prog_5_method_5_code (2 : Nat) (Option.some FieldType.boolean)) ∈ gw := gm 579 (by decide +kernel) rfl
theorem w_580 : (Cond.methodLink "FairBlocks$Court" (90 : Nat) ({ cls := "FairBlocks$User", name := "dropAll", desc := "()V" } : MethodName)) ∈ gw := gm 580 (by decide +kernel) rfl
theorem w_581 : (Cond.methodLink "FairBlocks$Court" (66 : Nat) ({ cls := "FairBlocks$Court", name := "weighs", desc := "(LFairBlocks$User;I)Z" } : MethodName)) ∈ gw := gm 581 (by decide +kernel) rfl
theorem w_582 : (Cond.static ({ cls := "FairBlocks$Court", name := "weighs", desc := "(LFairBlocks$User;I)Z" } : MethodName)) ∈ gw := gm 582 (by decide +kernel) rfl
theorem w_583 : (Cond.code ({ cls := "FairBlocks$Court", name := "weighs", desc := "(LFairBlocks$User;I)Z" } : MethodName) prog_5_method_6_code (2 : Nat) (Option.some FieldType.boolean)) ∈ gw := gm 583 (by decide +kernel) rfl
theorem w_584 : (Cond.methodLink "FairBlocks$Court" (79 : Nat) ({ cls := "FairBlocks$Court", name := "holderBehind", desc := "(LFairBlocks$Standing;I)I" } : MethodName)) ∈ gw := gm 584 (by decide +kernel) rfl
theorem w_586 : (Cond.instanceMethod ({ cls := "FairBlocks$Court", name := "holderBehind", desc := "(LFairBlocks$Standing;I)I" } : MethodName)) ∈ gw := gm 586 (by decide +kernel) rfl
theorem w_587 : (Cond.code ({ cls := "FairBlocks$Court", name := "holderBehind", desc := "(LFairBlocks$Standing;I)I" } : MethodName) prog_5_method_7_code (3 : Nat) (Option.some FieldType.int)) ∈ gw := gm 587 (by decide +kernel) rfl
theorem w_588 : (Cond.methodLink "FairBlocks$Court" (96 : Nat) ({ cls := "FairBlocks$Standing", name := "copyFrom", desc := "(LFairBlocks$Standing;)V" } : MethodName)) ∈ gw := gm 588 (by decide +kernel) rfl
theorem w_589 : (Cond.methodLink "FairBlocks$Court" (100 : Nat) ({ cls := "FairBlocks$Scheduler", name := "runOne", desc := "(LFairBlocks$Standing;Z)I" } : MethodName)) ∈ gw := gm 589 (by decide +kernel) rfl
theorem w_590 : (Cond.methodLink "FairBlocks$Court" (104 : Nat) ({ cls := "FairBlocks$Scheduler", name := "holderOf", desc := "(I)I" } : MethodName)) ∈ gw := gm 590 (by decide +kernel) rfl
theorem w_591 : (Cond.methodLink "FairBlocks$Court" (82 : Nat) ({ cls := "FairBlocks$User", name := "waiting", desc := "()I" } : MethodName)) ∈ gw := gm 591 (by decide +kernel) rfl
theorem w_592 : (Cond.methodLink "FairBlocksLaw" (88 : Nat) ({ cls := "FairBlocks", name := "see", desc := "(IIIII)I" } : MethodName)) ∈ gw := gm 592 (by decide +kernel) rfl
theorem w_593 : (Cond.instanceMethod ({ cls := "FairBlocks", name := "see", desc := "(IIIII)I" } : MethodName)) ∈ gw := gm 593 (by decide +kernel) rfl
theorem w_594 : (Cond.selects "FairBlocks" ({ cls := "FairBlocks", name := "see", desc := "(IIIII)I" } : MethodName) ({ cls := "FairBlocks", name := "see", desc := "(IIIII)I" } : MethodName)) ∈ gw := gm 594 (by decide +kernel) rfl
theorem w_595 : (Cond.code ({ cls := "FairBlocks", name := "see", desc := "(IIIII)I" } : MethodName) prog_1_method_19_code (6 : Nat) (Option.some FieldType.int)) ∈ gw := gm 595 (by decide +kernel) rfl
theorem w_596 : (Cond.methodLink "FairBlocks" (201 : Nat) ({ cls := "FairBlocks$Sightings", name := "add", desc := "(IIIII)V" } : MethodName)) ∈ gw := gm 596 (by decide +kernel) rfl
theorem w_597 : (Cond.instanceMethod ({ cls := "FairBlocks$Sightings", name := "add", desc := "(IIIII)V" } : MethodName)) ∈ gw := gm 597 (by decide +kernel) rfl
theorem w_598 : (Cond.selects "FairBlocks$Sightings" ({ cls := "FairBlocks$Sightings", name := "add", desc := "(IIIII)V" } : MethodName) ({ cls := "FairBlocks$Sightings", name := "add", desc := "(IIIII)V" } : MethodName)) ∈ gw := gm 598 (by decide +kernel) rfl
theorem w_599 : (Cond.code ({ cls := "FairBlocks$Sightings", name := "add", desc := "(IIIII)V" } : MethodName) prog_9_method_2_code (6 : Nat) (Option.none : Option FieldType)) ∈ gw := gm 599 (by decide +kernel) rfl
theorem w_600 : (Cond.methodLink "FairBlocksLaw" (93 : Nat) ({ cls := "FairBlocks", name := "unsee", desc := "()I" } : MethodName)) ∈ gw := gm 600 (by decide +kernel) rfl
theorem w_601 : (Cond.instanceMethod ({ cls := "FairBlocks", name := "unsee", desc := "()I" } : MethodName)) ∈ gw := gm 601 (by decide +kernel) rfl
theorem w_602 : (Cond.selects "FairBlocks" ({ cls := "FairBlocks", name := "unsee", desc := "()I" } : MethodName) ({ cls := "FairBlocks", name := "unsee", desc := "()I" } : MethodName)) ∈ gw := gm 602 (by decide +kernel) rfl
theorem w_603 : (Cond.code ({ cls := "FairBlocks", name := "unsee", desc := "()I" } : MethodName) prog_1_method_20_code (2 : Nat) (Option.some FieldType.int)) ∈ gw := gm 603 (by decide +kernel) rfl
theorem w_604 : (Cond.methodLink "FairBlocksLaw" (97 : Nat) ({ cls := "FairBlocks", name := "which", desc := "()I" } : MethodName)) ∈ gw := gm 604 (by decide +kernel) rfl
theorem w_605 : (Cond.instanceMethod ({ cls := "FairBlocks", name := "which", desc := "()I" } : MethodName)) ∈ gw := gm 605 (by decide +kernel) rfl
theorem w_606 : (Cond.selects "FairBlocks" ({ cls := "FairBlocks", name := "which", desc := "()I" } : MethodName) ({ cls := "FairBlocks", name := "which", desc := "()I" } : MethodName)) ∈ gw := gm 606 (by decide +kernel) rfl
theorem w_607 : (Cond.code ({ cls := "FairBlocks", name := "which", desc := "()I" } : MethodName) prog_1_method_21_code (1 : Nat) (Option.some FieldType.int)) ∈ gw := gm 607 (by decide +kernel) rfl
theorem w_608 : (Cond.methodLink "FairBlocks" (204 : Nat) ({ cls := "FairBlocks$Sightings", name := "suspects", desc := "()I" } : MethodName)) ∈ gw := gm 608 (by decide +kernel) rfl
theorem w_609 : (Cond.instanceMethod ({ cls := "FairBlocks$Sightings", name := "suspects", desc := "()I" } : MethodName)) ∈ gw := gm 609 (by decide +kernel) rfl
theorem w_610 : (Cond.selects "FairBlocks$Sightings" ({ cls := "FairBlocks$Sightings", name := "suspects", desc := "()I" } : MethodName) ({ cls := "FairBlocks$Sightings", name := "suspects", desc := "()I" } : MethodName)) ∈ gw := gm 610 (by decide +kernel) rfl
theorem w_611 : (Cond.code ({ cls := "FairBlocks$Sightings", name := "suspects", desc := "()I" } : MethodName) prog_9_method_3_code (3 : Nat) (Option.some FieldType.int)) ∈ gw := gm 611 (by decide +kernel) rfl
theorem w_612 : (Cond.methodLink "FairBlocks$Sightings" (60 : Nat) ({ cls := "FairBlocks$Sightings", name := "fits", desc := "(I)Z" } : MethodName)) ∈ gw := gm 612 (by decide +kernel) rfl
theorem w_614 : (Cond.instanceMethod ({ cls := "FairBlocks$Sightings", name := "fits", desc := "(I)Z" } : MethodName)) ∈ gw := gm 614 (by decide +kernel) rfl
theorem w_615 : (Cond.code ({ cls := "FairBlocks$Sightings", name := "fits", desc := "(I)Z" } : MethodName) prog_9_method_4_code (5 : Nat) (Option.some FieldType.boolean)) ∈ gw := gm 615 (by decide +kernel) rfl
theorem w_616 : (Cond.methodLink "FairBlocks$Sightings" (64 : Nat) ({ cls := "FairBlocks$Bench", name := "freshTrial", desc := "()LFairBlocks$Standing;" } : MethodName)) ∈ gw := gm 616 (by decide +kernel) rfl
theorem w_617 : (Cond.methodLink "FairBlocks$Sightings" (68 : Nat) ({ cls := "FairBlocks$Sightings", name := "lastSlot", desc := "()I" } : MethodName)) ∈ gw := gm 617 (by decide +kernel) rfl
theorem w_619 : (Cond.instanceMethod ({ cls := "FairBlocks$Sightings", name := "lastSlot", desc := "()I" } : MethodName)) ∈ gw := gm 619 (by decide +kernel) rfl
theorem w_620 : (Cond.code ({ cls := "FairBlocks$Sightings", name := "lastSlot", desc := "()I" } : MethodName) prog_9_method_5_code (3 : Nat) (Option.some FieldType.int)) ∈ gw := gm 620 (by decide +kernel) rfl
theorem w_621 : (Cond.methodLink "FairBlocks$Sightings" (86 : Nat) ({ cls := "java/lang/Math", name := "max", desc := "(II)I" } : MethodName)) ∈ gw := gm 621 (by decide +kernel) rfl
theorem w_622 : (Cond.methodLink "FairBlocks$Sightings" (76 : Nat) ({ cls := "FairBlocks$Scheduler", name := "runOne", desc := "(LFairBlocks$Standing;Z)I" } : MethodName)) ∈ gw := gm 622 (by decide +kernel) rfl
theorem w_623 : (Cond.methodLink "FairBlocks$Sightings" (82 : Nat) ({ cls := "FairBlocks$Sightings", name := "fitsBehind", desc := "(LFairBlocks$Standing;I)Z" } : MethodName)) ∈ gw := gm 623 (by decide +kernel) rfl
theorem w_625 : (Cond.instanceMethod ({ cls := "FairBlocks$Sightings", name := "fitsBehind", desc := "(LFairBlocks$Standing;I)Z" } : MethodName)) ∈ gw := gm 625 (by decide +kernel) rfl
theorem w_626 : (Cond.code ({ cls := "FairBlocks$Sightings", name := "fitsBehind", desc := "(LFairBlocks$Standing;I)Z" } : MethodName) prog_9_method_6_code (6 : Nat) (Option.some FieldType.boolean)) ∈ gw := gm 626 (by decide +kernel) rfl
theorem w_627 : (Cond.methodLink "FairBlocks$Sightings" (92 : Nat) ({ cls := "FairBlocks$Plan", name := "has", desc := "(I)Z" } : MethodName)) ∈ gw := gm 627 (by decide +kernel) rfl
theorem w_628 : (Cond.methodLink "FairBlocks$Sightings" (98 : Nat) ({ cls := "FairBlocks$User", name := "waiting", desc := "()I" } : MethodName)) ∈ gw := gm 628 (by decide +kernel) rfl
theorem w_629 : (Cond.methodLink "FairBlocksLaw" (101 : Nat) ({ cls := "FairBlocks", name := "share", desc := "(IZ)I" } : MethodName)) ∈ gw := gm 629 (by decide +kernel) rfl
theorem w_630 : (Cond.instanceMethod ({ cls := "FairBlocks", name := "share", desc := "(IZ)I" } : MethodName)) ∈ gw := gm 630 (by decide +kernel) rfl
theorem w_631 : (Cond.selects "FairBlocks" ({ cls := "FairBlocks", name := "share", desc := "(IZ)I" } : MethodName) ({ cls := "FairBlocks", name := "share", desc := "(IZ)I" } : MethodName)) ∈ gw := gm 631 (by decide +kernel) rfl
theorem w_632 : (Cond.code ({ cls := "FairBlocks", name := "share", desc := "(IZ)I" } : MethodName) prog_1_method_22_code (3 : Nat) (Option.some FieldType.int)) ∈ gw := gm 632 (by decide +kernel) rfl
theorem w_633 : (Cond.methodLink "FairBlocks" (207 : Nat) ({ cls := "FairBlocks$Chances", name := "shareOf", desc := "(IZ)I" } : MethodName)) ∈ gw := gm 633 (by decide +kernel) rfl
theorem w_634 : (Cond.instanceMethod ({ cls := "FairBlocks$Chances", name := "shareOf", desc := "(IZ)I" } : MethodName)) ∈ gw := gm 634 (by decide +kernel) rfl
theorem w_635 : (Cond.selects "FairBlocks$Chances" ({ cls := "FairBlocks$Chances", name := "shareOf", desc := "(IZ)I" } : MethodName) ({ cls := "FairBlocks$Chances", name := "shareOf", desc := "(IZ)I" } : MethodName)) ∈ gw := gm 635 (by decide +kernel) rfl
theorem w_636 : (Cond.code ({ cls := "FairBlocks$Chances", name := "shareOf", desc := "(IZ)I" } : MethodName) prog_4_method_2_code (10 : Nat) (Option.some FieldType.int)) ∈ gw := gm 636 (by decide +kernel) rfl
theorem w_637 : (Cond.methodLink "FairBlocks$Chances" (31 : Nat) ({ cls := "FairBlocks$Standing", name := "offBits", desc := "(I)I" } : MethodName)) ∈ gw := gm 637 (by decide +kernel) rfl
theorem w_638 : (Cond.instanceMethod ({ cls := "FairBlocks$Standing", name := "offBits", desc := "(I)I" } : MethodName)) ∈ gw := gm 638 (by decide +kernel) rfl
theorem w_639 : (Cond.selects "FairBlocks$Standing" ({ cls := "FairBlocks$Standing", name := "offBits", desc := "(I)I" } : MethodName) ({ cls := "FairBlocks$Standing", name := "offBits", desc := "(I)I" } : MethodName)) ∈ gw := gm 639 (by decide +kernel) rfl
theorem w_640 : (Cond.code ({ cls := "FairBlocks$Standing", name := "offBits", desc := "(I)I" } : MethodName) prog_10_method_3_code (4 : Nat) (Option.some FieldType.int)) ∈ gw := gm 640 (by decide +kernel) rfl
theorem w_641 : (Cond.methodLink "FairBlocks$Chances" (37 : Nat) ({ cls := "java/lang/Integer", name := "bitCount", desc := "(I)I" } : MethodName)) ∈ gw := gm 641 (by decide +kernel) rfl
theorem w_642 : (Cond.static ({ cls := "java/lang/Integer", name := "bitCount", desc := "(I)I" } : MethodName)) ∈ gw := gm 642 (by decide +kernel) rfl
theorem w_643 : (Cond.code ({ cls := "java/lang/Integer", name := "bitCount", desc := "(I)I" } : MethodName) prog_15_method_49_code (1 : Nat) (Option.some FieldType.int)) ∈ gw := gm 643 (by decide +kernel) rfl
theorem w_644 : (Cond.constant "java/lang/Integer" (265 : Nat) (1431655765 : Int32)) ∈ gw := gm 644 (by decide +kernel) rfl
theorem w_645 : (Cond.constant "java/lang/Integer" (266 : Nat) (858993459 : Int32)) ∈ gw := gm 645 (by decide +kernel) rfl
theorem w_646 : (Cond.constant "java/lang/Integer" (267 : Nat) (252645135 : Int32)) ∈ gw := gm 646 (by decide +kernel) rfl
theorem w_647 : (Cond.methodLink "FairBlocks$Chances" (42 : Nat) ({ cls := "FairBlocks$Chances", name := "factorial", desc := "(I)I" } : MethodName)) ∈ gw := gm 647 (by decide +kernel) rfl
theorem w_648 : (Cond.static ({ cls := "FairBlocks$Chances", name := "factorial", desc := "(I)I" } : MethodName)) ∈ gw := gm 648 (by decide +kernel) rfl
theorem w_649 : (Cond.code ({ cls := "FairBlocks$Chances", name := "factorial", desc := "(I)I" } : MethodName) prog_4_method_7_code (1 : Nat) (Option.some FieldType.int)) ∈ gw := gm 649 (by decide +kernel) rfl
theorem w_653 : (Cond.methodLink "FairBlocks$Chances" (45 : Nat) ({ cls := "FairBlocks$Chances", name := "gotWith", desc := "(I)I" } : MethodName)) ∈ gw := gm 653 (by decide +kernel) rfl
theorem w_655 : (Cond.instanceMethod ({ cls := "FairBlocks$Chances", name := "gotWith", desc := "(I)I" } : MethodName)) ∈ gw := gm 655 (by decide +kernel) rfl
theorem w_656 : (Cond.code ({ cls := "FairBlocks$Chances", name := "gotWith", desc := "(I)I" } : MethodName) prog_4_method_3_code (4 : Nat) (Option.some FieldType.int)) ∈ gw := gm 656 (by decide +kernel) rfl
theorem w_657 : (Cond.methodLink "FairBlocks$Chances" (52 : Nat) ({ cls := "FairBlocks$Bench", name := "freshTrial", desc := "()LFairBlocks$Standing;" } : MethodName)) ∈ gw := gm 657 (by decide +kernel) rfl
theorem w_658 : (Cond.methodLink "FairBlocks$Chances" (69 : Nat) ({ cls := "FairBlocks$Scheduler", name := "run", desc := "(LFairBlocks$Standing;I)I" } : MethodName)) ∈ gw := gm 658 (by decide +kernel) rfl
theorem w_659 : (Cond.methodLink "FairBlocks$Chances" (48 : Nat) ({ cls := "FairBlocks$Chances", name := "fraction", desc := "(IIZ)I" } : MethodName)) ∈ gw := gm 659 (by decide +kernel) rfl
theorem w_660 : (Cond.static ({ cls := "FairBlocks$Chances", name := "fraction", desc := "(IIZ)I" } : MethodName)) ∈ gw := gm 660 (by decide +kernel) rfl
theorem w_661 : (Cond.code ({ cls := "FairBlocks$Chances", name := "fraction", desc := "(IIZ)I" } : MethodName) prog_4_method_8_code (4 : Nat) (Option.some FieldType.int)) ∈ gw := gm 661 (by decide +kernel) rfl
theorem w_662 : (Cond.methodLink "FairBlocks$Chances" (98 : Nat) ({ cls := "java/lang/Math", name := "abs", desc := "(I)I" } : MethodName)) ∈ gw := gm 662 (by decide +kernel) rfl
theorem w_663 : (Cond.static ({ cls := "java/lang/Math", name := "abs", desc := "(I)I" } : MethodName)) ∈ gw := gm 663 (by decide +kernel) rfl
theorem w_664 : (Cond.code ({ cls := "java/lang/Math", name := "abs", desc := "(I)I" } : MethodName) prog_16_method_59_code (1 : Nat) (Option.some FieldType.int)) ∈ gw := gm 664 (by decide +kernel) rfl
theorem w_665 : (Cond.methodLink "FairBlocks$Chances" (103 : Nat) ({ cls := "FairBlocks$Chances", name := "commonDivisor", desc := "(II)I" } : MethodName)) ∈ gw := gm 665 (by decide +kernel) rfl
theorem w_666 : (Cond.static ({ cls := "FairBlocks$Chances", name := "commonDivisor", desc := "(II)I" } : MethodName)) ∈ gw := gm 666 (by decide +kernel) rfl
theorem w_667 : (Cond.code ({ cls := "FairBlocks$Chances", name := "commonDivisor", desc := "(II)I" } : MethodName) prog_4_method_9_code (6 : Nat) (Option.some FieldType.int)) ∈ gw := gm 667 (by decide +kernel) rfl
theorem w_668 : (Cond.methodLink "FairBlocksLaw" (106 : Nat) ({ cls := "FairBlocks", name := "fails", desc := "(IIIZ)I" } : MethodName)) ∈ gw := gm 668 (by decide +kernel) rfl
theorem w_669 : (Cond.instanceMethod ({ cls := "FairBlocks", name := "fails", desc := "(IIIZ)I" } : MethodName)) ∈ gw := gm 669 (by decide +kernel) rfl
theorem w_670 : (Cond.selects "FairBlocks" ({ cls := "FairBlocks", name := "fails", desc := "(IIIZ)I" } : MethodName) ({ cls := "FairBlocks", name := "fails", desc := "(IIIZ)I" } : MethodName)) ∈ gw := gm 670 (by decide +kernel) rfl
theorem w_671 : (Cond.code ({ cls := "FairBlocks", name := "fails", desc := "(IIIZ)I" } : MethodName) prog_1_method_23_code (5 : Nat) (Option.some FieldType.int)) ∈ gw := gm 671 (by decide +kernel) rfl
theorem w_672 : (Cond.methodLink "FairBlocks" (211 : Nat) ({ cls := "FairBlocks$Chances", name := "emptyBehind", desc := "(IIIZ)I" } : MethodName)) ∈ gw := gm 672 (by decide +kernel) rfl
theorem w_673 : (Cond.instanceMethod ({ cls := "FairBlocks$Chances", name := "emptyBehind", desc := "(IIIZ)I" } : MethodName)) ∈ gw := gm 673 (by decide +kernel) rfl
theorem w_674 : (Cond.selects "FairBlocks$Chances" ({ cls := "FairBlocks$Chances", name := "emptyBehind", desc := "(IIIZ)I" } : MethodName) ({ cls := "FairBlocks$Chances", name := "emptyBehind", desc := "(IIIZ)I" } : MethodName)) ∈ gw := gm 674 (by decide +kernel) rfl
theorem w_675 : (Cond.code ({ cls := "FairBlocks$Chances", name := "emptyBehind", desc := "(IIIZ)I" } : MethodName) prog_4_method_4_code (9 : Nat) (Option.some FieldType.int)) ∈ gw := gm 675 (by decide +kernel) rfl
theorem w_676 : (Cond.methodLink "FairBlocks$Chances" (75 : Nat) ({ cls := "FairBlocks$Chances", name := "power", desc := "(II)I" } : MethodName)) ∈ gw := gm 676 (by decide +kernel) rfl
theorem w_677 : (Cond.static ({ cls := "FairBlocks$Chances", name := "power", desc := "(II)I" } : MethodName)) ∈ gw := gm 677 (by decide +kernel) rfl
theorem w_678 : (Cond.code ({ cls := "FairBlocks$Chances", name := "power", desc := "(II)I" } : MethodName) prog_4_method_6_code (4 : Nat) (Option.some FieldType.int)) ∈ gw := gm 678 (by decide +kernel) rfl
theorem w_679 : (Cond.methodLink "FairBlocks$Chances" (79 : Nat) ({ cls := "FairBlocks$Chances", name := "isEmptyBehind", desc := "(III)Z" } : MethodName)) ∈ gw := gm 679 (by decide +kernel) rfl
theorem w_681 : (Cond.instanceMethod ({ cls := "FairBlocks$Chances", name := "isEmptyBehind", desc := "(III)Z" } : MethodName)) ∈ gw := gm 681 (by decide +kernel) rfl
theorem w_682 : (Cond.code ({ cls := "FairBlocks$Chances", name := "isEmptyBehind", desc := "(III)Z" } : MethodName) prog_4_method_5_code (6 : Nat) (Option.some FieldType.boolean)) ∈ gw := gm 682 (by decide +kernel) rfl
theorem w_683 : (Cond.methodLink "FairBlocks$Chances" (83 : Nat) ({ cls := "FairBlocks$Scheduler", name := "runOne", desc := "(LFairBlocks$Standing;Z)I" } : MethodName)) ∈ gw := gm 683 (by decide +kernel) rfl
theorem w_684 : (Cond.methodLink "FairBlocks$Chances" (87 : Nat) ({ cls := "FairBlocks$User", name := "waiting", desc := "()I" } : MethodName)) ∈ gw := gm 684 (by decide +kernel) rfl
theorem w_685 : (Cond.methodLink "FairBlocksLaw" (111 : Nat) ({ cls := "FairBlocks", name := "seed", desc := "(J)J" } : MethodName)) ∈ gw := gm 685 (by decide +kernel) rfl
theorem w_686 : (Cond.instanceMethod ({ cls := "FairBlocks", name := "seed", desc := "(J)J" } : MethodName)) ∈ gw := gm 686 (by decide +kernel) rfl
theorem w_687 : (Cond.selects "FairBlocks" ({ cls := "FairBlocks", name := "seed", desc := "(J)J" } : MethodName) ({ cls := "FairBlocks", name := "seed", desc := "(J)J" } : MethodName)) ∈ gw := gm 687 (by decide +kernel) rfl
theorem w_688 : (Cond.code ({ cls := "FairBlocks", name := "seed", desc := "(J)J" } : MethodName) prog_1_method_24_code (5 : Nat) (Option.some FieldType.long)) ∈ gw := gm 688 (by decide +kernel) rfl
theorem w_689 : (Cond.methodLink "FairBlocksLaw" (116 : Nat) ({ cls := "FairBlocks", name := "drawn", desc := "(I)I" } : MethodName)) ∈ gw := gm 689 (by decide +kernel) rfl
theorem w_690 : (Cond.instanceMethod ({ cls := "FairBlocks", name := "drawn", desc := "(I)I" } : MethodName)) ∈ gw := gm 690 (by decide +kernel) rfl
theorem w_691 : (Cond.selects "FairBlocks" ({ cls := "FairBlocks", name := "drawn", desc := "(I)I" } : MethodName) ({ cls := "FairBlocks", name := "drawn", desc := "(I)I" } : MethodName)) ∈ gw := gm 691 (by decide +kernel) rfl
theorem w_692 : (Cond.code ({ cls := "FairBlocks", name := "drawn", desc := "(I)I" } : MethodName) prog_1_method_25_code (6 : Nat) (Option.some FieldType.int)) ∈ gw := gm 692 (by decide +kernel) rfl
theorem w_693 : (Cond.constantLong "FairBlocks" (215 : Nat) (6364136223846793005 : Int64)) ∈ gw := gm 693 (by decide +kernel) rfl
theorem w_694 : (Cond.constantLong "FairBlocks" (217 : Nat) (1442695040888963407 : Int64)) ∈ gw := gm 694 (by decide +kernel) rfl
theorem w_695 : (Cond.methodLink "FairBlocks" (219 : Nat) ({ cls := "FairBlocks$User", name := "takeIn", desc := "(I)V" } : MethodName)) ∈ gw := gm 695 (by decide +kernel) rfl
theorem w_696 : (Cond.methodLink "FairBlocksLaw" (120 : Nat) ({ cls := "FairBlocks", name := "keep", desc := "(I)I" } : MethodName)) ∈ gw := gm 696 (by decide +kernel) rfl
theorem w_697 : (Cond.instanceMethod ({ cls := "FairBlocks", name := "keep", desc := "(I)I" } : MethodName)) ∈ gw := gm 697 (by decide +kernel) rfl
theorem w_698 : (Cond.selects "FairBlocks" ({ cls := "FairBlocks", name := "keep", desc := "(I)I" } : MethodName) ({ cls := "FairBlocks", name := "keep", desc := "(I)I" } : MethodName)) ∈ gw := gm 698 (by decide +kernel) rfl
theorem w_699 : (Cond.code ({ cls := "FairBlocks", name := "keep", desc := "(I)I" } : MethodName) prog_1_method_26_code (2 : Nat) (Option.some FieldType.int)) ∈ gw := gm 699 (by decide +kernel) rfl
theorem w_700 : (Cond.methodLink "FairBlocks" (222 : Nat) ({ cls := "FairBlocks$Standing", name := "copyFrom", desc := "(LFairBlocks$Standing;)V" } : MethodName)) ∈ gw := gm 700 (by decide +kernel) rfl
theorem w_701 : (Cond.methodLink "FairBlocksLaw" (124 : Nat) ({ cls := "FairBlocks", name := "again", desc := "(I)I" } : MethodName)) ∈ gw := gm 701 (by decide +kernel) rfl
theorem w_702 : (Cond.instanceMethod ({ cls := "FairBlocks", name := "again", desc := "(I)I" } : MethodName)) ∈ gw := gm 702 (by decide +kernel) rfl
theorem w_703 : (Cond.selects "FairBlocks" ({ cls := "FairBlocks", name := "again", desc := "(I)I" } : MethodName) ({ cls := "FairBlocks", name := "again", desc := "(I)I" } : MethodName)) ∈ gw := gm 703 (by decide +kernel) rfl
theorem w_704 : (Cond.code ({ cls := "FairBlocks", name := "again", desc := "(I)I" } : MethodName) prog_1_method_27_code (2 : Nat) (Option.some FieldType.int)) ∈ gw := gm 704 (by decide +kernel) rfl
theorem w_705 : (Cond.methodLink "FairBlocksLaw" (128 : Nat) ({ cls := "FairBlocks", name := "count", desc := "(I)I" } : MethodName)) ∈ gw := gm 705 (by decide +kernel) rfl
theorem w_706 : (Cond.instanceMethod ({ cls := "FairBlocks", name := "count", desc := "(I)I" } : MethodName)) ∈ gw := gm 706 (by decide +kernel) rfl
theorem w_707 : (Cond.selects "FairBlocks" ({ cls := "FairBlocks", name := "count", desc := "(I)I" } : MethodName) ({ cls := "FairBlocks", name := "count", desc := "(I)I" } : MethodName)) ∈ gw := gm 707 (by decide +kernel) rfl
theorem w_708 : (Cond.code ({ cls := "FairBlocks", name := "count", desc := "(I)I" } : MethodName) prog_1_method_28_code (2 : Nat) (Option.some FieldType.int)) ∈ gw := gm 708 (by decide +kernel) rfl
theorem w_709 : (Cond.methodLink "FairBlocks" (228 : Nat) ({ cls := "FairBlocks$Standing", name := "offBits", desc := "(I)I" } : MethodName)) ∈ gw := gm 709 (by decide +kernel) rfl
theorem w_710 : (Cond.methodLink "FairBlocks" (231 : Nat) ({ cls := "FairBlocks$Standing", name := "waitingBits", desc := "(I)I" } : MethodName)) ∈ gw := gm 710 (by decide +kernel) rfl
theorem w_711 : (Cond.instanceMethod ({ cls := "FairBlocks$Standing", name := "waitingBits", desc := "(I)I" } : MethodName)) ∈ gw := gm 711 (by decide +kernel) rfl
theorem w_712 : (Cond.selects "FairBlocks$Standing" ({ cls := "FairBlocks$Standing", name := "waitingBits", desc := "(I)I" } : MethodName) ({ cls := "FairBlocks$Standing", name := "waitingBits", desc := "(I)I" } : MethodName)) ∈ gw := gm 712 (by decide +kernel) rfl
theorem w_713 : (Cond.code ({ cls := "FairBlocks$Standing", name := "waitingBits", desc := "(I)I" } : MethodName) prog_10_method_4_code (4 : Nat) (Option.some FieldType.int)) ∈ gw := gm 713 (by decide +kernel) rfl
theorem w_714 : (Cond.methodLink "FairBlocks$Standing" (33 : Nat) ({ cls := "FairBlocks$User", name := "waiting", desc := "()I" } : MethodName)) ∈ gw := gm 714 (by decide +kernel) rfl
theorem w_715 : (Cond.classLink "FairBlocksLaw" (10 : Nat) "FairBlocksModel") ∈ gw := gm 715 (by decide +kernel) rfl
theorem w_716 : (Cond.instantiable "FairBlocksModel" (32 : Nat)) ∈ gw := gm 716 (by decide +kernel) rfl
theorem w_717 : (Cond.methodLink "FairBlocksLaw" (12 : Nat) ({ cls := "FairBlocksModel", name := "<init>", desc := "()V" } : MethodName)) ∈ gw := gm 717 (by decide +kernel) rfl
theorem w_718 : (Cond.instanceMethod ({ cls := "FairBlocksModel", name := "<init>", desc := "()V" } : MethodName)) ∈ gw := gm 718 (by decide +kernel) rfl
theorem w_719 : (Cond.code ({ cls := "FairBlocksModel", name := "<init>", desc := "()V" } : MethodName) prog_14_method_8_code (1 : Nat) (Option.none : Option FieldType)) ∈ gw := gm 719 (by decide +kernel) rfl
theorem w_720 : (Cond.methodLink "FairBlocksModel" (21 : Nat) ({ cls := "java/lang/Object", name := "<init>", desc := "()V" } : MethodName)) ∈ gw := gm 720 (by decide +kernel) rfl
theorem w_721 : (Cond.fieldLink "FairBlocksModel" (1 : Nat) "FairBlocksModel" "thrown" "I") ∈ gw := gm 721 (by decide +kernel) rfl
theorem w_722 : (Cond.fieldLink "FairBlocksModel" (27 : Nat) "FairBlocksModel" "text" "[I") ∈ gw := gm 722 (by decide +kernel) rfl
theorem w_723 : (Cond.fieldLink "FairBlocksModel" (87 : Nat) "FairBlocksModel" "textSize" "I") ∈ gw := gm 723 (by decide +kernel) rfl
theorem w_724 : (Cond.fieldLink "FairBlocksModel" (90 : Nat) "FairBlocksModel" "place" "I") ∈ gw := gm 724 (by decide +kernel) rfl
theorem w_725 : (Cond.fieldLink "FairBlocksModel" (30 : Nat) "FairBlocksModel" "blocks" "I") ∈ gw := gm 725 (by decide +kernel) rfl
theorem w_726 : (Cond.fieldLink "FairBlocksModel" (33 : Nat) "FairBlocksModel" "shift" "I") ∈ gw := gm 726 (by decide +kernel) rfl
theorem w_727 : (Cond.fieldLink "FairBlocksModel" (14 : Nat) "FairBlocksModel" "users" "I") ∈ gw := gm 727 (by decide +kernel) rfl
theorem w_728 : (Cond.fieldLink "FairBlocksModel" (36 : Nat) "FairBlocksModel" "rates" "[I") ∈ gw := gm 728 (by decide +kernel) rfl
theorem w_729 : (Cond.fieldLink "FairBlocksModel" (39 : Nat) "FairBlocksModel" "rateMany" "[I") ∈ gw := gm 729 (by decide +kernel) rfl
theorem w_730 : (Cond.fieldLink "FairBlocksModel" (97 : Nat) "FairBlocksModel" "readBlocks" "I") ∈ gw := gm 730 (by decide +kernel) rfl
theorem w_731 : (Cond.fieldLink "FairBlocksModel" (100 : Nat) "FairBlocksModel" "readShift" "I") ∈ gw := gm 731 (by decide +kernel) rfl
theorem w_732 : (Cond.fieldLink "FairBlocksModel" (103 : Nat) "FairBlocksModel" "readPatience" "I") ∈ gw := gm 732 (by decide +kernel) rfl
theorem w_733 : (Cond.fieldLink "FairBlocksModel" (106 : Nat) "FairBlocksModel" "readUsers" "I") ∈ gw := gm 733 (by decide +kernel) rfl
theorem w_734 : (Cond.fieldLink "FairBlocksModel" (42 : Nat) "FairBlocksModel" "readRates" "[I") ∈ gw := gm 734 (by decide +kernel) rfl
theorem w_735 : (Cond.fieldLink "FairBlocksModel" (45 : Nat) "FairBlocksModel" "readRateMany" "[I") ∈ gw := gm 735 (by decide +kernel) rfl
theorem w_736 : (Cond.fieldLink "FairBlocksModel" (48 : Nat) "FairBlocksModel" "readPage" "[I") ∈ gw := gm 736 (by decide +kernel) rfl
theorem w_737 : (Cond.fieldLink "FairBlocksModel" (11 : Nat) "FairBlocksModel" "page" "[I") ∈ gw := gm 737 (by decide +kernel) rfl
theorem w_738 : (Cond.fieldLink "FairBlocksModel" (7 : Nat) "FairBlocksModel" "trial" "[I") ∈ gw := gm 738 (by decide +kernel) rfl
theorem w_739 : (Cond.fieldLink "FairBlocksModel" (51 : Nat) "FairBlocksModel" "other" "[I") ∈ gw := gm 739 (by decide +kernel) rfl
theorem w_740 : (Cond.fieldLink "FairBlocksModel" (54 : Nat) "FairBlocksModel" "book" "[I") ∈ gw := gm 740 (by decide +kernel) rfl
theorem w_741 : (Cond.fieldLink "FairBlocksModel" (120 : Nat) "FairBlocksModel" "doings" "I") ∈ gw := gm 741 (by decide +kernel) rfl
theorem w_742 : (Cond.fieldLink "FairBlocksModel" (57 : Nat) "FairBlocksModel" "kept" "[I") ∈ gw := gm 742 (by decide +kernel) rfl
theorem w_743 : (Cond.fieldLink "FairBlocksModel" (60 : Nat) "FairBlocksModel" "isKept" "[Z") ∈ gw := gm 743 (by decide +kernel) rfl
theorem w_744 : (Cond.fieldLink "FairBlocksModel" (198 : Nat) "FairBlocksModel" "seen" "I") ∈ gw := gm 744 (by decide +kernel) rfl
theorem w_745 : (Cond.fieldLink "FairBlocksModel" (64 : Nat) "FairBlocksModel" "seenBehind" "[I") ∈ gw := gm 745 (by decide +kernel) rfl
theorem w_746 : (Cond.fieldLink "FairBlocksModel" (67 : Nat) "FairBlocksModel" "seenUser" "[I") ∈ gw := gm 746 (by decide +kernel) rfl
theorem w_747 : (Cond.fieldLink "FairBlocksModel" (70 : Nat) "FairBlocksModel" "seenWhat" "[I") ∈ gw := gm 747 (by decide +kernel) rfl
theorem w_748 : (Cond.fieldLink "FairBlocksModel" (73 : Nat) "FairBlocksModel" "seenMany" "[I") ∈ gw := gm 748 (by decide +kernel) rfl
theorem w_749 : (Cond.fieldLink "FairBlocksModel" (76 : Nat) "FairBlocksModel" "seenWas" "[I") ∈ gw := gm 749 (by decide +kernel) rfl
theorem w_750 : (Cond.fieldLink "FairBlocksModel" (231 : Nat) "FairBlocksModel" "seed" "J") ∈ gw := gm 750 (by decide +kernel) rfl
theorem w_751 : (Cond.fieldLink "FairBlocksModel" (79 : Nat) "FairBlocksModel" "had" "[I") ∈ gw := gm 751 (by decide +kernel) rfl
theorem w_752 : (Cond.fieldLink "FairBlocksModel" (82 : Nat) "FairBlocksModel" "got" "[I") ∈ gw := gm 752 (by decide +kernel) rfl
theorem w_818 : (Cond.methodLink "FairBlocksLaw" (17 : Nat) ({ cls := "FairBlocksModel", name := "write", desc := "(I)I" } : MethodName)) ∈ gw := gm 818 (by decide +kernel) rfl
theorem w_819 : (Cond.instanceMethod ({ cls := "FairBlocksModel", name := "write", desc := "(I)I" } : MethodName)) ∈ gw := gm 819 (by decide +kernel) rfl
theorem w_820 : (Cond.selects "FairBlocksModel" ({ cls := "FairBlocksModel", name := "write", desc := "(I)I" } : MethodName) ({ cls := "FairBlocksModel", name := "write", desc := "(I)I" } : MethodName)) ∈ gw := gm 820 (by decide +kernel) rfl
theorem w_821 : (Cond.code ({ cls := "FairBlocksModel", name := "write", desc := "(I)I" } : MethodName) prog_14_method_9_code (2 : Nat) (Option.some FieldType.int)) ∈ gw := gm 821 (by decide +kernel) rfl
theorem w_822 : (Cond.constantLong "FairBlocksModel" (85 : Nat) (255 : Int64)) ∈ gw := gm 822 (by decide +kernel) rfl
theorem w_823 : (Cond.methodLink "FairBlocksModel" (17 : Nat) ({ cls := "FairBlocksModel", name := "in", desc := "(JJJ)Z" } : MethodName)) ∈ gw := gm 823 (by decide +kernel) rfl
theorem w_824 : (Cond.static ({ cls := "FairBlocksModel", name := "in", desc := "(JJJ)Z" } : MethodName)) ∈ gw := gm 824 (by decide +kernel) rfl
theorem w_825 : (Cond.code ({ cls := "FairBlocksModel", name := "in", desc := "(JJJ)Z" } : MethodName) prog_14_method_2_code (6 : Nat) (Option.some FieldType.boolean)) ∈ gw := gm 825 (by decide +kernel) rfl
theorem w_826 : (Cond.methodLink "FairBlocksLaw" (22 : Nat) ({ cls := "FairBlocksModel", name := "wipe", desc := "()I" } : MethodName)) ∈ gw := gm 826 (by decide +kernel) rfl
theorem w_827 : (Cond.instanceMethod ({ cls := "FairBlocksModel", name := "wipe", desc := "()I" } : MethodName)) ∈ gw := gm 827 (by decide +kernel) rfl
theorem w_828 : (Cond.selects "FairBlocksModel" ({ cls := "FairBlocksModel", name := "wipe", desc := "()I" } : MethodName) ({ cls := "FairBlocksModel", name := "wipe", desc := "()I" } : MethodName)) ∈ gw := gm 828 (by decide +kernel) rfl
theorem w_829 : (Cond.code ({ cls := "FairBlocksModel", name := "wipe", desc := "()I" } : MethodName) prog_14_method_10_code (2 : Nat) (Option.some FieldType.int)) ∈ gw := gm 829 (by decide +kernel) rfl
theorem w_830 : (Cond.methodLink "FairBlocksLaw" (26 : Nat) ({ cls := "FairBlocksModel", name := "fault", desc := "()I" } : MethodName)) ∈ gw := gm 830 (by decide +kernel) rfl
theorem w_831 : (Cond.instanceMethod ({ cls := "FairBlocksModel", name := "fault", desc := "()I" } : MethodName)) ∈ gw := gm 831 (by decide +kernel) rfl
theorem w_832 : (Cond.selects "FairBlocksModel" ({ cls := "FairBlocksModel", name := "fault", desc := "()I" } : MethodName) ({ cls := "FairBlocksModel", name := "fault", desc := "()I" } : MethodName)) ∈ gw := gm 832 (by decide +kernel) rfl
theorem w_833 : (Cond.code ({ cls := "FairBlocksModel", name := "fault", desc := "()I" } : MethodName) prog_14_method_15_code (1 : Nat) (Option.some FieldType.int)) ∈ gw := gm 833 (by decide +kernel) rfl
theorem w_834 : (Cond.methodLink "FairBlocksModel" (116 : Nat) ({ cls := "FairBlocksModel", name := "readCell", desc := "()I" } : MethodName)) ∈ gw := gm 834 (by decide +kernel) rfl
theorem w_836 : (Cond.instanceMethod ({ cls := "FairBlocksModel", name := "readCell", desc := "()I" } : MethodName)) ∈ gw := gm 836 (by decide +kernel) rfl
theorem w_837 : (Cond.code ({ cls := "FairBlocksModel", name := "readCell", desc := "()I" } : MethodName) prog_14_method_14_code (2 : Nat) (Option.some FieldType.int)) ∈ gw := gm 837 (by decide +kernel) rfl
theorem w_838 : (Cond.methodLink "FairBlocksModel" (109 : Nat) ({ cls := "FairBlocksModel", name := "readHead", desc := "()Z" } : MethodName)) ∈ gw := gm 838 (by decide +kernel) rfl
theorem w_840 : (Cond.instanceMethod ({ cls := "FairBlocksModel", name := "readHead", desc := "()Z" } : MethodName)) ∈ gw := gm 840 (by decide +kernel) rfl
theorem w_841 : (Cond.code ({ cls := "FairBlocksModel", name := "readHead", desc := "()Z" } : MethodName) prog_14_method_12_code (1 : Nat) (Option.some FieldType.boolean)) ∈ gw := gm 841 (by decide +kernel) rfl
theorem w_842 : (Cond.methodLink "FairBlocksModel" (93 : Nat) ({ cls := "FairBlocksModel", name := "figure", desc := "(II)I" } : MethodName)) ∈ gw := gm 842 (by decide +kernel) rfl
theorem w_844 : (Cond.instanceMethod ({ cls := "FairBlocksModel", name := "figure", desc := "(II)I" } : MethodName)) ∈ gw := gm 844 (by decide +kernel) rfl
theorem w_845 : (Cond.code ({ cls := "FairBlocksModel", name := "figure", desc := "(II)I" } : MethodName) prog_14_method_11_code (4 : Nat) (Option.some FieldType.int)) ∈ gw := gm 845 (by decide +kernel) rfl
theorem w_846 : (Cond.methodLink "FairBlocksModel" (113 : Nat) ({ cls := "FairBlocksModel", name := "readUser", desc := "()Z" } : MethodName)) ∈ gw := gm 846 (by decide +kernel) rfl
theorem w_848 : (Cond.instanceMethod ({ cls := "FairBlocksModel", name := "readUser", desc := "()Z" } : MethodName)) ∈ gw := gm 848 (by decide +kernel) rfl
theorem w_849 : (Cond.code ({ cls := "FairBlocksModel", name := "readUser", desc := "()Z" } : MethodName) prog_14_method_13_code (6 : Nat) (Option.some FieldType.boolean)) ∈ gw := gm 849 (by decide +kernel) rfl
theorem w_850 : (Cond.methodLink "FairBlocksLaw" (30 : Nat) ({ cls := "FairBlocksModel", name := "cell", desc := "()I" } : MethodName)) ∈ gw := gm 850 (by decide +kernel) rfl
theorem w_851 : (Cond.instanceMethod ({ cls := "FairBlocksModel", name := "cell", desc := "()I" } : MethodName)) ∈ gw := gm 851 (by decide +kernel) rfl
theorem w_852 : (Cond.selects "FairBlocksModel" ({ cls := "FairBlocksModel", name := "cell", desc := "()I" } : MethodName) ({ cls := "FairBlocksModel", name := "cell", desc := "()I" } : MethodName)) ∈ gw := gm 852 (by decide +kernel) rfl
theorem w_853 : (Cond.code ({ cls := "FairBlocksModel", name := "cell", desc := "()I" } : MethodName) prog_14_method_16_code (2 : Nat) (Option.some FieldType.int)) ∈ gw := gm 853 (by decide +kernel) rfl
theorem w_854 : (Cond.methodLink "FairBlocksLaw" (35 : Nat) ({ cls := "FairBlocksModel", name := "user", desc := "(II)I" } : MethodName)) ∈ gw := gm 854 (by decide +kernel) rfl
theorem w_855 : (Cond.instanceMethod ({ cls := "FairBlocksModel", name := "user", desc := "(II)I" } : MethodName)) ∈ gw := gm 855 (by decide +kernel) rfl
theorem w_856 : (Cond.selects "FairBlocksModel" ({ cls := "FairBlocksModel", name := "user", desc := "(II)I" } : MethodName) ({ cls := "FairBlocksModel", name := "user", desc := "(II)I" } : MethodName)) ∈ gw := gm 856 (by decide +kernel) rfl
theorem w_857 : (Cond.code ({ cls := "FairBlocksModel", name := "user", desc := "(II)I" } : MethodName) prog_14_method_27_code (3 : Nat) (Option.some FieldType.int)) ∈ gw := gm 857 (by decide +kernel) rfl
theorem w_858 : (Cond.methodLink "FairBlocksModel" (156 : Nat) ({ cls := "FairBlocksModel", name := "noUser", desc := "(I)Z" } : MethodName)) ∈ gw := gm 858 (by decide +kernel) rfl
theorem w_860 : (Cond.instanceMethod ({ cls := "FairBlocksModel", name := "noUser", desc := "(I)Z" } : MethodName)) ∈ gw := gm 860 (by decide +kernel) rfl
theorem w_861 : (Cond.code ({ cls := "FairBlocksModel", name := "noUser", desc := "(I)Z" } : MethodName) prog_14_method_7_code (2 : Nat) (Option.some FieldType.boolean)) ∈ gw := gm 861 (by decide +kernel) rfl
theorem w_862 : (Cond.constantLong "FairBlocksModel" (160 : Nat) (10 : Int64)) ∈ gw := gm 862 (by decide +kernel) rfl
theorem w_863 : (Cond.methodLink "FairBlocksModel" (123 : Nat) ({ cls := "FairBlocksModel", name := "rateOf", desc := "([II)I" } : MethodName)) ∈ gw := gm 863 (by decide +kernel) rfl
theorem w_865 : (Cond.instanceMethod ({ cls := "FairBlocksModel", name := "rateOf", desc := "([II)I" } : MethodName)) ∈ gw := gm 865 (by decide +kernel) rfl
theorem w_866 : (Cond.code ({ cls := "FairBlocksModel", name := "rateOf", desc := "([II)I" } : MethodName) prog_14_method_17_code (3 : Nat) (Option.some FieldType.int)) ∈ gw := gm 866 (by decide +kernel) rfl
theorem w_867 : (Cond.methodLink "FairBlocksLaw" (39 : Nat) ({ cls := "FairBlocksModel", name := "slot", desc := "(I)I" } : MethodName)) ∈ gw := gm 867 (by decide +kernel) rfl
theorem w_868 : (Cond.instanceMethod ({ cls := "FairBlocksModel", name := "slot", desc := "(I)I" } : MethodName)) ∈ gw := gm 868 (by decide +kernel) rfl
theorem w_869 : (Cond.selects "FairBlocksModel" ({ cls := "FairBlocksModel", name := "slot", desc := "(I)I" } : MethodName) ({ cls := "FairBlocksModel", name := "slot", desc := "(I)I" } : MethodName)) ∈ gw := gm 869 (by decide +kernel) rfl
theorem w_870 : (Cond.code ({ cls := "FairBlocksModel", name := "slot", desc := "(I)I" } : MethodName) prog_14_method_29_code (2 : Nat) (Option.some FieldType.int)) ∈ gw := gm 870 (by decide +kernel) rfl
theorem w_871 : (Cond.constantLong "FairBlocksModel" (162 : Nat) (99 : Int64)) ∈ gw := gm 871 (by decide +kernel) rfl
theorem w_872 : (Cond.methodLink "FairBlocksModel" (164 : Nat) ({ cls := "FairBlocksModel", name := "note", desc := "()V" } : MethodName)) ∈ gw := gm 872 (by decide +kernel) rfl
theorem w_874 : (Cond.instanceMethod ({ cls := "FairBlocksModel", name := "note", desc := "()V" } : MethodName)) ∈ gw := gm 874 (by decide +kernel) rfl
theorem w_875 : (Cond.code ({ cls := "FairBlocksModel", name := "note", desc := "()V" } : MethodName) prog_14_method_28_code (2 : Nat) (Option.none : Option FieldType)) ∈ gw := gm 875 (by decide +kernel) rfl
theorem w_876 : (Cond.methodLink "FairBlocksModel" (167 : Nat) ({ cls := "FairBlocksModel", name := "slotsOn", desc := "([II)I" } : MethodName)) ∈ gw := gm 876 (by decide +kernel) rfl
theorem w_878 : (Cond.instanceMethod ({ cls := "FairBlocksModel", name := "slotsOn", desc := "([II)I" } : MethodName)) ∈ gw := gm 878 (by decide +kernel) rfl
theorem w_879 : (Cond.code ({ cls := "FairBlocksModel", name := "slotsOn", desc := "([II)I" } : MethodName) prog_14_method_26_code (5 : Nat) (Option.some FieldType.int)) ∈ gw := gm 879 (by decide +kernel) rfl
theorem w_880 : (Cond.methodLink "FairBlocksModel" (152 : Nat) ({ cls := "FairBlocksModel", name := "slotOn", desc := "([IZ)I" } : MethodName)) ∈ gw := gm 880 (by decide +kernel) rfl
theorem w_882 : (Cond.instanceMethod ({ cls := "FairBlocksModel", name := "slotOn", desc := "([IZ)I" } : MethodName)) ∈ gw := gm 882 (by decide +kernel) rfl
theorem w_883 : (Cond.code ({ cls := "FairBlocksModel", name := "slotOn", desc := "([IZ)I" } : MethodName) prog_14_method_25_code (6 : Nat) (Option.some FieldType.int)) ∈ gw := gm 883 (by decide +kernel) rfl
theorem w_884 : (Cond.methodLink "FairBlocksModel" (145 : Nat) ({ cls := "FairBlocksModel", name := "whoHas", desc := "([II)I" } : MethodName)) ∈ gw := gm 884 (by decide +kernel) rfl
theorem w_886 : (Cond.instanceMethod ({ cls := "FairBlocksModel", name := "whoHas", desc := "([II)I" } : MethodName)) ∈ gw := gm 886 (by decide +kernel) rfl
theorem w_887 : (Cond.code ({ cls := "FairBlocksModel", name := "whoHas", desc := "([II)I" } : MethodName) prog_14_method_23_code (9 : Nat) (Option.some FieldType.int)) ∈ gw := gm 887 (by decide +kernel) rfl
theorem w_888 : (Cond.methodLink "FairBlocksModel" (135 : Nat) ({ cls := "FairBlocksModel", name := "may", desc := "([III)Z" } : MethodName)) ∈ gw := gm 888 (by decide +kernel) rfl
theorem w_890 : (Cond.instanceMethod ({ cls := "FairBlocksModel", name := "may", desc := "([III)Z" } : MethodName)) ∈ gw := gm 890 (by decide +kernel) rfl
theorem w_891 : (Cond.code ({ cls := "FairBlocksModel", name := "may", desc := "([III)Z" } : MethodName) prog_14_method_20_code (4 : Nat) (Option.some FieldType.boolean)) ∈ gw := gm 891 (by decide +kernel) rfl
theorem w_892 : (Cond.methodLink "FairBlocksModel" (127 : Nat) ({ cls := "FairBlocksModel", name := "hasAny", desc := "([II)Z" } : MethodName)) ∈ gw := gm 892 (by decide +kernel) rfl
theorem w_893 : (Cond.static ({ cls := "FairBlocksModel", name := "hasAny", desc := "([II)Z" } : MethodName)) ∈ gw := gm 893 (by decide +kernel) rfl
theorem w_894 : (Cond.code ({ cls := "FairBlocksModel", name := "hasAny", desc := "([II)Z" } : MethodName) prog_14_method_18_code (2 : Nat) (Option.some FieldType.boolean)) ∈ gw := gm 894 (by decide +kernel) rfl
theorem w_895 : (Cond.methodLink "FairBlocksModel" (131 : Nat) ({ cls := "FairBlocksModel", name := "hadSome", desc := "(II)Z" } : MethodName)) ∈ gw := gm 895 (by decide +kernel) rfl
theorem w_897 : (Cond.instanceMethod ({ cls := "FairBlocksModel", name := "hadSome", desc := "(II)Z" } : MethodName)) ∈ gw := gm 897 (by decide +kernel) rfl
theorem w_898 : (Cond.code ({ cls := "FairBlocksModel", name := "hadSome", desc := "(II)Z" } : MethodName) prog_14_method_19_code (5 : Nat) (Option.some FieldType.boolean)) ∈ gw := gm 898 (by decide +kernel) rfl
theorem w_899 : (Cond.methodLink "FairBlocksModel" (139 : Nat) ({ cls := "FairBlocksModel", name := "urgent", desc := "([II)I" } : MethodName)) ∈ gw := gm 899 (by decide +kernel) rfl
theorem w_901 : (Cond.instanceMethod ({ cls := "FairBlocksModel", name := "urgent", desc := "([II)I" } : MethodName)) ∈ gw := gm 901 (by decide +kernel) rfl
theorem w_902 : (Cond.code ({ cls := "FairBlocksModel", name := "urgent", desc := "([II)I" } : MethodName) prog_14_method_22_code (4 : Nat) (Option.some FieldType.int)) ∈ gw := gm 902 (by decide +kernel) rfl
theorem w_903 : (Cond.methodLink "FairBlocksModel" (142 : Nat) ({ cls := "FairBlocksModel", name := "isDue", desc := "([III)Z" } : MethodName)) ∈ gw := gm 903 (by decide +kernel) rfl
theorem w_905 : (Cond.instanceMethod ({ cls := "FairBlocksModel", name := "isDue", desc := "([III)Z" } : MethodName)) ∈ gw := gm 905 (by decide +kernel) rfl
theorem w_906 : (Cond.code ({ cls := "FairBlocksModel", name := "isDue", desc := "([III)Z" } : MethodName) prog_14_method_21_code (8 : Nat) (Option.some FieldType.boolean)) ∈ gw := gm 906 (by decide +kernel) rfl
theorem w_907 : (Cond.methodLink "FairBlocksModel" (148 : Nat) ({ cls := "FairBlocksModel", name := "sends", desc := "([II)V" } : MethodName)) ∈ gw := gm 907 (by decide +kernel) rfl
theorem w_909 : (Cond.instanceMethod ({ cls := "FairBlocksModel", name := "sends", desc := "([II)V" } : MethodName)) ∈ gw := gm 909 (by decide +kernel) rfl
theorem w_910 : (Cond.code ({ cls := "FairBlocksModel", name := "sends", desc := "([II)V" } : MethodName) prog_14_method_24_code (7 : Nat) (Option.none : Option FieldType)) ∈ gw := gm 910 (by decide +kernel) rfl
theorem w_911 : (Cond.methodLink "FairBlocksLaw" (43 : Nat) ({ cls := "FairBlocksModel", name := "turn", desc := "(I)I" } : MethodName)) ∈ gw := gm 911 (by decide +kernel) rfl
theorem w_912 : (Cond.instanceMethod ({ cls := "FairBlocksModel", name := "turn", desc := "(I)I" } : MethodName)) ∈ gw := gm 912 (by decide +kernel) rfl
theorem w_913 : (Cond.selects "FairBlocksModel" ({ cls := "FairBlocksModel", name := "turn", desc := "(I)I" } : MethodName) ({ cls := "FairBlocksModel", name := "turn", desc := "(I)I" } : MethodName)) ∈ gw := gm 913 (by decide +kernel) rfl
theorem w_914 : (Cond.code ({ cls := "FairBlocksModel", name := "turn", desc := "(I)I" } : MethodName) prog_14_method_30_code (2 : Nat) (Option.some FieldType.int)) ∈ gw := gm 914 (by decide +kernel) rfl
theorem w_915 : (Cond.methodLink "FairBlocksLaw" (47 : Nat) ({ cls := "FairBlocksModel", name := "drop", desc := "(I)I" } : MethodName)) ∈ gw := gm 915 (by decide +kernel) rfl
theorem w_916 : (Cond.instanceMethod ({ cls := "FairBlocksModel", name := "drop", desc := "(I)I" } : MethodName)) ∈ gw := gm 916 (by decide +kernel) rfl
theorem w_917 : (Cond.selects "FairBlocksModel" ({ cls := "FairBlocksModel", name := "drop", desc := "(I)I" } : MethodName) ({ cls := "FairBlocksModel", name := "drop", desc := "(I)I" } : MethodName)) ∈ gw := gm 917 (by decide +kernel) rfl
theorem w_918 : (Cond.code ({ cls := "FairBlocksModel", name := "drop", desc := "(I)I" } : MethodName) prog_14_method_31_code (3 : Nat) (Option.some FieldType.int)) ∈ gw := gm 918 (by decide +kernel) rfl
theorem w_919 : (Cond.methodLink "FairBlocksLaw" (52 : Nat) ({ cls := "FairBlocksModel", name := "set", desc := "(III)I" } : MethodName)) ∈ gw := gm 919 (by decide +kernel) rfl
theorem w_920 : (Cond.instanceMethod ({ cls := "FairBlocksModel", name := "set", desc := "(III)I" } : MethodName)) ∈ gw := gm 920 (by decide +kernel) rfl
theorem w_921 : (Cond.selects "FairBlocksModel" ({ cls := "FairBlocksModel", name := "set", desc := "(III)I" } : MethodName) ({ cls := "FairBlocksModel", name := "set", desc := "(III)I" } : MethodName)) ∈ gw := gm 921 (by decide +kernel) rfl
theorem w_922 : (Cond.code ({ cls := "FairBlocksModel", name := "set", desc := "(III)I" } : MethodName) prog_14_method_32_code (5 : Nat) (Option.some FieldType.int)) ∈ gw := gm 922 (by decide +kernel) rfl
theorem w_923 : (Cond.constantLong "FairBlocksModel" (170 : Nat) (2 : Int64)) ∈ gw := gm 923 (by decide +kernel) rfl
theorem w_924 : (Cond.constantLong "FairBlocksModel" (172 : Nat) (9 : Int64)) ∈ gw := gm 924 (by decide +kernel) rfl
theorem w_925 : (Cond.methodLink "FairBlocksLaw" (56 : Nat) ({ cls := "FairBlocksModel", name := "patience", desc := "(I)I" } : MethodName)) ∈ gw := gm 925 (by decide +kernel) rfl
theorem w_926 : (Cond.instanceMethod ({ cls := "FairBlocksModel", name := "patience", desc := "(I)I" } : MethodName)) ∈ gw := gm 926 (by decide +kernel) rfl
theorem w_927 : (Cond.selects "FairBlocksModel" ({ cls := "FairBlocksModel", name := "patience", desc := "(I)I" } : MethodName) ({ cls := "FairBlocksModel", name := "patience", desc := "(I)I" } : MethodName)) ∈ gw := gm 927 (by decide +kernel) rfl
theorem w_928 : (Cond.code ({ cls := "FairBlocksModel", name := "patience", desc := "(I)I" } : MethodName) prog_14_method_33_code (3 : Nat) (Option.some FieldType.int)) ∈ gw := gm 928 (by decide +kernel) rfl
theorem w_929 : (Cond.methodLink "FairBlocksLaw" (60 : Nat) ({ cls := "FairBlocksModel", name := "undo", desc := "()I" } : MethodName)) ∈ gw := gm 929 (by decide +kernel) rfl
theorem w_930 : (Cond.instanceMethod ({ cls := "FairBlocksModel", name := "undo", desc := "()I" } : MethodName)) ∈ gw := gm 930 (by decide +kernel) rfl
theorem w_931 : (Cond.selects "FairBlocksModel" ({ cls := "FairBlocksModel", name := "undo", desc := "()I" } : MethodName) ({ cls := "FairBlocksModel", name := "undo", desc := "()I" } : MethodName)) ∈ gw := gm 931 (by decide +kernel) rfl
theorem w_932 : (Cond.code ({ cls := "FairBlocksModel", name := "undo", desc := "()I" } : MethodName) prog_14_method_34_code (2 : Nat) (Option.some FieldType.int)) ∈ gw := gm 932 (by decide +kernel) rfl
theorem w_933 : (Cond.methodLink "FairBlocksLaw" (64 : Nat) ({ cls := "FairBlocksModel", name := "ahead", desc := "(III)I" } : MethodName)) ∈ gw := gm 933 (by decide +kernel) rfl
theorem w_934 : (Cond.instanceMethod ({ cls := "FairBlocksModel", name := "ahead", desc := "(III)I" } : MethodName)) ∈ gw := gm 934 (by decide +kernel) rfl
theorem w_935 : (Cond.selects "FairBlocksModel" ({ cls := "FairBlocksModel", name := "ahead", desc := "(III)I" } : MethodName) ({ cls := "FairBlocksModel", name := "ahead", desc := "(III)I" } : MethodName)) ∈ gw := gm 935 (by decide +kernel) rfl
theorem w_936 : (Cond.code ({ cls := "FairBlocksModel", name := "ahead", desc := "(III)I" } : MethodName) prog_14_method_35_code (4 : Nat) (Option.some FieldType.int)) ∈ gw := gm 936 (by decide +kernel) rfl
theorem w_937 : (Cond.constantLong "FairBlocksModel" (174 : Nat) (5 : Int64)) ∈ gw := gm 937 (by decide +kernel) rfl
theorem w_938 : (Cond.methodLink "FairBlocksModel" (176 : Nat) ({ cls := "FairBlocksModel", name := "layTrial", desc := "()V" } : MethodName)) ∈ gw := gm 938 (by decide +kernel) rfl
theorem w_940 : (Cond.instanceMethod ({ cls := "FairBlocksModel", name := "layTrial", desc := "()V" } : MethodName)) ∈ gw := gm 940 (by decide +kernel) rfl
theorem w_941 : (Cond.code ({ cls := "FairBlocksModel", name := "layTrial", desc := "()V" } : MethodName) prog_14_method_6_code (2 : Nat) (Option.none : Option FieldType)) ∈ gw := gm 941 (by decide +kernel) rfl
theorem w_942 : (Cond.methodLink "FairBlocksLaw" (68 : Nat) ({ cls := "FairBlocksModel", name := "who", desc := "(I)I" } : MethodName)) ∈ gw := gm 942 (by decide +kernel) rfl
theorem w_943 : (Cond.instanceMethod ({ cls := "FairBlocksModel", name := "who", desc := "(I)I" } : MethodName)) ∈ gw := gm 943 (by decide +kernel) rfl
theorem w_944 : (Cond.selects "FairBlocksModel" ({ cls := "FairBlocksModel", name := "who", desc := "(I)I" } : MethodName) ({ cls := "FairBlocksModel", name := "who", desc := "(I)I" } : MethodName)) ∈ gw := gm 944 (by decide +kernel) rfl
theorem w_945 : (Cond.code ({ cls := "FairBlocksModel", name := "who", desc := "(I)I" } : MethodName) prog_14_method_37_code (2 : Nat) (Option.some FieldType.int)) ∈ gw := gm 945 (by decide +kernel) rfl
theorem w_946 : (Cond.methodLink "FairBlocksModel" (179 : Nat) ({ cls := "FairBlocksModel", name := "whoNext", desc := "([II)I" } : MethodName)) ∈ gw := gm 946 (by decide +kernel) rfl
theorem w_948 : (Cond.instanceMethod ({ cls := "FairBlocksModel", name := "whoNext", desc := "([II)I" } : MethodName)) ∈ gw := gm 948 (by decide +kernel) rfl
theorem w_949 : (Cond.code ({ cls := "FairBlocksModel", name := "whoNext", desc := "([II)I" } : MethodName) prog_14_method_36_code (3 : Nat) (Option.some FieldType.int)) ∈ gw := gm 949 (by decide +kernel) rfl
theorem w_950 : (Cond.methodLink "FairBlocksLaw" (72 : Nat) ({ cls := "FairBlocksModel", name := "longest", desc := "(II)I" } : MethodName)) ∈ gw := gm 950 (by decide +kernel) rfl
theorem w_951 : (Cond.instanceMethod ({ cls := "FairBlocksModel", name := "longest", desc := "(II)I" } : MethodName)) ∈ gw := gm 951 (by decide +kernel) rfl
theorem w_952 : (Cond.selects "FairBlocksModel" ({ cls := "FairBlocksModel", name := "longest", desc := "(II)I" } : MethodName) ({ cls := "FairBlocksModel", name := "longest", desc := "(II)I" } : MethodName)) ∈ gw := gm 952 (by decide +kernel) rfl
theorem w_953 : (Cond.code ({ cls := "FairBlocksModel", name := "longest", desc := "(II)I" } : MethodName) prog_14_method_38_code (6 : Nat) (Option.some FieldType.int)) ∈ gw := gm 953 (by decide +kernel) rfl
theorem w_954 : (Cond.methodLink "FairBlocksLaw" (76 : Nat) ({ cls := "FairBlocksModel", name := "empty", desc := "(I)I" } : MethodName)) ∈ gw := gm 954 (by decide +kernel) rfl
theorem w_955 : (Cond.instanceMethod ({ cls := "FairBlocksModel", name := "empty", desc := "(I)I" } : MethodName)) ∈ gw := gm 955 (by decide +kernel) rfl
theorem w_956 : (Cond.selects "FairBlocksModel" ({ cls := "FairBlocksModel", name := "empty", desc := "(I)I" } : MethodName) ({ cls := "FairBlocksModel", name := "empty", desc := "(I)I" } : MethodName)) ∈ gw := gm 956 (by decide +kernel) rfl
theorem w_957 : (Cond.code ({ cls := "FairBlocksModel", name := "empty", desc := "(I)I" } : MethodName) prog_14_method_39_code (3 : Nat) (Option.some FieldType.int)) ∈ gw := gm 957 (by decide +kernel) rfl
theorem w_958 : (Cond.methodLink "FairBlocksLaw" (80 : Nat) ({ cls := "FairBlocksModel", name := "best", desc := "(I)I" } : MethodName)) ∈ gw := gm 958 (by decide +kernel) rfl
theorem w_959 : (Cond.instanceMethod ({ cls := "FairBlocksModel", name := "best", desc := "(I)I" } : MethodName)) ∈ gw := gm 959 (by decide +kernel) rfl
theorem w_960 : (Cond.selects "FairBlocksModel" ({ cls := "FairBlocksModel", name := "best", desc := "(I)I" } : MethodName) ({ cls := "FairBlocksModel", name := "best", desc := "(I)I" } : MethodName)) ∈ gw := gm 960 (by decide +kernel) rfl
theorem w_961 : (Cond.code ({ cls := "FairBlocksModel", name := "best", desc := "(I)I" } : MethodName) prog_14_method_40_code (8 : Nat) (Option.some FieldType.int)) ∈ gw := gm 961 (by decide +kernel) rfl
theorem w_962 : (Cond.methodLink "FairBlocksLaw" (87 : Nat) ({ cls := "FairBlocksModel", name := "judge", desc := "(IJ)I" } : MethodName)) ∈ gw := gm 962 (by decide +kernel) rfl
theorem w_963 : (Cond.instanceMethod ({ cls := "FairBlocksModel", name := "judge", desc := "(IJ)I" } : MethodName)) ∈ gw := gm 963 (by decide +kernel) rfl
theorem w_964 : (Cond.selects "FairBlocksModel" ({ cls := "FairBlocksModel", name := "judge", desc := "(IJ)I" } : MethodName) ({ cls := "FairBlocksModel", name := "judge", desc := "(IJ)I" } : MethodName)) ∈ gw := gm 964 (by decide +kernel) rfl
theorem w_965 : (Cond.code ({ cls := "FairBlocksModel", name := "judge", desc := "(IJ)I" } : MethodName) prog_14_method_44_code (6 : Nat) (Option.some FieldType.int)) ∈ gw := gm 965 (by decide +kernel) rfl
theorem w_966 : (Cond.constantLong "FairBlocksModel" (186 : Nat) (4 : Int64)) ∈ gw := gm 966 (by decide +kernel) rfl
theorem w_967 : (Cond.constantLong "FairBlocksModel" (188 : Nat) (1000 : Int64)) ∈ gw := gm 967 (by decide +kernel) rfl
theorem w_968 : (Cond.methodLink "FairBlocksModel" (190 : Nat) ({ cls := "FairBlocksModel", name := "longPower", desc := "(JI)J" } : MethodName)) ∈ gw := gm 968 (by decide +kernel) rfl
theorem w_969 : (Cond.static ({ cls := "FairBlocksModel", name := "longPower", desc := "(JI)J" } : MethodName)) ∈ gw := gm 969 (by decide +kernel) rfl
theorem w_970 : (Cond.code ({ cls := "FairBlocksModel", name := "longPower", desc := "(JI)J" } : MethodName) prog_14_method_43_code (6 : Nat) (Option.some FieldType.long)) ∈ gw := gm 970 (by decide +kernel) rfl
theorem w_971 : (Cond.methodLink "FairBlocksModel" (194 : Nat) ({ cls := "FairBlocksModel", name := "does", desc := "(III)Z" } : MethodName)) ∈ gw := gm 971 (by decide +kernel) rfl
theorem w_973 : (Cond.instanceMethod ({ cls := "FairBlocksModel", name := "does", desc := "(III)Z" } : MethodName)) ∈ gw := gm 973 (by decide +kernel) rfl
theorem w_974 : (Cond.code ({ cls := "FairBlocksModel", name := "does", desc := "(III)Z" } : MethodName) prog_14_method_42_code (4 : Nat) (Option.some FieldType.boolean)) ∈ gw := gm 974 (by decide +kernel) rfl
theorem w_975 : (Cond.methodLink "FairBlocksModel" (182 : Nat) ({ cls := "FairBlocksModel", name := "whoTried", desc := "(I)I" } : MethodName)) ∈ gw := gm 975 (by decide +kernel) rfl
theorem w_977 : (Cond.instanceMethod ({ cls := "FairBlocksModel", name := "whoTried", desc := "(I)I" } : MethodName)) ∈ gw := gm 977 (by decide +kernel) rfl
theorem w_978 : (Cond.code ({ cls := "FairBlocksModel", name := "whoTried", desc := "(I)I" } : MethodName) prog_14_method_41_code (3 : Nat) (Option.some FieldType.int)) ∈ gw := gm 978 (by decide +kernel) rfl
theorem w_979 : (Cond.methodLink "FairBlocksLaw" (92 : Nat) ({ cls := "FairBlocksModel", name := "see", desc := "(IIIII)I" } : MethodName)) ∈ gw := gm 979 (by decide +kernel) rfl
theorem w_980 : (Cond.instanceMethod ({ cls := "FairBlocksModel", name := "see", desc := "(IIIII)I" } : MethodName)) ∈ gw := gm 980 (by decide +kernel) rfl
theorem w_981 : (Cond.selects "FairBlocksModel" ({ cls := "FairBlocksModel", name := "see", desc := "(IIIII)I" } : MethodName) ({ cls := "FairBlocksModel", name := "see", desc := "(IIIII)I" } : MethodName)) ∈ gw := gm 981 (by decide +kernel) rfl
theorem w_982 : (Cond.code ({ cls := "FairBlocksModel", name := "see", desc := "(IIIII)I" } : MethodName) prog_14_method_45_code (6 : Nat) (Option.some FieldType.int)) ∈ gw := gm 982 (by decide +kernel) rfl
theorem w_983 : (Cond.methodLink "FairBlocksLaw" (96 : Nat) ({ cls := "FairBlocksModel", name := "unsee", desc := "()I" } : MethodName)) ∈ gw := gm 983 (by decide +kernel) rfl
theorem w_984 : (Cond.instanceMethod ({ cls := "FairBlocksModel", name := "unsee", desc := "()I" } : MethodName)) ∈ gw := gm 984 (by decide +kernel) rfl
theorem w_985 : (Cond.selects "FairBlocksModel" ({ cls := "FairBlocksModel", name := "unsee", desc := "()I" } : MethodName) ({ cls := "FairBlocksModel", name := "unsee", desc := "()I" } : MethodName)) ∈ gw := gm 985 (by decide +kernel) rfl
theorem w_986 : (Cond.code ({ cls := "FairBlocksModel", name := "unsee", desc := "()I" } : MethodName) prog_14_method_46_code (2 : Nat) (Option.some FieldType.int)) ∈ gw := gm 986 (by decide +kernel) rfl
theorem w_987 : (Cond.methodLink "FairBlocksLaw" (100 : Nat) ({ cls := "FairBlocksModel", name := "which", desc := "()I" } : MethodName)) ∈ gw := gm 987 (by decide +kernel) rfl
theorem w_988 : (Cond.instanceMethod ({ cls := "FairBlocksModel", name := "which", desc := "()I" } : MethodName)) ∈ gw := gm 988 (by decide +kernel) rfl
theorem w_989 : (Cond.selects "FairBlocksModel" ({ cls := "FairBlocksModel", name := "which", desc := "()I" } : MethodName) ({ cls := "FairBlocksModel", name := "which", desc := "()I" } : MethodName)) ∈ gw := gm 989 (by decide +kernel) rfl
theorem w_990 : (Cond.code ({ cls := "FairBlocksModel", name := "which", desc := "()I" } : MethodName) prog_14_method_48_code (5 : Nat) (Option.some FieldType.int)) ∈ gw := gm 990 (by decide +kernel) rfl
theorem w_991 : (Cond.methodLink "FairBlocksModel" (201 : Nat) ({ cls := "FairBlocksModel", name := "isSo", desc := "(II)Z" } : MethodName)) ∈ gw := gm 991 (by decide +kernel) rfl
theorem w_993 : (Cond.instanceMethod ({ cls := "FairBlocksModel", name := "isSo", desc := "(II)Z" } : MethodName)) ∈ gw := gm 993 (by decide +kernel) rfl
theorem w_994 : (Cond.code ({ cls := "FairBlocksModel", name := "isSo", desc := "(II)Z" } : MethodName) prog_14_method_47_code (5 : Nat) (Option.some FieldType.boolean)) ∈ gw := gm 994 (by decide +kernel) rfl
theorem w_995 : (Cond.methodLink "FairBlocksLaw" (105 : Nat) ({ cls := "FairBlocksModel", name := "share", desc := "(IZ)I" } : MethodName)) ∈ gw := gm 995 (by decide +kernel) rfl
theorem w_996 : (Cond.instanceMethod ({ cls := "FairBlocksModel", name := "share", desc := "(IZ)I" } : MethodName)) ∈ gw := gm 996 (by decide +kernel) rfl
theorem w_997 : (Cond.selects "FairBlocksModel" ({ cls := "FairBlocksModel", name := "share", desc := "(IZ)I" } : MethodName) ({ cls := "FairBlocksModel", name := "share", desc := "(IZ)I" } : MethodName)) ∈ gw := gm 997 (by decide +kernel) rfl
theorem w_998 : (Cond.code ({ cls := "FairBlocksModel", name := "share", desc := "(IZ)I" } : MethodName) prog_14_method_54_code (8 : Nat) (Option.some FieldType.int)) ∈ gw := gm 998 (by decide +kernel) rfl
theorem w_999 : (Cond.methodLink "FairBlocksModel" (210 : Nat) ({ cls := "FairBlocksModel", name := "offOnes", desc := "()I" } : MethodName)) ∈ gw := gm 999 (by decide +kernel) rfl
theorem w_1001 : (Cond.instanceMethod ({ cls := "FairBlocksModel", name := "offOnes", desc := "()I" } : MethodName)) ∈ gw := gm 1001 (by decide +kernel) rfl
theorem w_1002 : (Cond.code ({ cls := "FairBlocksModel", name := "offOnes", desc := "()I" } : MethodName) prog_14_method_52_code (3 : Nat) (Option.some FieldType.int)) ∈ gw := gm 1002 (by decide +kernel) rfl
theorem w_1003 : (Cond.methodLink "FairBlocksModel" (207 : Nat) ({ cls := "FairBlocksModel", name := "has", desc := "(II)Z" } : MethodName)) ∈ gw := gm 1003 (by decide +kernel) rfl
theorem w_1004 : (Cond.static ({ cls := "FairBlocksModel", name := "has", desc := "(II)Z" } : MethodName)) ∈ gw := gm 1004 (by decide +kernel) rfl
theorem w_1005 : (Cond.code ({ cls := "FairBlocksModel", name := "has", desc := "(II)Z" } : MethodName) prog_14_method_3_code (2 : Nat) (Option.some FieldType.boolean)) ∈ gw := gm 1005 (by decide +kernel) rfl
theorem w_1006 : (Cond.methodLink "FairBlocksModel" (213 : Nat) ({ cls := "FairBlocksModel", name := "ones", desc := "(I)I" } : MethodName)) ∈ gw := gm 1006 (by decide +kernel) rfl
theorem w_1007 : (Cond.static ({ cls := "FairBlocksModel", name := "ones", desc := "(I)I" } : MethodName)) ∈ gw := gm 1007 (by decide +kernel) rfl
theorem w_1008 : (Cond.code ({ cls := "FairBlocksModel", name := "ones", desc := "(I)I" } : MethodName) prog_14_method_4_code (3 : Nat) (Option.some FieldType.int)) ∈ gw := gm 1008 (by decide +kernel) rfl
theorem w_1009 : (Cond.methodLink "FairBlocksModel" (216 : Nat) ({ cls := "FairBlocksModel", name := "factorial", desc := "(I)I" } : MethodName)) ∈ gw := gm 1009 (by decide +kernel) rfl
theorem w_1010 : (Cond.static ({ cls := "FairBlocksModel", name := "factorial", desc := "(I)I" } : MethodName)) ∈ gw := gm 1010 (by decide +kernel) rfl
theorem w_1011 : (Cond.code ({ cls := "FairBlocksModel", name := "factorial", desc := "(I)I" } : MethodName) prog_14_method_51_code (3 : Nat) (Option.some FieldType.int)) ∈ gw := gm 1011 (by decide +kernel) rfl
theorem w_1012 : (Cond.methodLink "FairBlocksModel" (219 : Nat) ({ cls := "FairBlocksModel", name := "gotBy", desc := "(I)I" } : MethodName)) ∈ gw := gm 1012 (by decide +kernel) rfl
theorem w_1014 : (Cond.instanceMethod ({ cls := "FairBlocksModel", name := "gotBy", desc := "(I)I" } : MethodName)) ∈ gw := gm 1014 (by decide +kernel) rfl
theorem w_1015 : (Cond.code ({ cls := "FairBlocksModel", name := "gotBy", desc := "(I)I" } : MethodName) prog_14_method_53_code (3 : Nat) (Option.some FieldType.int)) ∈ gw := gm 1015 (by decide +kernel) rfl
theorem w_1016 : (Cond.methodLink "FairBlocksModel" (222 : Nat) ({ cls := "FairBlocksModel", name := "fraction", desc := "(IIZ)I" } : MethodName)) ∈ gw := gm 1016 (by decide +kernel) rfl
theorem w_1017 : (Cond.static ({ cls := "FairBlocksModel", name := "fraction", desc := "(IIZ)I" } : MethodName)) ∈ gw := gm 1017 (by decide +kernel) rfl
theorem w_1018 : (Cond.code ({ cls := "FairBlocksModel", name := "fraction", desc := "(IIZ)I" } : MethodName) prog_14_method_50_code (4 : Nat) (Option.some FieldType.int)) ∈ gw := gm 1018 (by decide +kernel) rfl
theorem w_1019 : (Cond.methodLink "FairBlocksModel" (204 : Nat) ({ cls := "FairBlocksModel", name := "divisor", desc := "(II)I" } : MethodName)) ∈ gw := gm 1019 (by decide +kernel) rfl
theorem w_1020 : (Cond.static ({ cls := "FairBlocksModel", name := "divisor", desc := "(II)I" } : MethodName)) ∈ gw := gm 1020 (by decide +kernel) rfl
theorem w_1021 : (Cond.code ({ cls := "FairBlocksModel", name := "divisor", desc := "(II)I" } : MethodName) prog_14_method_49_code (5 : Nat) (Option.some FieldType.int)) ∈ gw := gm 1021 (by decide +kernel) rfl
theorem w_1022 : (Cond.methodLink "FairBlocksLaw" (110 : Nat) ({ cls := "FairBlocksModel", name := "fails", desc := "(IIIZ)I" } : MethodName)) ∈ gw := gm 1022 (by decide +kernel) rfl
theorem w_1023 : (Cond.instanceMethod ({ cls := "FairBlocksModel", name := "fails", desc := "(IIIZ)I" } : MethodName)) ∈ gw := gm 1023 (by decide +kernel) rfl
theorem w_1024 : (Cond.selects "FairBlocksModel" ({ cls := "FairBlocksModel", name := "fails", desc := "(IIIZ)I" } : MethodName) ({ cls := "FairBlocksModel", name := "fails", desc := "(IIIZ)I" } : MethodName)) ∈ gw := gm 1024 (by decide +kernel) rfl
theorem w_1025 : (Cond.code ({ cls := "FairBlocksModel", name := "fails", desc := "(IIIZ)I" } : MethodName) prog_14_method_55_code (8 : Nat) (Option.some FieldType.int)) ∈ gw := gm 1025 (by decide +kernel) rfl
theorem w_1026 : (Cond.constantLong "FairBlocksModel" (226 : Nat) (6 : Int64)) ∈ gw := gm 1026 (by decide +kernel) rfl
theorem w_1027 : (Cond.methodLink "FairBlocksModel" (228 : Nat) ({ cls := "FairBlocksModel", name := "power", desc := "(II)I" } : MethodName)) ∈ gw := gm 1027 (by decide +kernel) rfl
theorem w_1028 : (Cond.static ({ cls := "FairBlocksModel", name := "power", desc := "(II)I" } : MethodName)) ∈ gw := gm 1028 (by decide +kernel) rfl
theorem w_1029 : (Cond.code ({ cls := "FairBlocksModel", name := "power", desc := "(II)I" } : MethodName) prog_14_method_5_code (4 : Nat) (Option.some FieldType.int)) ∈ gw := gm 1029 (by decide +kernel) rfl
theorem w_1030 : (Cond.methodLink "FairBlocksLaw" (115 : Nat) ({ cls := "FairBlocksModel", name := "seed", desc := "(J)J" } : MethodName)) ∈ gw := gm 1030 (by decide +kernel) rfl
theorem w_1031 : (Cond.instanceMethod ({ cls := "FairBlocksModel", name := "seed", desc := "(J)J" } : MethodName)) ∈ gw := gm 1031 (by decide +kernel) rfl
theorem w_1032 : (Cond.selects "FairBlocksModel" ({ cls := "FairBlocksModel", name := "seed", desc := "(J)J" } : MethodName) ({ cls := "FairBlocksModel", name := "seed", desc := "(J)J" } : MethodName)) ∈ gw := gm 1032 (by decide +kernel) rfl
theorem w_1033 : (Cond.code ({ cls := "FairBlocksModel", name := "seed", desc := "(J)J" } : MethodName) prog_14_method_56_code (5 : Nat) (Option.some FieldType.long)) ∈ gw := gm 1033 (by decide +kernel) rfl
theorem w_1034 : (Cond.methodLink "FairBlocksLaw" (119 : Nat) ({ cls := "FairBlocksModel", name := "drawn", desc := "(I)I" } : MethodName)) ∈ gw := gm 1034 (by decide +kernel) rfl
theorem w_1035 : (Cond.instanceMethod ({ cls := "FairBlocksModel", name := "drawn", desc := "(I)I" } : MethodName)) ∈ gw := gm 1035 (by decide +kernel) rfl
theorem w_1036 : (Cond.selects "FairBlocksModel" ({ cls := "FairBlocksModel", name := "drawn", desc := "(I)I" } : MethodName) ({ cls := "FairBlocksModel", name := "drawn", desc := "(I)I" } : MethodName)) ∈ gw := gm 1036 (by decide +kernel) rfl
theorem w_1037 : (Cond.code ({ cls := "FairBlocksModel", name := "drawn", desc := "(I)I" } : MethodName) prog_14_method_57_code (6 : Nat) (Option.some FieldType.int)) ∈ gw := gm 1037 (by decide +kernel) rfl
theorem w_1038 : (Cond.constantLong "FairBlocksModel" (235 : Nat) (20 : Int64)) ∈ gw := gm 1038 (by decide +kernel) rfl
theorem w_1039 : (Cond.constantLong "FairBlocksModel" (237 : Nat) (6364136223846793005 : Int64)) ∈ gw := gm 1039 (by decide +kernel) rfl
theorem w_1040 : (Cond.constantLong "FairBlocksModel" (239 : Nat) (1442695040888963407 : Int64)) ∈ gw := gm 1040 (by decide +kernel) rfl
theorem w_1041 : (Cond.methodLink "FairBlocksLaw" (123 : Nat) ({ cls := "FairBlocksModel", name := "keep", desc := "(I)I" } : MethodName)) ∈ gw := gm 1041 (by decide +kernel) rfl
theorem w_1042 : (Cond.instanceMethod ({ cls := "FairBlocksModel", name := "keep", desc := "(I)I" } : MethodName)) ∈ gw := gm 1042 (by decide +kernel) rfl
theorem w_1043 : (Cond.selects "FairBlocksModel" ({ cls := "FairBlocksModel", name := "keep", desc := "(I)I" } : MethodName) ({ cls := "FairBlocksModel", name := "keep", desc := "(I)I" } : MethodName)) ∈ gw := gm 1043 (by decide +kernel) rfl
theorem w_1044 : (Cond.code ({ cls := "FairBlocksModel", name := "keep", desc := "(I)I" } : MethodName) prog_14_method_58_code (3 : Nat) (Option.some FieldType.int)) ∈ gw := gm 1044 (by decide +kernel) rfl
theorem w_1045 : (Cond.methodLink "FairBlocksLaw" (127 : Nat) ({ cls := "FairBlocksModel", name := "again", desc := "(I)I" } : MethodName)) ∈ gw := gm 1045 (by decide +kernel) rfl
theorem w_1046 : (Cond.instanceMethod ({ cls := "FairBlocksModel", name := "again", desc := "(I)I" } : MethodName)) ∈ gw := gm 1046 (by decide +kernel) rfl
theorem w_1047 : (Cond.selects "FairBlocksModel" ({ cls := "FairBlocksModel", name := "again", desc := "(I)I" } : MethodName) ({ cls := "FairBlocksModel", name := "again", desc := "(I)I" } : MethodName)) ∈ gw := gm 1047 (by decide +kernel) rfl
theorem w_1048 : (Cond.code ({ cls := "FairBlocksModel", name := "again", desc := "(I)I" } : MethodName) prog_14_method_59_code (3 : Nat) (Option.some FieldType.int)) ∈ gw := gm 1048 (by decide +kernel) rfl
theorem w_1049 : (Cond.methodLink "FairBlocksLaw" (131 : Nat) ({ cls := "FairBlocksModel", name := "count", desc := "(I)I" } : MethodName)) ∈ gw := gm 1049 (by decide +kernel) rfl
theorem w_1050 : (Cond.instanceMethod ({ cls := "FairBlocksModel", name := "count", desc := "(I)I" } : MethodName)) ∈ gw := gm 1050 (by decide +kernel) rfl
theorem w_1051 : (Cond.selects "FairBlocksModel" ({ cls := "FairBlocksModel", name := "count", desc := "(I)I" } : MethodName) ({ cls := "FairBlocksModel", name := "count", desc := "(I)I" } : MethodName)) ∈ gw := gm 1051 (by decide +kernel) rfl
theorem w_1052 : (Cond.code ({ cls := "FairBlocksModel", name := "count", desc := "(I)I" } : MethodName) prog_14_method_61_code (2 : Nat) (Option.some FieldType.int)) ∈ gw := gm 1052 (by decide +kernel) rfl
theorem w_1053 : (Cond.methodLink "FairBlocksModel" (241 : Nat) ({ cls := "FairBlocksModel", name := "waiting", desc := "()I" } : MethodName)) ∈ gw := gm 1053 (by decide +kernel) rfl
theorem w_1055 : (Cond.instanceMethod ({ cls := "FairBlocksModel", name := "waiting", desc := "()I" } : MethodName)) ∈ gw := gm 1055 (by decide +kernel) rfl
theorem w_1056 : (Cond.code ({ cls := "FairBlocksModel", name := "waiting", desc := "()I" } : MethodName) prog_14_method_60_code (3 : Nat) (Option.some FieldType.int)) ∈ gw := gm 1056 (by decide +kernel) rfl
theorem w_1057 : (Cond.constantLong "FairBlocksLaw" (81 : Nat) (4294967295 : Int64)) ∈ gw := gm 1057 (by decide +kernel) rfl
theorem wt_87 : (Cond.arrayOver (FieldType.object "FairBlocks$User")) ∈ lw_tbl := List.mem_append_right _ (List.mem_of_getElem? (i := 87) (by decide +kernel))
theorem wt_221 : (Cond.arrayOver (FieldType.object "FairBlocks$Standing")) ∈ lw_tbl := List.mem_append_right _ (List.mem_of_getElem? (i := 221) (by decide +kernel))
theorem wt_652 : (Cond.laysStatic "FairBlocks" "FACTORIALS" "[I") ∈ lw_tbl := List.mem_append_right _ (List.mem_of_getElem? (i := 652) (by decide +kernel))
theorem wp_0 : Cond.selects (⟨"FairBlocks$Text", "figure", "(I)I"⟩ : MethodName).cls ⟨"FairBlocks$Text", "figure", "(I)I"⟩ ⟨"FairBlocks$Text", "figure", "(I)I"⟩ ∈ gw := gmp 0 (by decide +kernel) rfl
theorem wp_1 : Cond.selects (⟨"FairBlocks$Scheduler", "comeIn", "(LFairBlocks$Standing;)V"⟩ : MethodName).cls ⟨"FairBlocks$Scheduler", "comeIn", "(LFairBlocks$Standing;)V"⟩ ⟨"FairBlocks$Scheduler", "comeIn", "(LFairBlocks$Standing;)V"⟩ ∈ gw := gmp 1 (by decide +kernel) rfl
theorem wp_2 : Cond.selects (⟨"FairBlocks$Scheduler", "dueFor", "(LFairBlocks$Standing;I)I"⟩ : MethodName).cls ⟨"FairBlocks$Scheduler", "dueFor", "(LFairBlocks$Standing;I)I"⟩ ⟨"FairBlocks$Scheduler", "dueFor", "(LFairBlocks$Standing;I)I"⟩ ∈ gw := gmp 2 (by decide +kernel) rfl
theorem wp_3 : Cond.selects (⟨"FairBlocks$Scheduler", "mayHave", "(LFairBlocks$User;II)Z"⟩ : MethodName).cls ⟨"FairBlocks$Scheduler", "mayHave", "(LFairBlocks$User;II)Z"⟩ ⟨"FairBlocks$Scheduler", "mayHave", "(LFairBlocks$User;II)Z"⟩ ∈ gw := gmp 3 (by decide +kernel) rfl
theorem wp_4 : Cond.selects (⟨"FairBlocks$Scheduler", "isBefore", "(LFairBlocks$Standing;II)Z"⟩ : MethodName).cls ⟨"FairBlocks$Scheduler", "isBefore", "(LFairBlocks$Standing;II)Z"⟩ ⟨"FairBlocks$Scheduler", "isBefore", "(LFairBlocks$Standing;II)Z"⟩ ∈ gw := gmp 4 (by decide +kernel) rfl
theorem wp_5 : Cond.selects (⟨"FairBlocks$Scheduler", "endSlot", "(LFairBlocks$Standing;)I"⟩ : MethodName).cls ⟨"FairBlocks$Scheduler", "endSlot", "(LFairBlocks$Standing;)I"⟩ ⟨"FairBlocks$Scheduler", "endSlot", "(LFairBlocks$Standing;)I"⟩ ∈ gw := gmp 5 (by decide +kernel) rfl
theorem wp_6 : Cond.selects (⟨"FairBlocks$Outlook", "leastGain", "(LFairBlocks$Standing;)I"⟩ : MethodName).cls ⟨"FairBlocks$Outlook", "leastGain", "(LFairBlocks$Standing;)I"⟩ ⟨"FairBlocks$Outlook", "leastGain", "(LFairBlocks$Standing;)I"⟩ ∈ gw := gmp 6 (by decide +kernel) rfl
theorem wp_7 : Cond.selects (⟨"FairBlocks$Court", "holds", "(LFairBlocks$Standing;III)Z"⟩ : MethodName).cls ⟨"FairBlocks$Court", "holds", "(LFairBlocks$Standing;III)Z"⟩ ⟨"FairBlocks$Court", "holds", "(LFairBlocks$Standing;III)Z"⟩ ∈ gw := gmp 7 (by decide +kernel) rfl
theorem wp_8 : Cond.selects (⟨"FairBlocks$Court", "holderBehind", "(LFairBlocks$Standing;I)I"⟩ : MethodName).cls ⟨"FairBlocks$Court", "holderBehind", "(LFairBlocks$Standing;I)I"⟩ ⟨"FairBlocks$Court", "holderBehind", "(LFairBlocks$Standing;I)I"⟩ ∈ gw := gmp 8 (by decide +kernel) rfl
theorem wp_9 : Cond.selects (⟨"FairBlocks$Sightings", "fits", "(I)Z"⟩ : MethodName).cls ⟨"FairBlocks$Sightings", "fits", "(I)Z"⟩ ⟨"FairBlocks$Sightings", "fits", "(I)Z"⟩ ∈ gw := gmp 9 (by decide +kernel) rfl
theorem wp_10 : Cond.selects (⟨"FairBlocks$Sightings", "lastSlot", "()I"⟩ : MethodName).cls ⟨"FairBlocks$Sightings", "lastSlot", "()I"⟩ ⟨"FairBlocks$Sightings", "lastSlot", "()I"⟩ ∈ gw := gmp 10 (by decide +kernel) rfl
theorem wp_11 : Cond.selects (⟨"FairBlocks$Sightings", "fitsBehind", "(LFairBlocks$Standing;I)Z"⟩ : MethodName).cls ⟨"FairBlocks$Sightings", "fitsBehind", "(LFairBlocks$Standing;I)Z"⟩ ⟨"FairBlocks$Sightings", "fitsBehind", "(LFairBlocks$Standing;I)Z"⟩ ∈ gw := gmp 11 (by decide +kernel) rfl
theorem wp_12 : Cond.selects (⟨"FairBlocks$Chances", "gotWith", "(I)I"⟩ : MethodName).cls ⟨"FairBlocks$Chances", "gotWith", "(I)I"⟩ ⟨"FairBlocks$Chances", "gotWith", "(I)I"⟩ ∈ gw := gmp 12 (by decide +kernel) rfl
theorem wp_13 : Cond.selects (⟨"FairBlocks$Chances", "isEmptyBehind", "(III)Z"⟩ : MethodName).cls ⟨"FairBlocks$Chances", "isEmptyBehind", "(III)Z"⟩ ⟨"FairBlocks$Chances", "isEmptyBehind", "(III)Z"⟩ ∈ gw := gmp 13 (by decide +kernel) rfl
theorem wp_14 : Cond.selects (⟨"FairBlocksModel", "readCell", "()I"⟩ : MethodName).cls ⟨"FairBlocksModel", "readCell", "()I"⟩ ⟨"FairBlocksModel", "readCell", "()I"⟩ ∈ gw := gmp 14 (by decide +kernel) rfl
theorem wp_15 : Cond.selects (⟨"FairBlocksModel", "readHead", "()Z"⟩ : MethodName).cls ⟨"FairBlocksModel", "readHead", "()Z"⟩ ⟨"FairBlocksModel", "readHead", "()Z"⟩ ∈ gw := gmp 15 (by decide +kernel) rfl
theorem wp_16 : Cond.selects (⟨"FairBlocksModel", "figure", "(II)I"⟩ : MethodName).cls ⟨"FairBlocksModel", "figure", "(II)I"⟩ ⟨"FairBlocksModel", "figure", "(II)I"⟩ ∈ gw := gmp 16 (by decide +kernel) rfl
theorem wp_17 : Cond.selects (⟨"FairBlocksModel", "readUser", "()Z"⟩ : MethodName).cls ⟨"FairBlocksModel", "readUser", "()Z"⟩ ⟨"FairBlocksModel", "readUser", "()Z"⟩ ∈ gw := gmp 17 (by decide +kernel) rfl
theorem wp_18 : Cond.selects (⟨"FairBlocksModel", "noUser", "(I)Z"⟩ : MethodName).cls ⟨"FairBlocksModel", "noUser", "(I)Z"⟩ ⟨"FairBlocksModel", "noUser", "(I)Z"⟩ ∈ gw := gmp 18 (by decide +kernel) rfl
theorem wp_19 : Cond.selects (⟨"FairBlocksModel", "rateOf", "([II)I"⟩ : MethodName).cls ⟨"FairBlocksModel", "rateOf", "([II)I"⟩ ⟨"FairBlocksModel", "rateOf", "([II)I"⟩ ∈ gw := gmp 19 (by decide +kernel) rfl
theorem wp_20 : Cond.selects (⟨"FairBlocksModel", "note", "()V"⟩ : MethodName).cls ⟨"FairBlocksModel", "note", "()V"⟩ ⟨"FairBlocksModel", "note", "()V"⟩ ∈ gw := gmp 20 (by decide +kernel) rfl
theorem wp_21 : Cond.selects (⟨"FairBlocksModel", "slotsOn", "([II)I"⟩ : MethodName).cls ⟨"FairBlocksModel", "slotsOn", "([II)I"⟩ ⟨"FairBlocksModel", "slotsOn", "([II)I"⟩ ∈ gw := gmp 21 (by decide +kernel) rfl
theorem wp_22 : Cond.selects (⟨"FairBlocksModel", "slotOn", "([IZ)I"⟩ : MethodName).cls ⟨"FairBlocksModel", "slotOn", "([IZ)I"⟩ ⟨"FairBlocksModel", "slotOn", "([IZ)I"⟩ ∈ gw := gmp 22 (by decide +kernel) rfl
theorem wp_23 : Cond.selects (⟨"FairBlocksModel", "whoHas", "([II)I"⟩ : MethodName).cls ⟨"FairBlocksModel", "whoHas", "([II)I"⟩ ⟨"FairBlocksModel", "whoHas", "([II)I"⟩ ∈ gw := gmp 23 (by decide +kernel) rfl
theorem wp_24 : Cond.selects (⟨"FairBlocksModel", "may", "([III)Z"⟩ : MethodName).cls ⟨"FairBlocksModel", "may", "([III)Z"⟩ ⟨"FairBlocksModel", "may", "([III)Z"⟩ ∈ gw := gmp 24 (by decide +kernel) rfl
theorem wp_25 : Cond.selects (⟨"FairBlocksModel", "hadSome", "(II)Z"⟩ : MethodName).cls ⟨"FairBlocksModel", "hadSome", "(II)Z"⟩ ⟨"FairBlocksModel", "hadSome", "(II)Z"⟩ ∈ gw := gmp 25 (by decide +kernel) rfl
theorem wp_26 : Cond.selects (⟨"FairBlocksModel", "urgent", "([II)I"⟩ : MethodName).cls ⟨"FairBlocksModel", "urgent", "([II)I"⟩ ⟨"FairBlocksModel", "urgent", "([II)I"⟩ ∈ gw := gmp 26 (by decide +kernel) rfl
theorem wp_27 : Cond.selects (⟨"FairBlocksModel", "isDue", "([III)Z"⟩ : MethodName).cls ⟨"FairBlocksModel", "isDue", "([III)Z"⟩ ⟨"FairBlocksModel", "isDue", "([III)Z"⟩ ∈ gw := gmp 27 (by decide +kernel) rfl
theorem wp_28 : Cond.selects (⟨"FairBlocksModel", "sends", "([II)V"⟩ : MethodName).cls ⟨"FairBlocksModel", "sends", "([II)V"⟩ ⟨"FairBlocksModel", "sends", "([II)V"⟩ ∈ gw := gmp 28 (by decide +kernel) rfl
theorem wp_29 : Cond.selects (⟨"FairBlocksModel", "layTrial", "()V"⟩ : MethodName).cls ⟨"FairBlocksModel", "layTrial", "()V"⟩ ⟨"FairBlocksModel", "layTrial", "()V"⟩ ∈ gw := gmp 29 (by decide +kernel) rfl
theorem wp_30 : Cond.selects (⟨"FairBlocksModel", "whoNext", "([II)I"⟩ : MethodName).cls ⟨"FairBlocksModel", "whoNext", "([II)I"⟩ ⟨"FairBlocksModel", "whoNext", "([II)I"⟩ ∈ gw := gmp 30 (by decide +kernel) rfl
theorem wp_31 : Cond.selects (⟨"FairBlocksModel", "does", "(III)Z"⟩ : MethodName).cls ⟨"FairBlocksModel", "does", "(III)Z"⟩ ⟨"FairBlocksModel", "does", "(III)Z"⟩ ∈ gw := gmp 31 (by decide +kernel) rfl
theorem wp_32 : Cond.selects (⟨"FairBlocksModel", "whoTried", "(I)I"⟩ : MethodName).cls ⟨"FairBlocksModel", "whoTried", "(I)I"⟩ ⟨"FairBlocksModel", "whoTried", "(I)I"⟩ ∈ gw := gmp 32 (by decide +kernel) rfl
theorem wp_33 : Cond.selects (⟨"FairBlocksModel", "isSo", "(II)Z"⟩ : MethodName).cls ⟨"FairBlocksModel", "isSo", "(II)Z"⟩ ⟨"FairBlocksModel", "isSo", "(II)Z"⟩ ∈ gw := gmp 33 (by decide +kernel) rfl
theorem wp_34 : Cond.selects (⟨"FairBlocksModel", "offOnes", "()I"⟩ : MethodName).cls ⟨"FairBlocksModel", "offOnes", "()I"⟩ ⟨"FairBlocksModel", "offOnes", "()I"⟩ ∈ gw := gmp 34 (by decide +kernel) rfl
theorem wp_35 : Cond.selects (⟨"FairBlocksModel", "gotBy", "(I)I"⟩ : MethodName).cls ⟨"FairBlocksModel", "gotBy", "(I)I"⟩ ⟨"FairBlocksModel", "gotBy", "(I)I"⟩ ∈ gw := gmp 35 (by decide +kernel) rfl
theorem wp_36 : Cond.selects (⟨"FairBlocksModel", "waiting", "()I"⟩ : MethodName).cls ⟨"FairBlocksModel", "waiting", "()I"⟩ ⟨"FairBlocksModel", "waiting", "()I"⟩ ∈ gw := gmp 36 (by decide +kernel) rfl
theorem inX0 : ∀ w ∈ u_ws RX0 TX0 3, w ∈ gw := by
  intro w hw
  have h : u_ws RX0 TX0 3 = ([227, 229, 231] : List Nat).filterMap (fun i => tables_1[i]?) := by decide +kernel
  have hg : (u_ws RX0 TX0 3).all goodWord = true := by decide +kernel
  have g := List.all_eq_true.mp hg w hw
  rw [h] at hw
  obtain ⟨i, -, hi⟩ := List.mem_filterMap.mp hw
  exact gm i hi g
theorem inX1 : ∀ w ∈ u_ws RX1 TX1 4, w ∈ gw := by
  intro w hw
  have h : u_ws RX1 TX1 4 = ([205, 207, 209, 211] : List Nat).filterMap (fun i => tables_1[i]?) := by decide +kernel
  have hg : (u_ws RX1 TX1 4).all goodWord = true := by decide +kernel
  have g := List.all_eq_true.mp hg w hw
  rw [h] at hw
  obtain ⟨i, -, hi⟩ := List.mem_filterMap.mp hw
  exact gm i hi g
theorem inX2 : ∀ w ∈ u_ws RX2 TX2 1, w ∈ gw := by
  intro w hw
  have h : u_ws RX2 TX2 1 = ([298] : List Nat).filterMap (fun i => tables_1[i]?) := by decide +kernel
  have hg : (u_ws RX2 TX2 1).all goodWord = true := by decide +kernel
  have g := List.all_eq_true.mp hg w hw
  rw [h] at hw
  obtain ⟨i, -, hi⟩ := List.mem_filterMap.mp hw
  exact gm i hi g
theorem inX3 : ∀ w ∈ u_ws RX3 TX3 2, w ∈ gw := by
  intro w hw
  have h : u_ws RX3 TX3 2 = ([257, 259] : List Nat).filterMap (fun i => tables_1[i]?) := by decide +kernel
  have hg : (u_ws RX3 TX3 2).all goodWord = true := by decide +kernel
  have g := List.all_eq_true.mp hg w hw
  rw [h] at hw
  obtain ⟨i, -, hi⟩ := List.mem_filterMap.mp hw
  exact gm i hi g
theorem inX4 : ∀ w ∈ u_ws RX4 TX4 1, w ∈ gw := by
  intro w hw
  have h : u_ws RX4 TX4 1 = ([243] : List Nat).filterMap (fun i => tables_1[i]?) := by decide +kernel
  have hg : (u_ws RX4 TX4 1).all goodWord = true := by decide +kernel
  have g := List.all_eq_true.mp hg w hw
  rw [h] at hw
  obtain ⟨i, -, hi⟩ := List.mem_filterMap.mp hw
  exact gm i hi g
theorem inX5 : ∀ w ∈ u_ws RX5 TX5 5, w ∈ gw := by
  intro w hw
  have h : u_ws RX5 TX5 5 = ([69, 71, 73, 75, 77] : List Nat).filterMap (fun i => tables_1[i]?) := by decide +kernel
  have hg : (u_ws RX5 TX5 5).all goodWord = true := by decide +kernel
  have g := List.all_eq_true.mp hg w hw
  rw [h] at hw
  obtain ⟨i, -, hi⟩ := List.mem_filterMap.mp hw
  exact gm i hi g
theorem inX6 : ∀ w ∈ u_ws RX6 TX6 5, w ∈ gw := by
  intro w hw
  have h : u_ws RX6 TX6 5 = ([176, 178, 180, 182, 184] : List Nat).filterMap (fun i => tables_1[i]?) := by decide +kernel
  have hg : (u_ws RX6 TX6 5).all goodWord = true := by decide +kernel
  have g := List.all_eq_true.mp hg w hw
  rw [h] at hw
  obtain ⟨i, -, hi⟩ := List.mem_filterMap.mp hw
  exact gm i hi g
theorem inX7 : ∀ w ∈ u_ws RX7 TX7 7, w ∈ gw := by
  intro w hw
  have h : u_ws RX7 TX7 7 = ([276, 278, 280, 282, 284, 286, 288] : List Nat).filterMap (fun i => tables_1[i]?) := by decide +kernel
  have hg : (u_ws RX7 TX7 7).all goodWord = true := by decide +kernel
  have g := List.all_eq_true.mp hg w hw
  rw [h] at hw
  obtain ⟨i, -, hi⟩ := List.mem_filterMap.mp hw
  exact gm i hi g
theorem inX8 : ∀ w ∈ u_ws RX8 TX8 3, w ∈ gw := by
  intro w hw
  have h : u_ws RX8 TX8 3 = ([158, 160, 162] : List Nat).filterMap (fun i => tables_1[i]?) := by decide +kernel
  have hg : (u_ws RX8 TX8 3).all goodWord = true := by decide +kernel
  have g := List.all_eq_true.mp hg w hw
  rw [h] at hw
  obtain ⟨i, -, hi⟩ := List.mem_filterMap.mp hw
  exact gm i hi g
theorem inX9 : ∀ w ∈ u_ws RX9 TX9 2, w ∈ gw := by
  intro w hw
  have h : u_ws RX9 TX9 2 = ([33, 35] : List Nat).filterMap (fun i => tables_1[i]?) := by decide +kernel
  have hg : (u_ws RX9 TX9 2).all goodWord = true := by decide +kernel
  have g := List.all_eq_true.mp hg w hw
  rw [h] at hw
  obtain ⟨i, -, hi⟩ := List.mem_filterMap.mp hw
  exact gm i hi g
theorem inX10 : ∀ w ∈ u_ws RX10 TX10 10, w ∈ gw := by
  intro w hw
  have h : u_ws RX10 TX10 10 = ([121, 123, 125, 127, 129, 131, 133, 135, 137, 139] : List Nat).filterMap (fun i => tables_1[i]?) := by decide +kernel
  have hg : (u_ws RX10 TX10 10).all goodWord = true := by decide +kernel
  have g := List.all_eq_true.mp hg w hw
  rw [h] at hw
  obtain ⟨i, -, hi⟩ := List.mem_filterMap.mp hw
  exact gm i hi g
theorem inX11 : ∀ w ∈ u_ws RX11 TX11 12, w ∈ gw := by
  intro w hw
  have h : u_ws RX11 TX11 12 = ([313, 315, 317, 319, 321, 323, 325, 327, 329, 331, 333, 335] : List Nat).filterMap (fun i => tables_1[i]?) := by decide +kernel
  have hg : (u_ws RX11 TX11 12).all goodWord = true := by decide +kernel
  have g := List.all_eq_true.mp hg w hw
  rw [h] at hw
  obtain ⟨i, -, hi⟩ := List.mem_filterMap.mp hw
  exact gm i hi g
theorem inX12 : ∀ w ∈ u_ws RX12 TX12 32, w ∈ gw := by
  intro w hw
  have h : u_ws RX12 TX12 32 = ([753, 755, 757, 759, 761, 763, 765, 767, 769, 771, 773, 775, 777, 779, 781, 783, 785, 787, 789, 791, 793, 795, 797, 799, 801, 803, 805, 807, 809, 811, 813, 815] : List Nat).filterMap (fun i => tables_1[i]?) := by decide +kernel
  have hg : (u_ws RX12 TX12 32).all goodWord = true := by decide +kernel
  have g := List.all_eq_true.mp hg w hw
  rw [h] at hw
  obtain ⟨i, -, hi⟩ := List.mem_filterMap.mp hw
  exact gm i hi g
end
section
/-! small values, one memory of ints (a key, a place) and longs (a key); the graph of objects is fixed behind the constructors -/
abbrev mV : Type := Int32 ⊕ (Int64 ⊕ (Nat × Nat))
abbrev mM : Type := (Nat → Nat → Int32) × (Nat → Int64)
abbrev LV : Type := List (Option mV)
abbrev KT : Type := LV → List mV → mM → Prop
def en (ad : Nat → Nat) : mV → Value
  | .inl x => .int x
  | .inr (.inl x) => .long x
  | .inr (.inr q) => .ref (ad q.2)
def kL : List Nat := [11, 9, 13, 1, 5, 13, 13, 8, 16, 10, 10, 10, 10, 10, 8, 16, 10, 10, 10, 10, 10, 6, 13, 13, 13, 13, 0, 15, 8, 16, 10, 10, 10, 10, 10, 8, 16, 10, 10, 10, 10, 10, 8, 16, 10, 10, 10, 10, 10, 8, 16, 10, 10, 10, 10, 10, 8, 16, 10, 10, 10, 10, 10, 8, 16, 10, 10, 10, 10, 10, 8, 16, 10, 10, 10, 10, 10, 8, 16, 10, 10, 10, 10, 10, 8, 16, 10, 10, 10, 10, 10, 8, 16, 10, 10, 10, 10, 10, 8, 16, 10, 10, 10, 10, 10, 8, 16, 10, 10, 10, 10, 10, 8, 16, 10, 10, 10, 10, 10, 8, 16, 10, 10, 10, 10, 10, 15, 8, 16, 10, 10, 10, 10, 10, 8, 16, 10, 10, 10, 10, 10, 14, 4, 3, 8, 16, 10, 10, 10, 10, 10, 7, 13, 13, 13, 13, 13, 2, 12, 13, 13, 13, 13, 13, 13, 13, 13, 13, 13, 13, 14, 13, 13, 13, 13, 13, 13, 13, 17, 18]
def lL : List Nat := [0, 0, 80, 0, 0, 30, 5, 0, 5, 0, 0, 0, 0, 0, 0, 5, 0, 0, 0, 0, 0, 0, 5, 5, 5, 4, 0, 14, 0, 5, 0, 0, 0, 0, 0, 0, 5, 0, 0, 0, 0, 0, 0, 5, 0, 0, 0, 0, 0, 0, 5, 0, 0, 0, 0, 0, 0, 5, 0, 0, 0, 0, 0, 0, 5, 0, 0, 0, 0, 0, 0, 5, 0, 0, 0, 0, 0, 0, 5, 0, 0, 0, 0, 0, 0, 5, 0, 0, 0, 0, 0, 0, 5, 0, 0, 0, 0, 0, 0, 5, 0, 0, 0, 0, 0, 0, 5, 0, 0, 0, 0, 0, 0, 5, 0, 0, 0, 0, 0, 0, 5, 0, 0, 0, 0, 0, 2, 0, 5, 0, 0, 0, 0, 0, 0, 5, 0, 0, 0, 0, 0, 2, 0, 0, 0, 5, 0, 0, 0, 0, 0, 0, 6, 6, 6, 6, 6, 0, 0, 80, 30, 5, 30, 5, 52, 52, 52, 52, 728, 104, 2, 6, 6, 6, 6, 6, 4, 5, 6, 0]
def kof (k : Nat) : Nat := kL.getD k 99
def ln (k : Nat) : Nat := lL.getD k 0
def fTL : List (List Nat) := [[18, 0, 0], [8, 11, 11, 9], [4], [4, 11], [4], [0, 0, 0, 16, 16], [8, 16, 16, 16, 16], [4, 16, 16, 16, 16, 16, 0], [19, 0, 0], [16, 0], [0, 0, 0, 1, 0, 0, 0, 0, 0, 0], [12, 4, 8, 11, 3, 18, 17, 7, 6, 10, 5, 2], [0, 16, 0, 0, 0, 0, 0, 16, 16, 0, 0, 0, 0, 16, 16, 16, 16, 16, 16, 16, 0, 16, 17, 0, 16, 16, 16, 16, 16, 2, 16, 16]]
def tgL : List (List Nat) := [[27], [4, 7, 14, 21], [3], [3, 144], [3], [0, 0, 0, 5, 6], [4, 22, 23, 24, 25], [3, 152, 153, 154, 155, 156], [0], [2], [], [1, 3, 4, 7, 26, 126, 141, 142, 143, 151, 157], [0, 159, 0, 0, 0, 0, 0, 160, 161, 0, 0, 0, 0, 162, 163, 164, 165, 166, 167, 168, 0, 169, 170, 0, 171, 172, 173, 174, 175, 0, 176, 177]]
def tg (kd j k : Nat) : Nat := if kd = 8 then k + 1 else (tgL.getD kd []).getD j 0
def okV : mV → Prop
  | .inr (.inr q) => kof q.2 = q.1
  | _ => True
def okO : Option mV → Prop
  | some v => okV v
  | none => True
theorem kof_lt {k : Nat} (h : kof k < 17) : k < 178 := by
  rcases Nat.lt_or_ge k 178 with g | g
  · exact g
  · rcases Nat.lt_or_ge k 180 with g2 | g2
    · have : k = 178 ∨ k = 179 := by omega
      rcases this with rfl | rfl <;> exact absurd h (by decide +kernel)
    · have e : kof k = 99 := by
        unfold kof
        rw [List.getD_eq_getElem?_getD, List.getElem?_eq_none (by rw [show kL.length = 180 by decide +kernel]; exact g2)]; rfl
      omega
def fV (ad : Nat → Nat) (r : Nat → Int32) (x : Int64) (k kd j ty : Nat) : Value := if ty ≤ 1 then .int (r j) else if ty = 2 then .long x else .ref (ad (tg kd j k))
def shR (ca : Nat → ClassId) (ad : Nat → Nat) (r : Nat → Int32) (x : Int64) (k : Nat) : va_E :=
  if kof k = 13 then .inl (ca 0, ln k, .inl r) else if kof k = 14 then .inl (ca 1, ln k, .inl r)
  else if kof k = 15 then .inl (ca 2, ln k, .inr (.inr (.inr (.inr (fun i => if i < ln k then some (ad (k + 1 + 7 * i)) else none)))))
  else if kof k = 16 then .inl (ca 3, ln k, .inr (.inr (.inr (.inr (fun i => if i < ln k then some (ad (k + 1 + i)) else none)))))
  else .inr (kof k, (fTL.getD (kof k) []).mapIdx (fun j ty => fV ad r x k (kof k) j ty))
def wo (ca : Nat → ClassId) (ad : Nat → Nat) (M : mM) : va_W := (List.range 178).map fun k => (ad k, shR ca ad (M.1 k) (M.2 k) k)
theorem wo_get {ca : Nat → ClassId} {ad : Nat → Nat} {M : mM} {k : Nat} (h : k < 178) : (wo ca ad M)[k]? = some (ad k, shR ca ad (M.1 k) (M.2 k) k) := by
  simp [wo, h]
theorem wo_set {ca : Nat → ClassId} {ad : Nat → Nat} {M M' : mM} {k : Nat} {e : va_E} (h : k < 178) (he : shR ca ad (M'.1 k) (M'.2 k) k = e) (h1 : ∀ j, j ≠ k → M'.1 j = M.1 j) (h2 : ∀ j, j ≠ k → M'.2 j = M.2 j) : (wo ca ad M).set k (ad k, e) = wo ca ad M' := by
  apply List.ext_getElem?
  intro j
  by_cases hj : j = k
  · subst hj
    rw [List.getElem?_set_self (by simp [wo, h]), wo_get h, he]
  · rw [List.getElem?_set_ne (Ne.symm hj)]
    rcases Nat.lt_or_ge j 178 with g | g
    · rw [wo_get g, wo_get g, h1 j hj, h2 j hj]
    · rw [List.getElem?_eq_none (by simp [wo, g]), List.getElem?_eq_none (by simp [wo, g])]
def mset (M : mM) (k j : Nat) (v : Int32) : mM := (fun a => if a = k then upd (M.1 k) j v else M.1 a, M.2)
def lset (M : mM) (k : Nat) (v : Int64) : mM := (M.1, fun a => if a = k then v else M.2 a)
theorem mset_1 {M : mM} {k j : Nat} {v : Int32} : (mset M k j v).1 k = upd (M.1 k) j v := by simp [mset]
theorem mset_n {M : mM} {k j a : Nat} {v : Int32} (h : a ≠ k) : (mset M k j v).1 a = M.1 a := by simp [mset, h]
theorem mset_2 {M : mM} {k j a : Nat} {v : Int32} : (mset M k j v).2 a = M.2 a := rfl
theorem mset_get {M : mM} {k j a b : Nat} {v : Int32} : (mset M k j v).1 a b = if a = k ∧ b = j then v else M.1 a b := by
  by_cases h : a = k
  · subst h; by_cases h2 : b = j <;> simp [mset, upd, h2]
  · simp [mset, h]
theorem lset_1 {M : mM} {k a : Nat} {v : Int64} : (lset M k v).1 a = M.1 a := rfl
theorem lset_2 {M : mM} {k a : Nat} {v : Int64} : (lset M k v).2 a = if a = k then v else M.2 a := rfl
theorem sh_obj {ca : Nat → ClassId} {ad : Nat → Nat} {r : Nat → Int32} {x : Int64} {k kd : Nat} (h : kof k = kd) (h13 : kd < 13) : shR ca ad r x k = .inr (kd, (fTL.getD kd []).mapIdx (fun j ty => fV ad r x k kd j ty)) := by
  subst h
  unfold shR
  rw [if_neg (by omega), if_neg (by omega), if_neg (by omega), if_neg (by omega)]
theorem sh_13 {ca : Nat → ClassId} {ad : Nat → Nat} {r : Nat → Int32} {x : Int64} {k : Nat} (h : kof k = 13) : shR ca ad r x k = .inl (ca 0, ln k, .inl r) := by unfold shR; rw [if_pos h]
theorem sh_14 {ca : Nat → ClassId} {ad : Nat → Nat} {r : Nat → Int32} {x : Int64} {k : Nat} (h : kof k = 14) : shR ca ad r x k = .inl (ca 1, ln k, .inl r) := by unfold shR; rw [if_neg (by omega), if_pos h]
theorem sh_15 {ca : Nat → ClassId} {ad : Nat → Nat} {r : Nat → Int32} {x : Int64} {k : Nat} (h : kof k = 15) : shR ca ad r x k = .inl (ca 2, ln k, .inr (.inr (.inr (.inr (fun i => if i < ln k then some (ad (k + 1 + 7 * i)) else none))))) := by unfold shR; rw [if_neg (by omega), if_neg (by omega), if_pos h]
theorem sh_16 {ca : Nat → ClassId} {ad : Nat → Nat} {r : Nat → Int32} {x : Int64} {k : Nat} (h : kof k = 16) : shR ca ad r x k = .inl (ca 3, ln k, .inr (.inr (.inr (.inr (fun i => if i < ln k then some (ad (k + 1 + i)) else none))))) := by unfold shR; rw [if_neg (by omega), if_neg (by omega), if_neg (by omega), if_pos h]
theorem fs_at {ad : Nat → Nat} {r : Nat → Int32} {x : Int64} {k kd j ty : Nat} {L : List Nat} (h : L[j]? = some ty) : (L.mapIdx (fun j ty => fV ad r x k kd j ty))[j]? = some (fV ad r x k kd j ty) := by
  rw [List.getElem?_mapIdx, h]; rfl
theorem fs_set {ad : Nat → Nat} {r : Nat → Int32} {x : Int64} {k kd j ty : Nat} {v : Int32} {L : List Nat} (h : L[j]? = some ty) (ht : ty ≤ 1) : (L.mapIdx (fun j ty => fV ad r x k kd j ty)).set j (.int v) = L.mapIdx (fun i ty => fV ad (upd r j v) x k kd i ty) := by
  apply List.ext_getElem?
  intro i
  by_cases hi : i = j
  · subst hi
    have hl := (List.getElem?_eq_some_iff.mp h).1
    rw [List.getElem?_set_self (by simpa using hl), List.getElem?_mapIdx, h]
    simp [fV, ht, upd]
  · rw [List.getElem?_set_ne (Ne.symm hi), List.getElem?_mapIdx, List.getElem?_mapIdx]
    cases L[i]? with
    | none => rfl
    | some t => simp [fV, upd, hi]
theorem fs_setL {ad : Nat → Nat} {r : Nat → Int32} {x v : Int64} {k kd j : Nat} {L : List Nat} (h : L[j]? = some 2) (h1 : ∀ i, i ≠ j → L[i]? ≠ some 2) : (L.mapIdx (fun j ty => fV ad r x k kd j ty)).set j (.long v) = L.mapIdx (fun j ty => fV ad r v k kd j ty) := by
  apply List.ext_getElem?
  intro i
  by_cases hi : i = j
  · subst hi
    have hl := (List.getElem?_eq_some_iff.mp h).1
    rw [List.getElem?_set_self (by simpa using hl), List.getElem?_mapIdx, h]
    simp [fV]
  · rw [List.getElem?_set_ne (Ne.symm hi), List.getElem?_mapIdx, List.getElem?_mapIdx]
    have := h1 i hi
    cases hL : L[i]? with
    | none => rfl
    | some t =>
      have ht : t ≠ 2 := fun e => this (by rw [hL, e])
      simp [fV, ht]
/-! locals -/
def toL (ad : Nat → Nat) : Nat → LV → List (Nat × Value)
  | _, [] => []
  | i, none :: r => toL ad (i + 1) r
  | i, some v :: r => (i, en ad v) :: toL ad (i + 1) r
theorem mem_toL {ad : Nat → Nat} {q : Nat × Value} : ∀ (lv : LV) (i : Nat), q ∈ toL ad i lv ↔ ∃ n v, lv[n]? = some (some v) ∧ q = (i + n, en ad v)
  | [], i => by simp [toL]
  | none :: r, i => by
    rw [toL, mem_toL r (i + 1)]
    constructor
    · rintro ⟨n, v, h1, h2⟩
      exact ⟨n + 1, v, by simpa using h1, by rw [h2]; congr 1; omega⟩
    · rintro ⟨n, v, h1, h2⟩
      cases n with
      | zero => simp at h1
      | succ n => exact ⟨n, v, by simpa using h1, by rw [h2]; congr 1; omega⟩
  | some w :: r, i => by
    rw [toL, List.mem_cons, mem_toL r (i + 1)]
    constructor
    · rintro (h | ⟨n, v, h1, h2⟩)
      · exact ⟨0, w, rfl, h⟩
      · exact ⟨n + 1, v, by simpa using h1, by rw [h2]; congr 1; omega⟩
    · rintro ⟨n, v, h1, h2⟩
      cases n with
      | zero => simp at h1; subst h1; exact Or.inl h2
      | succ n => exact Or.inr ⟨n, v, by simpa using h1, by rw [h2]; congr 1; omega⟩
theorem getD_some {lv : LV} {i : Nat} {v : mV} (h : lv.getD i none = some v) : lv[i]? = some (some v) := by
  rw [List.getD_eq_getElem?_getD] at h
  cases hl : lv[i]? with
  | none => rw [hl] at h; cases h
  | some w => rw [hl] at h; exact congrArg some h
theorem ls_of {ad : Nat → Nat} {ls : Array Slot} {nL : Nat} {lv : LV} {i : Nat} {v : mV} (h : lv_has ls nL (toL ad 0 lv)) (hv : lv.getD i none = some v) : ls[i]? = some (.val (en ad v)) :=
  h.2.2 (i, en ad v) ((mem_toL lv 0).mpr ⟨i, v, getD_some hv, by rw [Nat.zero_add]⟩)
theorem ok_of {lv : LV} {i : Nat} {v : mV} (h : ∀ v ∈ lv, okO v) (hv : lv.getD i none = some v) : okV v := h (some v) (List.mem_of_getElem? (getD_some hv))
/-- no long begins just ahead of place i -/
def nl1 (lv : LV) : Nat → Prop
  | 0 => True
  | i + 1 => match lv.getD i none with
    | some (.inr (.inl _)) => False
    | _ => True
theorem ok_set {lv : LV} {i : Nat} {v : mV} (h : ∀ v ∈ lv, okO v) (hv : okV v) : ∀ w ∈ lv.set i (some v), okO w := by
  intro w hw
  rcases List.mem_or_eq_of_mem_set hw with g | g
  · exact h w g
  · subst g; exact hv
theorem ok_setN {lv : LV} {i : Nat} (h : ∀ v ∈ lv, okO v) : ∀ w ∈ lv.set i none, okO w := by
  intro w hw
  rcases List.mem_or_eq_of_mem_set hw with g | g
  · exact h w g
  · subst g; trivial
theorem has_sub {ls : Array Slot} {nL : Nat} {l l' : List (Nat × Value)} (h : lv_has ls nL l) (hs : ∀ q ∈ l', q ∈ l) : lv_has ls nL l' := ⟨h.1, h.2.1, fun q hq => h.2.2 q (hs q hq)⟩
theorem cat_en {ad : Nat → Nat} {v : mV} (h : (en ad v).category = 2) : ∃ x, v = .inr (.inl x) := by
  rcases v with x | x | q
  · simp [en, Value.category] at h
  · exact ⟨x, rfl⟩
  · simp [en, Value.category] at h
theorem has_set {ad : Nat → Nat} {ls : Array Slot} {nL i : Nat} {lv : LV} {v : mV} (hn : nl1 lv i) (h : lv_has ls nL ((i, en ad v) :: (toL ad 0 lv).filter (fun q => !(q.1 == i) && !(q.1 + 1 == i && q.2.category == 2)))) : lv_has ls nL (toL ad 0 (lv.set i (some v))) := by
  refine has_sub h fun q hq => ?_
  obtain ⟨n, w, h1, h2⟩ := (mem_toL _ 0).mp hq
  rw [Nat.zero_add] at h2
  by_cases hi : n = i
  · subst hi
    by_cases hl : n < lv.length
    · rw [List.getElem?_set_self hl] at h1
      cases h1
      exact List.mem_cons.mpr (Or.inl h2)
    · rw [List.getElem?_eq_none (by simpa using hl)] at h1
      cases h1
  · rw [List.getElem?_set_ne (Ne.symm hi)] at h1
    refine List.mem_cons_of_mem _ (List.mem_filter.mpr ⟨(mem_toL lv 0).mpr ⟨n, w, h1, by rw [Nat.zero_add]; exact h2⟩, ?_⟩)
    subst h2
    have g1 : (n == i) = false := by simpa using hi
    by_cases g2 : n + 1 = i
    · subst g2
      have hc : (en ad w).category ≠ 2 := fun hc => by
        obtain ⟨x, rfl⟩ := cat_en hc
        have e : lv.getD n none = some (.inr (.inl x)) := by rw [List.getD_eq_getElem?_getD, h1]; rfl
        simp only [nl1, e] at hn
      simp [hc]
    · simp [hi, g2]
theorem has_setL {ad : Nat → Nat} {ls : Array Slot} {nL i : Nat} {lv : LV} {v : mV} (hn : nl1 lv i) (h : lv_has ls nL ((i, en ad v) :: (toL ad 0 lv).filter (fun q => !(q.1 == i) && (!(q.1 == i + 1) && !(q.1 + 1 == i && q.2.category == 2))))) : lv_has ls nL (toL ad 0 ((lv.set i (some v)).set (i + 1) none)) := by
  refine has_sub h fun q hq => ?_
  obtain ⟨n, w, h1, h2⟩ := (mem_toL _ 0).mp hq
  rw [Nat.zero_add] at h2
  by_cases hi1 : n = i + 1
  · subst hi1
    by_cases hl : i + 1 < (lv.set i (some v)).length
    · rw [List.getElem?_set_self hl] at h1; cases h1
    · rw [List.getElem?_eq_none (by simpa using hl)] at h1; cases h1
  · rw [List.getElem?_set_ne (Ne.symm hi1)] at h1
    by_cases hi : n = i
    · subst hi
      by_cases hl : n < lv.length
      · rw [List.getElem?_set_self hl] at h1
        cases h1
        exact List.mem_cons.mpr (Or.inl h2)
      · rw [List.getElem?_eq_none (by simpa using hl)] at h1
        cases h1
    · rw [List.getElem?_set_ne (Ne.symm hi)] at h1
      refine List.mem_cons_of_mem _ (List.mem_filter.mpr ⟨(mem_toL lv 0).mpr ⟨n, w, h1, by rw [Nat.zero_add]; exact h2⟩, ?_⟩)
      subst h2
      by_cases g2 : n + 1 = i
      · subst g2
        have hc : (en ad w).category ≠ 2 := fun hc => by
          obtain ⟨x, rfl⟩ := cat_en hc
          have e : lv.getD n none = some (.inr (.inl x)) := by rw [List.getD_eq_getElem?_getD, h1]; rfl
          simp only [nl1, e] at hn
        simp [hc]
        omega
      · simp [hi, g2, hi1]
/-- fewer known locals -/
def le1 : LV → LV → Prop
  | [], _ => True
  | none :: a, _ :: b => le1 a b
  | none :: a, [] => le1 a []
  | some v :: a, some w :: b => v = w ∧ le1 a b
  | some _ :: _, none :: _ => False
  | some _ :: _, [] => False
theorem le1_at : ∀ (a b : LV), le1 a b → ∀ (n : Nat) (v : mV), a[n]? = some (some v) → b[n]? = some (some v)
  | [], _, _, n, v, h => by simp at h
  | none :: a, w :: b, h, n, v, hn => by
    cases n with
    | zero => simp at hn
    | succ n => simpa using le1_at a b h n v (by simpa using hn)
  | none :: a, [], h, n, v, hn => by
    cases n with
    | zero => simp at hn
    | succ n => exact absurd (le1_at a [] h n v (by simpa using hn)) (by simp)
  | some x :: a, some w :: b, h, n, v, hn => by
    cases n with
    | zero => simp at hn ⊢; rw [← h.1]; exact hn
    | succ n => simpa using le1_at a b h.2 n v (by simpa using hn)
  | some _ :: _, none :: _, h, _, _, _ => h.elim
  | some _ :: _, [], h, _, _, _ => h.elim
theorem le1_ok {a b : LV} (h : le1 a b) (hb : ∀ v ∈ b, okO v) : ∀ v ∈ a, okO v := by
  intro v hv
  cases v with
  | none => trivial
  | some v =>
    obtain ⟨n, hn⟩ := List.getElem?_of_mem hv
    exact hb _ (List.mem_of_getElem? (le1_at a b h n v hn))
theorem le1_has {ad : Nat → Nat} {ls : Array Slot} {nL : Nat} {a b : LV} (h : le1 a b) (hb : lv_has ls nL (toL ad 0 b)) : lv_has ls nL (toL ad 0 a) := has_sub hb fun q hq => by
  obtain ⟨n, v, h1, h2⟩ := (mem_toL _ 0).mp hq
  exact (mem_toL _ 0).mpr ⟨n, v, le1_at a b h n v h1, h2⟩
/-- the locals with which a method begins -/
def inL : List mV → LV
  | [] => []
  | .inr (.inl x) :: r => some (.inr (.inl x)) :: none :: inL r
  | v :: r => some v :: inL r
theorem inL_args {ad : Nat → Nat} {q : Nat × Value} : ∀ (as : List mV) (i : Nat), q ∈ toL ad i (inL as) → q ∈ lv_args i (as.map (en ad))
  | [], i, h => by simp [inL, toL] at h
  | .inl x :: r, i, h => by
    simp only [inL, toL, List.map_cons, lv_args, List.mem_cons] at h ⊢
    rcases h with h | h
    · exact Or.inl h
    · exact Or.inr (by simpa [en, Value.category] using inL_args r (i + 1) h)
  | .inr (.inl x) :: r, i, h => by
    simp only [inL, toL, List.map_cons, lv_args, List.mem_cons] at h ⊢
    rcases h with h | h
    · exact Or.inl h
    · exact Or.inr (by simpa [en, Value.category] using inL_args r (i + 1 + 1) h)
  | .inr (.inr x) :: r, i, h => by
    simp only [inL, toL, List.map_cons, lv_args, List.mem_cons] at h ⊢
    rcases h with h | h
    · exact Or.inl h
    · exact Or.inr (by simpa [en, Value.category] using inL_args r (i + 1) h)
theorem toL_pad {ad : Nat → Nat} (n : Nat) : ∀ (lv : LV) (i : Nat), toL ad i (lv ++ List.replicate n none) = toL ad i lv
  | [], i => by
    induction n generalizing i with
    | zero => rfl
    | succ n ih => exact ih (i + 1)
  | none :: r, i => by simp only [List.cons_append, toL]; exact toL_pad n r (i + 1)
  | some v :: r, i => by simp only [List.cons_append, toL]; rw [toL_pad n r (i + 1)]
theorem inL_ok : ∀ (as : List mV), (∀ v ∈ as, okV v) → ∀ v ∈ inL as, okO v
  | [], _, v, h => by simp [inL] at h
  | .inl x :: r, ha, v, h => by
    simp only [inL, List.mem_cons] at h
    rcases h with rfl | h
    · trivial
    · exact inL_ok r (fun v hv => ha v (List.mem_cons_of_mem _ hv)) v h
  | .inr (.inl x) :: r, ha, v, h => by
    simp only [inL, List.mem_cons] at h
    rcases h with rfl | rfl | h
    · trivial
    · trivial
    · exact inL_ok r (fun v hv => ha v (List.mem_cons_of_mem _ hv)) v h
  | .inr (.inr x) :: r, ha, v, h => by
    simp only [inL, List.mem_cons] at h
    rcases h with rfl | h
    · exact ha _ List.mem_cons_self
    · exact inL_ok r (fun v hv => ha v (List.mem_cons_of_mem _ hv)) v h
end
section
/-! instructions as turns of predicates, each sound over the machine -/
def s_iconst (v : Int32) (κ : KT) : KT := fun lv st M => κ lv (.inl v :: st) M
def s_lconst (v : Int64) (κ : KT) : KT := fun lv st M => κ lv (.inr (.inl v) :: st) M
def s_iload (i : Nat) (κ : KT) : KT := fun lv st M => match lv.getD i none with
  | some (.inl x) => κ lv (.inl x :: st) M
  | _ => False
def s_lload (i : Nat) (κ : KT) : KT := fun lv st M => match lv.getD i none with
  | some (.inr (.inl x)) => κ lv (.inr (.inl x) :: st) M
  | _ => False
def s_aload (i : Nat) (κ : KT) : KT := fun lv st M => match lv.getD i none with
  | some (.inr (.inr x)) => κ lv (.inr (.inr x) :: st) M
  | _ => False
def s_istore (i : Nat) (κ : KT) : KT := fun lv st M => match st with
  | .inl x :: r => nl1 lv i ∧ κ (lv.set i (some (.inl x))) r M
  | _ => False
def s_lstore (i : Nat) (κ : KT) : KT := fun lv st M => match st with
  | .inr (.inl x) :: r => nl1 lv i ∧ κ ((lv.set i (some (.inr (.inl x)))).set (i + 1) none) r M
  | _ => False
def s_astore (i : Nat) (κ : KT) : KT := fun lv st M => match st with
  | .inr (.inr x) :: r => nl1 lv i ∧ κ (lv.set i (some (.inr (.inr x)))) r M
  | _ => False
def s_iinc (i : Nat) (n : Int32) (κ : KT) : KT := fun lv st M => match lv.getD i none with
  | some (.inl x) => nl1 lv i ∧ κ (lv.set i (some (.inl (x + n)))) st M
  | _ => False
def s_bin (f : Int32 → Int32 → Int32) (κ : KT) : KT := fun lv st M => match st with
  | .inl y :: .inl x :: r => κ lv (.inl (f x y) :: r) M
  | _ => False
def s_binG (f : Int32 → Int32 → Int32) (κ : KT) : KT := fun lv st M => match st with
  | .inl y :: .inl x :: r => ¬ y = 0 ∧ κ lv (.inl (f x y) :: r) M
  | _ => False
def s_un (f : Int32 → Int32) (κ : KT) : KT := fun lv st M => match st with
  | .inl x :: r => κ lv (.inl (f x) :: r) M
  | _ => False
def s_lbin (f : Int64 → Int64 → Int64) (κ : KT) : KT := fun lv st M => match st with
  | .inr (.inl y) :: .inr (.inl x) :: r => κ lv (.inr (.inl (f x y)) :: r) M
  | _ => False
def s_lbinG (f : Int64 → Int64 → Int64) (κ : KT) : KT := fun lv st M => match st with
  | .inr (.inl y) :: .inr (.inl x) :: r => ¬ y = 0 ∧ κ lv (.inr (.inl (f x y)) :: r) M
  | _ => False
def s_lsh (f : Int64 → Int32 → Int64) (κ : KT) : KT := fun lv st M => match st with
  | .inl y :: .inr (.inl x) :: r => κ lv (.inr (.inl (f x y)) :: r) M
  | _ => False
def s_lcmp (κ : KT) : KT := fun lv st M => match st with
  | .inr (.inl y) :: .inr (.inl x) :: r => κ lv (.inl (lg_cmp x y) :: r) M
  | _ => False
def mn (x y : Int32) : Int32 := if y < x then y else x
def mx (x y : Int32) : Int32 := if x < y then y else x
def ab (x : Int32) : Int32 := if 0 ≤ x then x else 0 - x
def csum : List mV → Nat
  | [] => 0
  | .inr (.inl _) :: r => 2 + csum r
  | _ :: r => 1 + csum r
def s_mth (f : Int32 → Int32 → Int32) (κ : KT) : KT := fun lv st M => match st with
  | .inl y :: .inl x :: r => csum r ≤ 8 ∧ κ lv (.inl (f x y) :: r) M
  | _ => False
def s_mab (κ : KT) : KT := fun lv st M => match st with
  | .inl x :: r => csum r ≤ 8 ∧ κ lv (.inl (ab x) :: r) M
  | _ => False
def s_i2l (κ : KT) : KT := fun lv st M => match st with
  | .inl x :: r => κ lv (.inr (.inl x.toInt64) :: r) M
  | _ => False
def s_l2i (κ : KT) : KT := fun lv st M => match st with
  | .inr (.inl x) :: r => κ lv (.inl x.toInt32 :: r) M
  | _ => False
def c1 : mV → Prop
  | .inr (.inl _) => False
  | _ => True
def s_dup (κ : KT) : KT := fun lv st M => match st with
  | v :: r => c1 v ∧ κ lv (v :: v :: r) M
  | _ => False
def s_dup2 (κ : KT) : KT := fun lv st M => match st with
  | v :: w :: r => (c1 v ∧ c1 w) ∧ κ lv (v :: w :: v :: w :: r) M
  | _ => False
def s_pop (κ : KT) : KT := fun lv st M => match st with
  | v :: r => c1 v ∧ κ lv r M
  | _ => False
def s_if (c : Int32 → Prop) (κt κf : KT) : KT := fun lv st M => match st with
  | .inl x :: r => (c x → κt lv r M) ∧ (¬ c x → κf lv r M)
  | _ => False
def s_icmp (c : Int32 → Int32 → Prop) (κt κf : KT) : KT := fun lv st M => match st with
  | .inl y :: .inl x :: r => (c x y → κt lv r M) ∧ (¬ c x y → κf lv r M)
  | _ => False
def s_geti (kd j : Nat) (κ : KT) : KT := fun lv st M => match st with
  | .inr (.inr (k2, k)) :: r => k2 = kd ∧ κ lv (.inl (M.1 k j) :: r) M
  | _ => False
def s_getl (kd : Nat) (κ : KT) : KT := fun lv st M => match st with
  | .inr (.inr (k2, k)) :: r => k2 = kd ∧ κ lv (.inr (.inl (M.2 k)) :: r) M
  | _ => False
def s_getr (kd kt : Nat) (f : Nat → Nat) (κ : KT) : KT := fun lv st M => match st with
  | .inr (.inr (k2, k)) :: r => k2 = kd ∧ κ lv (.inr (.inr (kt, f k)) :: r) M
  | _ => False
def s_puti (kd j : Nat) (κ : KT) : KT := fun lv st M => match st with
  | .inl v :: .inr (.inr (k2, k)) :: r => k2 = kd ∧ κ lv r (mset M k j v)
  | _ => False
def s_putz (kd j : Nat) (κ : KT) : KT := fun lv st M => match st with
  | .inl v :: .inr (.inr (k2, k)) :: r => k2 = kd ∧ (v = 0 ∨ v = 1) ∧ κ lv r (mset M k j v)
  | _ => False
def s_putl (kd : Nat) (κ : KT) : KT := fun lv st M => match st with
  | .inr (.inl v) :: .inr (.inr (k2, k)) :: r => k2 = kd ∧ κ lv r (lset M k v)
  | _ => False
def s_iald (κ : KT) : KT := fun lv st M => match st with
  | .inl i :: .inr (.inr (k2, k)) :: r => k2 = 13 ∧ vp_in i (ln k) ∧ κ lv (.inl (M.1 k i.toNatClampNeg) :: r) M
  | _ => False
def s_zald (κ : KT) : KT := fun lv st M => match st with
  | .inl i :: .inr (.inr (k2, k)) :: r => k2 = 14 ∧ vp_in i (ln k) ∧ κ lv (.inl (M.1 k i.toNatClampNeg) :: r) M
  | _ => False
def s_iast (κ : KT) : KT := fun lv st M => match st with
  | .inl x :: .inl i :: .inr (.inr (k2, k)) :: r => k2 = 13 ∧ vp_in i (ln k) ∧ κ lv r (mset M k i.toNatClampNeg x)
  | _ => False
def s_zast (κ : KT) : KT := fun lv st M => match st with
  | .inl x :: .inl i :: .inr (.inr (k2, k)) :: r => k2 = 14 ∧ vp_in i (ln k) ∧ κ lv r (mset M k i.toNatClampNeg (x &&& 1))
  | _ => False
def s_aaldS (κ : KT) : KT := fun lv st M => match st with
  | .inl i :: .inr (.inr (k2, k)) :: r => k2 = 15 ∧ vp_in i (ln k) ∧ κ lv (.inr (.inr (8, k + 1 + 7 * i.toNatClampNeg)) :: r) M
  | _ => False
def s_aaldU (κ : KT) : KT := fun lv st M => match st with
  | .inl i :: .inr (.inr (k2, k)) :: r => k2 = 16 ∧ vp_in i (ln k) ∧ κ lv (.inr (.inr (10, k + 1 + i.toNatClampNeg)) :: r) M
  | _ => False
def fcF (n : Nat) : Int32 := ([1, 1, 2, 6, 24, 120] : List Int32).getD n 0
def s_gets (κ : KT) : KT := fun lv st M => κ lv (.inr (.inr (17, 178)) :: st) M
def s_tald (κ : KT) : KT := fun lv st M => match st with
  | .inl i :: .inr (.inr (k2, k)) :: r => (k2 = 17 ∧ k = 178) ∧ vp_in i 6 ∧ κ lv (.inl (fcF i.toNatClampNeg) :: r) M
  | _ => False
def tsw (x : Int32) (lv : LV) (r : List mV) (M : mM) : Int → List KT → Prop
  | _, [] => True
  | lo, κ :: ks => (x.toInt = lo → κ lv r M) ∧ tsw x lv r M (lo + 1) ks
def s_tsw (lo hi : Int) (ks : List KT) (κd : KT) : KT := fun lv st M => match st with
  | .inl x :: r => ((x.toInt < lo ∨ hi < x.toInt) → κd lv r M) ∧ tsw x lv r M lo ks
  | _ => False
def s_iret (Q : Option mV → mM → Prop) : KT := fun _ st M => match st with
  | [.inl x] => Q (some (.inl x)) M
  | _ => False
def s_zret (Q : Option mV → mM → Prop) : KT := fun _ st M => match st with
  | [.inl x] => (x = 0 ∨ x = 1) ∧ Q (some (.inl x)) M
  | _ => False
def s_lret (Q : Option mV → mM → Prop) : KT := fun _ st M => match st with
  | [.inr (.inl x)] => Q (some (.inr (.inl x))) M
  | _ => False
def s_aret (Q : Option mV → mM → Prop) : KT := fun _ st M => match st with
  | [.inr (.inr x)] => Q (some (.inr (.inr x))) M
  | _ => False
def s_vret (Q : Option mV → mM → Prop) : KT := fun _ st M => match st with
  | [] => Q none M
  | _ => False
def pushR : Option mV → List mV → List mV
  | none, r => r
  | some v, r => v :: r
def s_callV (kd n : Nat) (pre : List mV → mM → Prop) (fn : List mV → mM → Option mV × mM) (κ : KT) : KT := fun lv st M => match (st.take (n + 1)).reverse with
  | .inr (.inr (k2, k)) :: as => k2 = kd ∧ as.length = n ∧ csum (st.drop (n + 1)) ≤ 8 ∧ pre (.inr (.inr (kd, k)) :: as) M ∧ κ lv (pushR (fn (.inr (.inr (kd, k)) :: as) M).1 (st.drop (n + 1))) (fn (.inr (.inr (kd, k)) :: as) M).2
  | _ => False
def s_callS (n : Nat) (pre : List mV → mM → Prop) (fn : List mV → mM → Option mV × mM) (κ : KT) : KT := fun lv st M => n ≤ st.length ∧ csum (st.drop n) ≤ 8 ∧ pre (st.take n).reverse M ∧ κ lv (pushR (fn (st.take n).reverse M).1 (st.drop n)) (fn (st.take n).reverse M).2
/-- at a label: the locals that are alive there -/
def keepL : List Bool → LV → LV
  | true :: b, v :: r => v :: keepL b r
  | false :: b, _ :: r => none :: keepL b r
  | _, _ => []
theorem keepL_le : ∀ (b : List Bool) (lv : LV), le1 (keepL b lv) lv
  | true :: b, none :: r => by simp only [keepL, le1]; exact keepL_le b r
  | true :: b, some v :: r => by simp only [keepL, le1]; exact ⟨trivial, keepL_le b r⟩
  | false :: b, _ :: r => by simp only [keepL, le1]; exact keepL_le b r
  | [], lv => by simp [keepL, le1]
  | true :: b, [] => by simp [keepL, le1]
  | false :: b, [] => by simp [keepL, le1]
def s_at (G : Nat → KT) (pc : Nat) (b : List Bool) : KT := fun lv st M => G pc (keepL b lv) st M
/-! the machine's side -/
def aA (ad : Nat → Nat) (sz : Nat) : Nat → Prop := fun q => (∃ k, k < 178 ∧ q = ad k) ∨ sz ≤ q
def tyL (ca : Nat → ClassId) : List (ClassId × FieldType) := [(ca 0, .int), (ca 1, .boolean), (ca 2, .object "FairBlocks$Standing"), (ca 3, .object "FairBlocks$User")]
def ZT (ad : Nat → Nat) (A : Nat → Prop) (U : State) (H : Heap) : Prop := va_Z "FairBlocks" "FACTORIALS" "[I" (.ref (ad 178)) A U H ∧ va_T .int (ad 178) 6 (fun j => .int (fcF j)) A U H
def CX (p : Program) (s : State) (m : MethodId) (args : Array Value) (meth : Method) (c : Code) (nL : Nat) (cc : ByteArray) (own : String) (D : va_G) (ca : Nat → ClassId) (ad : Nat → Nat) (A : Nat → Prop) : Prop :=
  p.tables.exec = Jvm.exec ∧ c.code = cc ∧ c.maxLocals = nL ∧ s.vm.findClass own = some m.cls ∧ (∀ w ∈ gw, w.before args s = true) ∧ va_K D vwCl (tyL ca) s ∧ (∀ M, va_D A (wo ca ad M)) ∧ ZT ad A s s.heap ∧ (∀ w ∈ nwL, va_Nw w s) ∧ meth.locks = false ∧ (∀ q : Nat, s.heap.size ≤ q → A q)
def Gd (p : Program) (l : Launch) (e : Env) (R : Room) (s : State) (m : MethodId) (args : Array Value) (below : List Frame) (meth : Method) (c : Code) (nL : Nat) (D : va_G) (ca : Nat → ClassId) (ad : Nat → Nat) (A : Nat → Prop) (nc ns : Nat) (Qf : State → Prop) (pc : Nat) (lv : LV) (st : List mV) (M : mM) : Prop :=
  ∀ (H : Heap) (locs : List Loc) (ls : Array Slot), va_P D vwCl (wo ca ad M) H → va_S A s.heap H locs → lv_has ls nL (toL ad 0 lv) → (∀ v ∈ lv, okO v) → (∀ v ∈ st, okV v) → W p l e R s m args below meth c H locs nc ns Qf (F0 m pc ls (st.map (en ad)))
/-- what a field's link says of it: its class, its place, its kind -/
def FLk (own : String) (idx kd j ty : Nat) : Prop := ∃ (C : String) (T : u_T) (N : Nat), vwCl[kd]? = some (C, T, N) ∧ (∀ w ∈ u_ws C T N, w ∈ gw) ∧ j < N ∧ Cond.fieldLink own idx (T j).1 (T j).2.1 (T j).2.2.1 ∈ gw ∧ kd < 13 ∧ (fTL.getD kd [])[j]? = some ty
def FPk (own : String) (idx kd j ty : Nat) (ft : FieldType) : Prop := ∃ (C : String) (T : u_T) (N : Nat) (ty0 : Nat → FieldType), vwCl[kd]? = some (C, T, N) ∧ (∀ w ∈ u_ws C T N, w ∈ gw) ∧ j < N ∧ Cond.fieldLink own idx (T j).1 (T j).2.1 (T j).2.2.1 ∈ gw ∧ kd < 13 ∧ (fTL.getD kd [])[j]? = some ty ∧ (∀ k, k < N → parseFieldDescriptor (T k).2.2.1 = some (ty0 k)) ∧ (∀ a, a < N → ∀ b, b < N → a ≠ b → (T a).2.1 ≠ (T b).2.1) ∧ (T j).2.2.2 = false ∧ parseFieldDescriptor (T j).2.2.1 = some ft
section MS
variable {p : Program} {l : Launch} {e : Env} {R : Room} {s : State} {m : MethodId} {args : Array Value} {below : List Frame} {meth : Method} {c : Code} {nL : Nat} {cc : ByteArray} {own : String} {D : va_G} {ca : Nat → ClassId} {ad : Nat → Nat} {A : Nat → Prop} {nc ns : Nat} {Qf : State → Prop} {pc : Nat} {κ κt κf : KT}
theorem sd_at {b : List Bool} : ∀ lv st M, s_at (Gd p l e R s m args below meth c nL D ca ad A nc ns Qf) pc b lv st M → Gd p l e R s m args below meth c nL D ca ad A nc ns Qf pc lv st M := fun lv st M h H locs ls hP hS hl ho hs => h H locs ls hP hS (le1_has (keepL_le b lv) hl) (le1_ok (keepL_le b lv) ho) hs
theorem sd_iconst (hX : CX p s m args meth c nL cc own D ca ad A) {n : Int} {v : Int32} (hd : decode cc pc = .ok (.iconst n, 1)) (hv : Int32.ofInt n = v) (k : ∀ lv st M, κ lv st M → Gd p l e R s m args below meth c nL D ca ad A nc ns Qf (pc + 1) lv st M) : ∀ lv st M, s_iconst v κ lv st M → Gd p l e R s m args below meth c nL D ca ad A nc ns Qf pc lv st M := fun lv st M h H locs ls hP hS hl ho hs =>
  lv_iconst hX.1 hX.2.1 hd hv (k lv _ M h H locs ls hP hS hl ho (List.forall_mem_cons.mpr ⟨trivial, hs⟩))
theorem sd_bipush (hX : CX p s m args meth c nL cc own D ca ad A) {n : Int} {v : Int32} (hd : decode cc pc = .ok (.bipush n, 2)) (hv : (Int8.ofInt n).toInt32 = v) (k : ∀ lv st M, κ lv st M → Gd p l e R s m args below meth c nL D ca ad A nc ns Qf (pc + 2) lv st M) : ∀ lv st M, s_iconst v κ lv st M → Gd p l e R s m args below meth c nL D ca ad A nc ns Qf pc lv st M := fun lv st M h H locs ls hP hS hl ho hs =>
  lv_bipush hX.1 hX.2.1 hd hv (k lv _ M h H locs ls hP hS hl ho (List.forall_mem_cons.mpr ⟨trivial, hs⟩))
theorem sd_sipush (hX : CX p s m args meth c nL cc own D ca ad A) {n : Int} {v : Int32} (hd : decode cc pc = .ok (.sipush n, 3)) (hv : (Int16.ofInt n).toInt32 = v) (k : ∀ lv st M, κ lv st M → Gd p l e R s m args below meth c nL D ca ad A nc ns Qf (pc + 3) lv st M) : ∀ lv st M, s_iconst v κ lv st M → Gd p l e R s m args below meth c nL D ca ad A nc ns Qf pc lv st M := fun lv st M h H locs ls hP hS hl ho hs =>
  lv_sipush hX.1 hX.2.1 hd hv (k lv _ M h H locs ls hP hS hl ho (List.forall_mem_cons.mpr ⟨trivial, hs⟩))
theorem sd_ldc (hX : CX p s m args meth c nL cc own D ca ad A) {idx : Nat} {v : Int32} (hw : Cond.constant own idx v ∈ gw) (hd : decode cc pc = .ok (.ldc idx, 2)) (k : ∀ lv st M, κ lv st M → Gd p l e R s m args below meth c nL D ca ad A nc ns Qf (pc + 2) lv st M) : ∀ lv st M, s_iconst v κ lv st M → Gd p l e R s m args below meth c nL D ca ad A nc ns Qf pc lv st M := fun lv st M h H locs ls hP hS hl ho hs =>
  lv_ldc hX.1 hX.2.1 hX.2.2.2.1 (hX.2.2.2.2.1 _ hw) hd (k lv _ M h H locs ls hP hS hl ho (List.forall_mem_cons.mpr ⟨trivial, hs⟩))
theorem sd_ldcw (hX : CX p s m args meth c nL cc own D ca ad A) {idx : Nat} {v : Int32} (hw : Cond.constant own idx v ∈ gw) (hd : decode cc pc = .ok (.ldc_w idx, 3)) (k : ∀ lv st M, κ lv st M → Gd p l e R s m args below meth c nL D ca ad A nc ns Qf (pc + 3) lv st M) : ∀ lv st M, s_iconst v κ lv st M → Gd p l e R s m args below meth c nL D ca ad A nc ns Qf pc lv st M := fun lv st M h H locs ls hP hS hl ho hs =>
  lv_ldcw hX.1 hX.2.1 hX.2.2.2.1 (hX.2.2.2.2.1 _ hw) hd (k lv _ M h H locs ls hP hS hl ho (List.forall_mem_cons.mpr ⟨trivial, hs⟩))
theorem sd_ldc2 (hX : CX p s m args meth c nL cc own D ca ad A) {idx : Nat} {v : Int64} (hw : Cond.constantLong own idx v ∈ gw) (hd : decode cc pc = .ok (.ldc2_w idx, 3)) (k : ∀ lv st M, κ lv st M → Gd p l e R s m args below meth c nL D ca ad A nc ns Qf (pc + 3) lv st M) : ∀ lv st M, s_lconst v κ lv st M → Gd p l e R s m args below meth c nL D ca ad A nc ns Qf pc lv st M := fun lv st M h H locs ls hP hS hl ho hs =>
  lv_ldc2 hX.1 hX.2.1 hX.2.2.2.1 (hX.2.2.2.2.1 _ hw) hd (k lv _ M h H locs ls hP hS hl ho (List.forall_mem_cons.mpr ⟨trivial, hs⟩))
theorem sd_lconst (hX : CX p s m args meth c nL cc own D ca ad A) {n : Fin 2} {v : Int64} (hd : decode cc pc = .ok (.lconst n, 1)) (hv : Int64.ofNat (n : Nat) = v) (k : ∀ lv st M, κ lv st M → Gd p l e R s m args below meth c nL D ca ad A nc ns Qf (pc + 1) lv st M) : ∀ lv st M, s_lconst v κ lv st M → Gd p l e R s m args below meth c nL D ca ad A nc ns Qf pc lv st M := fun lv st M h H locs ls hP hS hl ho hs =>
  lv_lconst hX.1 hX.2.1 hd hv (k lv _ M h H locs ls hP hS hl ho (List.forall_mem_cons.mpr ⟨trivial, hs⟩))
theorem sd_iload_n (hX : CX p s m args meth c nL cc own D ca ad A) {n : Fin 4} {i : Nat} (hd : decode cc pc = .ok (.iload_n n, 1)) (hi : (n : Nat) = i) (k : ∀ lv st M, κ lv st M → Gd p l e R s m args below meth c nL D ca ad A nc ns Qf (pc + 1) lv st M) : ∀ lv st M, s_iload i κ lv st M → Gd p l e R s m args below meth c nL D ca ad A nc ns Qf pc lv st M := by
  intro lv st M h H locs ls hP hS hl ho hs
  unfold s_iload at h
  split at h
  · next x hx => exact lv_iload_n hX.1 hX.2.1 hd hi (ls_of hl hx) (k lv _ M h H locs ls hP hS hl ho (List.forall_mem_cons.mpr ⟨trivial, hs⟩))
  · exact h.elim
theorem sd_iload (hX : CX p s m args meth c nL cc own D ca ad A) {i : Nat} (hd : decode cc pc = .ok (.iload i, 2)) (k : ∀ lv st M, κ lv st M → Gd p l e R s m args below meth c nL D ca ad A nc ns Qf (pc + 2) lv st M) : ∀ lv st M, s_iload i κ lv st M → Gd p l e R s m args below meth c nL D ca ad A nc ns Qf pc lv st M := by
  intro lv st M h H locs ls hP hS hl ho hs
  unfold s_iload at h
  split at h
  · next x hx => exact lv_iload hX.1 hX.2.1 hd (ls_of hl hx) (k lv _ M h H locs ls hP hS hl ho (List.forall_mem_cons.mpr ⟨trivial, hs⟩))
  · exact h.elim
theorem sd_lload_n (hX : CX p s m args meth c nL cc own D ca ad A) {n : Fin 4} {i : Nat} (hd : decode cc pc = .ok (.lload_n n, 1)) (hi : (n : Nat) = i) (k : ∀ lv st M, κ lv st M → Gd p l e R s m args below meth c nL D ca ad A nc ns Qf (pc + 1) lv st M) : ∀ lv st M, s_lload i κ lv st M → Gd p l e R s m args below meth c nL D ca ad A nc ns Qf pc lv st M := by
  intro lv st M h H locs ls hP hS hl ho hs
  unfold s_lload at h
  split at h
  · next x hx => exact lv_lload_n hX.1 hX.2.1 hd hi (ls_of hl hx) (k lv _ M h H locs ls hP hS hl ho (List.forall_mem_cons.mpr ⟨trivial, hs⟩))
  · exact h.elim
theorem sd_lload (hX : CX p s m args meth c nL cc own D ca ad A) {i : Nat} (hd : decode cc pc = .ok (.lload i, 2)) (k : ∀ lv st M, κ lv st M → Gd p l e R s m args below meth c nL D ca ad A nc ns Qf (pc + 2) lv st M) : ∀ lv st M, s_lload i κ lv st M → Gd p l e R s m args below meth c nL D ca ad A nc ns Qf pc lv st M := by
  intro lv st M h H locs ls hP hS hl ho hs
  unfold s_lload at h
  split at h
  · next x hx => exact lv_lload hX.1 hX.2.1 hd (ls_of hl hx) (k lv _ M h H locs ls hP hS hl ho (List.forall_mem_cons.mpr ⟨trivial, hs⟩))
  · exact h.elim
theorem sd_aload_n (hX : CX p s m args meth c nL cc own D ca ad A) {n : Fin 4} {i : Nat} (hd : decode cc pc = .ok (.aload_n n, 1)) (hi : (n : Nat) = i) (k : ∀ lv st M, κ lv st M → Gd p l e R s m args below meth c nL D ca ad A nc ns Qf (pc + 1) lv st M) : ∀ lv st M, s_aload i κ lv st M → Gd p l e R s m args below meth c nL D ca ad A nc ns Qf pc lv st M := by
  intro lv st M h H locs ls hP hS hl ho hs
  unfold s_aload at h
  split at h
  · next x hx => exact lv_aload_n hX.1 hX.2.1 hd hi (ls_of hl hx) (k lv _ M h H locs ls hP hS hl ho (List.forall_mem_cons.mpr ⟨(ok_of ho hx), hs⟩))
  · exact h.elim
theorem sd_aload (hX : CX p s m args meth c nL cc own D ca ad A) {i : Nat} (hd : decode cc pc = .ok (.aload i, 2)) (k : ∀ lv st M, κ lv st M → Gd p l e R s m args below meth c nL D ca ad A nc ns Qf (pc + 2) lv st M) : ∀ lv st M, s_aload i κ lv st M → Gd p l e R s m args below meth c nL D ca ad A nc ns Qf pc lv st M := by
  intro lv st M h H locs ls hP hS hl ho hs
  unfold s_aload at h
  split at h
  · next x hx => exact lv_aload hX.1 hX.2.1 hd (ls_of hl hx) (k lv _ M h H locs ls hP hS hl ho (List.forall_mem_cons.mpr ⟨(ok_of ho hx), hs⟩))
  · exact h.elim
theorem sd_istore_n (hX : CX p s m args meth c nL cc own D ca ad A) {n : Fin 4} {i : Nat} (hn : i < nL) (hd : decode cc pc = .ok (.istore_n n, 1)) (hi : (n : Nat) = i) (k : ∀ lv st M, κ lv st M → Gd p l e R s m args below meth c nL D ca ad A nc ns Qf (pc + 1) lv st M) : ∀ lv st M, s_istore i κ lv st M → Gd p l e R s m args below meth c nL D ca ad A nc ns Qf pc lv st M := by
  intro lv st M h H locs ls hP hS hl ho hs
  unfold s_istore at h
  split at h
  · next x r => exact lv_istore_n hX.1 hX.2.1 hd hi hl hn rfl fun ls2 hl2 => k _ _ M h.2 H locs ls2 hP hS (has_set (v := .inl x) h.1 hl2) (ok_set ho trivial) (fun v hv => hs v (List.mem_cons_of_mem _ hv))
  · exact h.elim
theorem sd_istore (hX : CX p s m args meth c nL cc own D ca ad A) {i : Nat} (hn : i < nL) (hd : decode cc pc = .ok (.istore i, 2)) (k : ∀ lv st M, κ lv st M → Gd p l e R s m args below meth c nL D ca ad A nc ns Qf (pc + 2) lv st M) : ∀ lv st M, s_istore i κ lv st M → Gd p l e R s m args below meth c nL D ca ad A nc ns Qf pc lv st M := by
  intro lv st M h H locs ls hP hS hl ho hs
  unfold s_istore at h
  split at h
  · next x r => exact lv_istore hX.1 hX.2.1 hd hl hn rfl fun ls2 hl2 => k _ _ M h.2 H locs ls2 hP hS (has_set (v := .inl x) h.1 hl2) (ok_set ho trivial) (fun v hv => hs v (List.mem_cons_of_mem _ hv))
  · exact h.elim
theorem sd_astore_n (hX : CX p s m args meth c nL cc own D ca ad A) {n : Fin 4} {i : Nat} (hn : i < nL) (hd : decode cc pc = .ok (.astore_n n, 1)) (hi : (n : Nat) = i) (k : ∀ lv st M, κ lv st M → Gd p l e R s m args below meth c nL D ca ad A nc ns Qf (pc + 1) lv st M) : ∀ lv st M, s_astore i κ lv st M → Gd p l e R s m args below meth c nL D ca ad A nc ns Qf pc lv st M := by
  intro lv st M h H locs ls hP hS hl ho hs
  unfold s_astore at h
  split at h
  · next x r => exact lv_astore_n hX.1 hX.2.1 hd hi hl hn rfl fun ls2 hl2 => k _ _ M h.2 H locs ls2 hP hS (has_set (v := .inr (.inr x)) h.1 hl2) (ok_set ho (hs _ List.mem_cons_self)) (fun v hv => hs v (List.mem_cons_of_mem _ hv))
  · exact h.elim
theorem sd_astore (hX : CX p s m args meth c nL cc own D ca ad A) {i : Nat} (hn : i < nL) (hd : decode cc pc = .ok (.astore i, 2)) (k : ∀ lv st M, κ lv st M → Gd p l e R s m args below meth c nL D ca ad A nc ns Qf (pc + 2) lv st M) : ∀ lv st M, s_astore i κ lv st M → Gd p l e R s m args below meth c nL D ca ad A nc ns Qf pc lv st M := by
  intro lv st M h H locs ls hP hS hl ho hs
  unfold s_astore at h
  split at h
  · next x r => exact lv_astore hX.1 hX.2.1 hd hl hn rfl fun ls2 hl2 => k _ _ M h.2 H locs ls2 hP hS (has_set (v := .inr (.inr x)) h.1 hl2) (ok_set ho (hs _ List.mem_cons_self)) (fun v hv => hs v (List.mem_cons_of_mem _ hv))
  · exact h.elim
theorem sd_lstore_n (hX : CX p s m args meth c nL cc own D ca ad A) {n : Fin 4} {i : Nat} (hn : i + 1 < nL) (hd : decode cc pc = .ok (.lstore_n n, 1)) (hi : (n : Nat) = i) (k : ∀ lv st M, κ lv st M → Gd p l e R s m args below meth c nL D ca ad A nc ns Qf (pc + 1) lv st M) : ∀ lv st M, s_lstore i κ lv st M → Gd p l e R s m args below meth c nL D ca ad A nc ns Qf pc lv st M := by
  intro lv st M h H locs ls hP hS hl ho hs
  unfold s_lstore at h
  split at h
  · next x r => exact lv_lstore_n hX.1 hX.2.1 hd hi hl hn rfl fun ls2 hl2 => k _ _ M h.2 H locs ls2 hP hS (has_setL (v := .inr (.inl x)) h.1 hl2) (ok_setN (ok_set ho trivial)) (fun v hv => hs v (List.mem_cons_of_mem _ hv))
  · exact h.elim
theorem sd_lstore (hX : CX p s m args meth c nL cc own D ca ad A) {i : Nat} (hn : i + 1 < nL) (hd : decode cc pc = .ok (.lstore i, 2)) (k : ∀ lv st M, κ lv st M → Gd p l e R s m args below meth c nL D ca ad A nc ns Qf (pc + 2) lv st M) : ∀ lv st M, s_lstore i κ lv st M → Gd p l e R s m args below meth c nL D ca ad A nc ns Qf pc lv st M := by
  intro lv st M h H locs ls hP hS hl ho hs
  unfold s_lstore at h
  split at h
  · next x r => exact lv_lstore hX.1 hX.2.1 hd hl hn rfl fun ls2 hl2 => k _ _ M h.2 H locs ls2 hP hS (has_setL (v := .inr (.inl x)) h.1 hl2) (ok_setN (ok_set ho trivial)) (fun v hv => hs v (List.mem_cons_of_mem _ hv))
  · exact h.elim
theorem sd_iinc (hX : CX p s m args meth c nL cc own D ca ad A) {i : Nat} {n : Int} {v : Int32} (hi : i < nL) (hd : decode cc pc = .ok (.iinc i n, 3)) (hv : Int32.ofInt n = v) (k : ∀ lv st M, κ lv st M → Gd p l e R s m args below meth c nL D ca ad A nc ns Qf (pc + 3) lv st M) : ∀ lv st M, s_iinc i v κ lv st M → Gd p l e R s m args below meth c nL D ca ad A nc ns Qf pc lv st M := by
  intro lv st M h H locs ls hP hS hl ho hs
  unfold s_iinc at h
  split at h
  · next x hx =>
    obtain ⟨j, hj⟩ := List.getElem?_of_mem ((mem_toL (ad := ad) lv 0).mpr ⟨i, .inl x, getD_some hx, rfl⟩)
    rw [Nat.zero_add] at hj
    refine lv_iinc (k := j) (x := x) hX.1 hX.2.1 hd hl hj (by rw [hv]) hi rfl fun ls' hl' => ?_
    exact k _ _ M h.2 H locs ls' hP hS (has_set (v := .inl (x + v)) h.1 hl') (ok_set ho trivial) hs
  · exact h.elim
theorem sd_iadd (hX : CX p s m args meth c nL cc own D ca ad A) (hd : decode cc pc = .ok (.iadd, 1)) (k : ∀ lv st M, κ lv st M → Gd p l e R s m args below meth c nL D ca ad A nc ns Qf (pc + 1) lv st M) : ∀ lv st M, s_bin (fun x y => x + y) κ lv st M → Gd p l e R s m args below meth c nL D ca ad A nc ns Qf pc lv st M := by
  intro lv st M h H locs ls hP hS hl ho hs
  unfold s_bin at h
  split at h
  · next y x r => exact lv_iadd hX.1 hX.2.1 hd (k lv _ M h H locs ls hP hS hl ho (List.forall_mem_cons.mpr ⟨trivial, (fun v hv => hs v (List.mem_cons_of_mem _ (List.mem_cons_of_mem _ hv)))⟩))
  · exact h.elim
theorem sd_isub (hX : CX p s m args meth c nL cc own D ca ad A) (hd : decode cc pc = .ok (.isub, 1)) (k : ∀ lv st M, κ lv st M → Gd p l e R s m args below meth c nL D ca ad A nc ns Qf (pc + 1) lv st M) : ∀ lv st M, s_bin (fun x y => x - y) κ lv st M → Gd p l e R s m args below meth c nL D ca ad A nc ns Qf pc lv st M := by
  intro lv st M h H locs ls hP hS hl ho hs
  unfold s_bin at h
  split at h
  · next y x r => exact lv_isub hX.1 hX.2.1 hd (k lv _ M h H locs ls hP hS hl ho (List.forall_mem_cons.mpr ⟨trivial, (fun v hv => hs v (List.mem_cons_of_mem _ (List.mem_cons_of_mem _ hv)))⟩))
  · exact h.elim
theorem sd_imul (hX : CX p s m args meth c nL cc own D ca ad A) (hd : decode cc pc = .ok (.imul, 1)) (k : ∀ lv st M, κ lv st M → Gd p l e R s m args below meth c nL D ca ad A nc ns Qf (pc + 1) lv st M) : ∀ lv st M, s_bin (fun x y => x * y) κ lv st M → Gd p l e R s m args below meth c nL D ca ad A nc ns Qf pc lv st M := by
  intro lv st M h H locs ls hP hS hl ho hs
  unfold s_bin at h
  split at h
  · next y x r => exact lv_imul hX.1 hX.2.1 hd (k lv _ M h H locs ls hP hS hl ho (List.forall_mem_cons.mpr ⟨trivial, (fun v hv => hs v (List.mem_cons_of_mem _ (List.mem_cons_of_mem _ hv)))⟩))
  · exact h.elim
theorem sd_iand (hX : CX p s m args meth c nL cc own D ca ad A) (hd : decode cc pc = .ok (.iand, 1)) (k : ∀ lv st M, κ lv st M → Gd p l e R s m args below meth c nL D ca ad A nc ns Qf (pc + 1) lv st M) : ∀ lv st M, s_bin (fun x y => x &&& y) κ lv st M → Gd p l e R s m args below meth c nL D ca ad A nc ns Qf pc lv st M := by
  intro lv st M h H locs ls hP hS hl ho hs
  unfold s_bin at h
  split at h
  · next y x r => exact lv_iand hX.1 hX.2.1 hd (k lv _ M h H locs ls hP hS hl ho (List.forall_mem_cons.mpr ⟨trivial, (fun v hv => hs v (List.mem_cons_of_mem _ (List.mem_cons_of_mem _ hv)))⟩))
  · exact h.elim
theorem sd_ior (hX : CX p s m args meth c nL cc own D ca ad A) (hd : decode cc pc = .ok (.ior, 1)) (k : ∀ lv st M, κ lv st M → Gd p l e R s m args below meth c nL D ca ad A nc ns Qf (pc + 1) lv st M) : ∀ lv st M, s_bin (fun x y => x ||| y) κ lv st M → Gd p l e R s m args below meth c nL D ca ad A nc ns Qf pc lv st M := by
  intro lv st M h H locs ls hP hS hl ho hs
  unfold s_bin at h
  split at h
  · next y x r => exact lv_ior hX.1 hX.2.1 hd (k lv _ M h H locs ls hP hS hl ho (List.forall_mem_cons.mpr ⟨trivial, (fun v hv => hs v (List.mem_cons_of_mem _ (List.mem_cons_of_mem _ hv)))⟩))
  · exact h.elim
theorem sd_ixor (hX : CX p s m args meth c nL cc own D ca ad A) (hd : decode cc pc = .ok (.ixor, 1)) (k : ∀ lv st M, κ lv st M → Gd p l e R s m args below meth c nL D ca ad A nc ns Qf (pc + 1) lv st M) : ∀ lv st M, s_bin (fun x y => x ^^^ y) κ lv st M → Gd p l e R s m args below meth c nL D ca ad A nc ns Qf pc lv st M := by
  intro lv st M h H locs ls hP hS hl ho hs
  unfold s_bin at h
  split at h
  · next y x r => exact lv_ixor hX.1 hX.2.1 hd (k lv _ M h H locs ls hP hS hl ho (List.forall_mem_cons.mpr ⟨trivial, (fun v hv => hs v (List.mem_cons_of_mem _ (List.mem_cons_of_mem _ hv)))⟩))
  · exact h.elim
theorem sd_ishl (hX : CX p s m args meth c nL cc own D ca ad A) (hd : decode cc pc = .ok (.ishl, 1)) (k : ∀ lv st M, κ lv st M → Gd p l e R s m args below meth c nL D ca ad A nc ns Qf (pc + 1) lv st M) : ∀ lv st M, s_bin (fun x y => x <<< (y &&& 31)) κ lv st M → Gd p l e R s m args below meth c nL D ca ad A nc ns Qf pc lv st M := by
  intro lv st M h H locs ls hP hS hl ho hs
  unfold s_bin at h
  split at h
  · next y x r => exact lv_ishl hX.1 hX.2.1 hd (k lv _ M h H locs ls hP hS hl ho (List.forall_mem_cons.mpr ⟨trivial, (fun v hv => hs v (List.mem_cons_of_mem _ (List.mem_cons_of_mem _ hv)))⟩))
  · exact h.elim
theorem sd_ishr (hX : CX p s m args meth c nL cc own D ca ad A) (hd : decode cc pc = .ok (.ishr, 1)) (k : ∀ lv st M, κ lv st M → Gd p l e R s m args below meth c nL D ca ad A nc ns Qf (pc + 1) lv st M) : ∀ lv st M, s_bin (fun x y => x >>> (y &&& 31)) κ lv st M → Gd p l e R s m args below meth c nL D ca ad A nc ns Qf pc lv st M := by
  intro lv st M h H locs ls hP hS hl ho hs
  unfold s_bin at h
  split at h
  · next y x r => exact lv_ishr hX.1 hX.2.1 hd (k lv _ M h H locs ls hP hS hl ho (List.forall_mem_cons.mpr ⟨trivial, (fun v hv => hs v (List.mem_cons_of_mem _ (List.mem_cons_of_mem _ hv)))⟩))
  · exact h.elim
theorem sd_iushr (hX : CX p s m args meth c nL cc own D ca ad A) (hd : decode cc pc = .ok (.iushr, 1)) (k : ∀ lv st M, κ lv st M → Gd p l e R s m args below meth c nL D ca ad A nc ns Qf (pc + 1) lv st M) : ∀ lv st M, s_bin (fun x y => (x.toUInt32 >>> (y.toUInt32 &&& Int32.toUInt32 31)).toInt32) κ lv st M → Gd p l e R s m args below meth c nL D ca ad A nc ns Qf pc lv st M := by
  intro lv st M h H locs ls hP hS hl ho hs
  unfold s_bin at h
  split at h
  · next y x r => exact lv_iushr hX.1 hX.2.1 hd rfl (k lv _ M h H locs ls hP hS hl ho (List.forall_mem_cons.mpr ⟨trivial, (fun v hv => hs v (List.mem_cons_of_mem _ (List.mem_cons_of_mem _ hv)))⟩))
  · exact h.elim
theorem sd_idiv (hX : CX p s m args meth c nL cc own D ca ad A) (hd : decode cc pc = .ok (.idiv, 1)) (k : ∀ lv st M, κ lv st M → Gd p l e R s m args below meth c nL D ca ad A nc ns Qf (pc + 1) lv st M) : ∀ lv st M, s_binG (fun x y => x / y) κ lv st M → Gd p l e R s m args below meth c nL D ca ad A nc ns Qf pc lv st M := by
  intro lv st M h H locs ls hP hS hl ho hs
  unfold s_binG at h
  split at h
  · next y x r => exact lv_idiv hX.1 hX.2.1 hd h.1 (k lv _ M h.2 H locs ls hP hS hl ho (List.forall_mem_cons.mpr ⟨trivial, (fun v hv => hs v (List.mem_cons_of_mem _ (List.mem_cons_of_mem _ hv)))⟩))
  · exact h.elim
theorem sd_irem (hX : CX p s m args meth c nL cc own D ca ad A) (hd : decode cc pc = .ok (.irem, 1)) (k : ∀ lv st M, κ lv st M → Gd p l e R s m args below meth c nL D ca ad A nc ns Qf (pc + 1) lv st M) : ∀ lv st M, s_binG (fun x y => x - x / y * y) κ lv st M → Gd p l e R s m args below meth c nL D ca ad A nc ns Qf pc lv st M := by
  intro lv st M h H locs ls hP hS hl ho hs
  unfold s_binG at h
  split at h
  · next y x r => exact lv_irem hX.1 hX.2.1 hd h.1 (k lv _ M h.2 H locs ls hP hS hl ho (List.forall_mem_cons.mpr ⟨trivial, (fun v hv => hs v (List.mem_cons_of_mem _ (List.mem_cons_of_mem _ hv)))⟩))
  · exact h.elim
theorem sd_ineg (hX : CX p s m args meth c nL cc own D ca ad A) (hd : decode cc pc = .ok (.ineg, 1)) (k : ∀ lv st M, κ lv st M → Gd p l e R s m args below meth c nL D ca ad A nc ns Qf (pc + 1) lv st M) : ∀ lv st M, s_un (fun x => -x) κ lv st M → Gd p l e R s m args below meth c nL D ca ad A nc ns Qf pc lv st M := by
  intro lv st M h H locs ls hP hS hl ho hs
  unfold s_un at h
  split at h
  · next x r => exact lv_ineg hX.1 hX.2.1 hd (k lv _ M h H locs ls hP hS hl ho (List.forall_mem_cons.mpr ⟨trivial, (fun v hv => hs v (List.mem_cons_of_mem _ hv))⟩))
  · exact h.elim
theorem sd_ladd (hX : CX p s m args meth c nL cc own D ca ad A) (hd : decode cc pc = .ok (.ladd, 1)) (k : ∀ lv st M, κ lv st M → Gd p l e R s m args below meth c nL D ca ad A nc ns Qf (pc + 1) lv st M) : ∀ lv st M, s_lbin (fun x y => x + y) κ lv st M → Gd p l e R s m args below meth c nL D ca ad A nc ns Qf pc lv st M := by
  intro lv st M h H locs ls hP hS hl ho hs
  unfold s_lbin at h
  split at h
  · next y x r => exact lv_ladd hX.1 hX.2.1 hd (k lv _ M h H locs ls hP hS hl ho (List.forall_mem_cons.mpr ⟨trivial, (fun v hv => hs v (List.mem_cons_of_mem _ (List.mem_cons_of_mem _ hv)))⟩))
  · exact h.elim
theorem sd_lsub (hX : CX p s m args meth c nL cc own D ca ad A) (hd : decode cc pc = .ok (.lsub, 1)) (k : ∀ lv st M, κ lv st M → Gd p l e R s m args below meth c nL D ca ad A nc ns Qf (pc + 1) lv st M) : ∀ lv st M, s_lbin (fun x y => x - y) κ lv st M → Gd p l e R s m args below meth c nL D ca ad A nc ns Qf pc lv st M := by
  intro lv st M h H locs ls hP hS hl ho hs
  unfold s_lbin at h
  split at h
  · next y x r => exact lv_lsub hX.1 hX.2.1 hd (k lv _ M h H locs ls hP hS hl ho (List.forall_mem_cons.mpr ⟨trivial, (fun v hv => hs v (List.mem_cons_of_mem _ (List.mem_cons_of_mem _ hv)))⟩))
  · exact h.elim
theorem sd_lmul (hX : CX p s m args meth c nL cc own D ca ad A) (hd : decode cc pc = .ok (.lmul, 1)) (k : ∀ lv st M, κ lv st M → Gd p l e R s m args below meth c nL D ca ad A nc ns Qf (pc + 1) lv st M) : ∀ lv st M, s_lbin (fun x y => x * y) κ lv st M → Gd p l e R s m args below meth c nL D ca ad A nc ns Qf pc lv st M := by
  intro lv st M h H locs ls hP hS hl ho hs
  unfold s_lbin at h
  split at h
  · next y x r => exact lv_lmul hX.1 hX.2.1 hd (k lv _ M h H locs ls hP hS hl ho (List.forall_mem_cons.mpr ⟨trivial, (fun v hv => hs v (List.mem_cons_of_mem _ (List.mem_cons_of_mem _ hv)))⟩))
  · exact h.elim
theorem sd_land (hX : CX p s m args meth c nL cc own D ca ad A) (hd : decode cc pc = .ok (.land, 1)) (k : ∀ lv st M, κ lv st M → Gd p l e R s m args below meth c nL D ca ad A nc ns Qf (pc + 1) lv st M) : ∀ lv st M, s_lbin (fun x y => x &&& y) κ lv st M → Gd p l e R s m args below meth c nL D ca ad A nc ns Qf pc lv st M := by
  intro lv st M h H locs ls hP hS hl ho hs
  unfold s_lbin at h
  split at h
  · next y x r => exact lv_land hX.1 hX.2.1 hd (k lv _ M h H locs ls hP hS hl ho (List.forall_mem_cons.mpr ⟨trivial, (fun v hv => hs v (List.mem_cons_of_mem _ (List.mem_cons_of_mem _ hv)))⟩))
  · exact h.elim
theorem sd_lor (hX : CX p s m args meth c nL cc own D ca ad A) (hd : decode cc pc = .ok (.lor, 1)) (k : ∀ lv st M, κ lv st M → Gd p l e R s m args below meth c nL D ca ad A nc ns Qf (pc + 1) lv st M) : ∀ lv st M, s_lbin (fun x y => x ||| y) κ lv st M → Gd p l e R s m args below meth c nL D ca ad A nc ns Qf pc lv st M := by
  intro lv st M h H locs ls hP hS hl ho hs
  unfold s_lbin at h
  split at h
  · next y x r => exact lv_lor hX.1 hX.2.1 hd (k lv _ M h H locs ls hP hS hl ho (List.forall_mem_cons.mpr ⟨trivial, (fun v hv => hs v (List.mem_cons_of_mem _ (List.mem_cons_of_mem _ hv)))⟩))
  · exact h.elim
theorem sd_ldiv (hX : CX p s m args meth c nL cc own D ca ad A) (hd : decode cc pc = .ok (.ldiv, 1)) (k : ∀ lv st M, κ lv st M → Gd p l e R s m args below meth c nL D ca ad A nc ns Qf (pc + 1) lv st M) : ∀ lv st M, s_lbinG (fun x y => x / y) κ lv st M → Gd p l e R s m args below meth c nL D ca ad A nc ns Qf pc lv st M := by
  intro lv st M h H locs ls hP hS hl ho hs
  unfold s_lbinG at h
  split at h
  · next y x r => exact lv_ldiv hX.1 hX.2.1 hd h.1 (k lv _ M h.2 H locs ls hP hS hl ho (List.forall_mem_cons.mpr ⟨trivial, (fun v hv => hs v (List.mem_cons_of_mem _ (List.mem_cons_of_mem _ hv)))⟩))
  · exact h.elim
theorem sd_lrem (hX : CX p s m args meth c nL cc own D ca ad A) (hd : decode cc pc = .ok (.lrem, 1)) (k : ∀ lv st M, κ lv st M → Gd p l e R s m args below meth c nL D ca ad A nc ns Qf (pc + 1) lv st M) : ∀ lv st M, s_lbinG (fun x y => x - x / y * y) κ lv st M → Gd p l e R s m args below meth c nL D ca ad A nc ns Qf pc lv st M := by
  intro lv st M h H locs ls hP hS hl ho hs
  unfold s_lbinG at h
  split at h
  · next y x r => exact lv_lrem hX.1 hX.2.1 hd h.1 (k lv _ M h.2 H locs ls hP hS hl ho (List.forall_mem_cons.mpr ⟨trivial, (fun v hv => hs v (List.mem_cons_of_mem _ (List.mem_cons_of_mem _ hv)))⟩))
  · exact h.elim
theorem sd_lshl (hX : CX p s m args meth c nL cc own D ca ad A) (hd : decode cc pc = .ok (.lshl, 1)) (k : ∀ lv st M, κ lv st M → Gd p l e R s m args below meth c nL D ca ad A nc ns Qf (pc + 1) lv st M) : ∀ lv st M, s_lsh (fun x y => x <<< (y.toInt64 &&& 63)) κ lv st M → Gd p l e R s m args below meth c nL D ca ad A nc ns Qf pc lv st M := by
  intro lv st M h H locs ls hP hS hl ho hs
  unfold s_lsh at h
  split at h
  · next y x r => exact lv_lshl hX.1 hX.2.1 hd rfl (k lv _ M h H locs ls hP hS hl ho (List.forall_mem_cons.mpr ⟨trivial, (fun v hv => hs v (List.mem_cons_of_mem _ (List.mem_cons_of_mem _ hv)))⟩))
  · exact h.elim
theorem sd_lushr (hX : CX p s m args meth c nL cc own D ca ad A) (hd : decode cc pc = .ok (.lushr, 1)) (k : ∀ lv st M, κ lv st M → Gd p l e R s m args below meth c nL D ca ad A nc ns Qf (pc + 1) lv st M) : ∀ lv st M, s_lsh (fun x y => (x.toUInt64 >>> (y.toInt64.toUInt64 &&& Int64.toUInt64 63)).toInt64) κ lv st M → Gd p l e R s m args below meth c nL D ca ad A nc ns Qf pc lv st M := by
  intro lv st M h H locs ls hP hS hl ho hs
  unfold s_lsh at h
  split at h
  · next y x r => exact lv_lushr hX.1 hX.2.1 hd rfl (k lv _ M h H locs ls hP hS hl ho (List.forall_mem_cons.mpr ⟨trivial, (fun v hv => hs v (List.mem_cons_of_mem _ (List.mem_cons_of_mem _ hv)))⟩))
  · exact h.elim
theorem sd_lcmp (hX : CX p s m args meth c nL cc own D ca ad A) (hd : decode cc pc = .ok (.lcmp, 1)) (k : ∀ lv st M, κ lv st M → Gd p l e R s m args below meth c nL D ca ad A nc ns Qf (pc + 1) lv st M) : ∀ lv st M, s_lcmp κ lv st M → Gd p l e R s m args below meth c nL D ca ad A nc ns Qf pc lv st M := by
  intro lv st M h H locs ls hP hS hl ho hs
  unfold s_lcmp at h
  split at h
  · next y x r => exact W.lcmp hX.1 hX.2.1 hd (k lv _ M h H locs ls hP hS hl ho (List.forall_mem_cons.mpr ⟨trivial, (fun v hv => hs v (List.mem_cons_of_mem _ (List.mem_cons_of_mem _ hv)))⟩))
  · exact h.elim
theorem sd_i2l (hX : CX p s m args meth c nL cc own D ca ad A) (hd : decode cc pc = .ok (.i2l, 1)) (k : ∀ lv st M, κ lv st M → Gd p l e R s m args below meth c nL D ca ad A nc ns Qf (pc + 1) lv st M) : ∀ lv st M, s_i2l κ lv st M → Gd p l e R s m args below meth c nL D ca ad A nc ns Qf pc lv st M := by
  intro lv st M h H locs ls hP hS hl ho hs
  unfold s_i2l at h
  split at h
  · next x r => exact lv_i2l hX.1 hX.2.1 hd rfl (k lv _ M h H locs ls hP hS hl ho (List.forall_mem_cons.mpr ⟨trivial, (fun v hv => hs v (List.mem_cons_of_mem _ hv))⟩))
  · exact h.elim
theorem sd_l2i (hX : CX p s m args meth c nL cc own D ca ad A) (hd : decode cc pc = .ok (.l2i, 1)) (k : ∀ lv st M, κ lv st M → Gd p l e R s m args below meth c nL D ca ad A nc ns Qf (pc + 1) lv st M) : ∀ lv st M, s_l2i κ lv st M → Gd p l e R s m args below meth c nL D ca ad A nc ns Qf pc lv st M := by
  intro lv st M h H locs ls hP hS hl ho hs
  unfold s_l2i at h
  split at h
  · next x r => exact lv_l2i hX.1 hX.2.1 hd rfl (k lv _ M h H locs ls hP hS hl ho (List.forall_mem_cons.mpr ⟨trivial, (fun v hv => hs v (List.mem_cons_of_mem _ hv))⟩))
  · exact h.elim
theorem c1_cat {v : mV} (h : c1 v) : (en ad v).category = 1 := by
  rcases v with x | x | q
  · rfl
  · exact h.elim
  · rfl
theorem sd_dup (hX : CX p s m args meth c nL cc own D ca ad A) (hd : decode cc pc = .ok (.dup, 1)) (k : ∀ lv st M, κ lv st M → Gd p l e R s m args below meth c nL D ca ad A nc ns Qf (pc + 1) lv st M) : ∀ lv st M, s_dup κ lv st M → Gd p l e R s m args below meth c nL D ca ad A nc ns Qf pc lv st M := by
  intro lv st M h H locs ls hP hS hl ho hs
  unfold s_dup at h
  split at h
  · next v r => exact lv_dup hX.1 hX.2.1 hd (c1_cat h.1) (k lv _ M h.2 H locs ls hP hS hl ho (List.forall_mem_cons.mpr ⟨hs _ List.mem_cons_self, hs⟩))
  · exact h.elim
theorem sd_dup2 (hX : CX p s m args meth c nL cc own D ca ad A) (hd : decode cc pc = .ok (.dup2, 1)) (k : ∀ lv st M, κ lv st M → Gd p l e R s m args below meth c nL D ca ad A nc ns Qf (pc + 1) lv st M) : ∀ lv st M, s_dup2 κ lv st M → Gd p l e R s m args below meth c nL D ca ad A nc ns Qf pc lv st M := by
  intro lv st M h H locs ls hP hS hl ho hs
  unfold s_dup2 at h
  split at h
  · next v w r => exact lv_dup2_11 hX.1 hX.2.1 hd (c1_cat h.1.1) (c1_cat h.1.2) (k lv _ M h.2 H locs ls hP hS hl ho (List.forall_mem_cons.mpr ⟨hs _ List.mem_cons_self, (List.forall_mem_cons.mpr ⟨hs _ (List.mem_cons_of_mem _ List.mem_cons_self), hs⟩)⟩))
  · exact h.elim
theorem sd_pop (hX : CX p s m args meth c nL cc own D ca ad A) (hd : decode cc pc = .ok (.pop, 1)) (k : ∀ lv st M, κ lv st M → Gd p l e R s m args below meth c nL D ca ad A nc ns Qf (pc + 1) lv st M) : ∀ lv st M, s_pop κ lv st M → Gd p l e R s m args below meth c nL D ca ad A nc ns Qf pc lv st M := by
  intro lv st M h H locs ls hP hS hl ho hs
  unfold s_pop at h
  split at h
  · next v r => exact lv_pop hX.1 hX.2.1 hd (c1_cat h.1) (k lv _ M h.2 H locs ls hP hS hl ho (fun v hv => hs v (List.mem_cons_of_mem _ hv)))
  · exact h.elim
theorem sd_if_eq (hX : CX p s m args meth c nL cc own D ca ad A) {off : Int} {tgt : Nat} (hd : decode cc pc = .ok (.ifCond .eq off, 3)) (ht : (pc : Int) + off = (tgt : Int)) (kt : ∀ lv st M, κt lv st M → Gd p l e R s m args below meth c nL D ca ad A nc ns Qf tgt lv st M) (kf : ∀ lv st M, κf lv st M → Gd p l e R s m args below meth c nL D ca ad A nc ns Qf (pc + 3) lv st M) : ∀ lv st M, s_if (fun x => x = 0) κt κf lv st M → Gd p l e R s m args below meth c nL D ca ad A nc ns Qf pc lv st M := by
  intro lv st M h H locs ls hP hS hl ho hs
  unfold s_if at h
  split at h
  · next x r => exact lv_if_eq hX.1 hX.2.1 hd ht (fun g => kt lv _ M (h.1 g) H locs ls hP hS hl ho (fun v hv => hs v (List.mem_cons_of_mem _ hv))) (fun g => kf lv _ M (h.2 g) H locs ls hP hS hl ho (fun v hv => hs v (List.mem_cons_of_mem _ hv)))
  · exact h.elim
theorem sd_if_lt (hX : CX p s m args meth c nL cc own D ca ad A) {off : Int} {tgt : Nat} (hd : decode cc pc = .ok (.ifCond .lt off, 3)) (ht : (pc : Int) + off = (tgt : Int)) (kt : ∀ lv st M, κt lv st M → Gd p l e R s m args below meth c nL D ca ad A nc ns Qf tgt lv st M) (kf : ∀ lv st M, κf lv st M → Gd p l e R s m args below meth c nL D ca ad A nc ns Qf (pc + 3) lv st M) : ∀ lv st M, s_if (fun x => x < 0) κt κf lv st M → Gd p l e R s m args below meth c nL D ca ad A nc ns Qf pc lv st M := by
  intro lv st M h H locs ls hP hS hl ho hs
  unfold s_if at h
  split at h
  · next x r => exact lv_if_lt hX.1 hX.2.1 hd ht (fun g => kt lv _ M (h.1 g) H locs ls hP hS hl ho (fun v hv => hs v (List.mem_cons_of_mem _ hv))) (fun g => kf lv _ M (h.2 g) H locs ls hP hS hl ho (fun v hv => hs v (List.mem_cons_of_mem _ hv)))
  · exact h.elim
theorem sd_if_ge (hX : CX p s m args meth c nL cc own D ca ad A) {off : Int} {tgt : Nat} (hd : decode cc pc = .ok (.ifCond .ge off, 3)) (ht : (pc : Int) + off = (tgt : Int)) (kt : ∀ lv st M, κt lv st M → Gd p l e R s m args below meth c nL D ca ad A nc ns Qf tgt lv st M) (kf : ∀ lv st M, κf lv st M → Gd p l e R s m args below meth c nL D ca ad A nc ns Qf (pc + 3) lv st M) : ∀ lv st M, s_if (fun x => 0 ≤ x) κt κf lv st M → Gd p l e R s m args below meth c nL D ca ad A nc ns Qf pc lv st M := by
  intro lv st M h H locs ls hP hS hl ho hs
  unfold s_if at h
  split at h
  · next x r => exact lv_if_ge hX.1 hX.2.1 hd ht (fun g => kt lv _ M (h.1 g) H locs ls hP hS hl ho (fun v hv => hs v (List.mem_cons_of_mem _ hv))) (fun g => kf lv _ M (h.2 g) H locs ls hP hS hl ho (fun v hv => hs v (List.mem_cons_of_mem _ hv)))
  · exact h.elim
theorem sd_if_gt (hX : CX p s m args meth c nL cc own D ca ad A) {off : Int} {tgt : Nat} (hd : decode cc pc = .ok (.ifCond .gt off, 3)) (ht : (pc : Int) + off = (tgt : Int)) (kt : ∀ lv st M, κt lv st M → Gd p l e R s m args below meth c nL D ca ad A nc ns Qf tgt lv st M) (kf : ∀ lv st M, κf lv st M → Gd p l e R s m args below meth c nL D ca ad A nc ns Qf (pc + 3) lv st M) : ∀ lv st M, s_if (fun x => 0 < x) κt κf lv st M → Gd p l e R s m args below meth c nL D ca ad A nc ns Qf pc lv st M := by
  intro lv st M h H locs ls hP hS hl ho hs
  unfold s_if at h
  split at h
  · next x r => exact lv_if_gt hX.1 hX.2.1 hd ht (fun g => kt lv _ M (h.1 g) H locs ls hP hS hl ho (fun v hv => hs v (List.mem_cons_of_mem _ hv))) (fun g => kf lv _ M (h.2 g) H locs ls hP hS hl ho (fun v hv => hs v (List.mem_cons_of_mem _ hv)))
  · exact h.elim
theorem sd_if_le (hX : CX p s m args meth c nL cc own D ca ad A) {off : Int} {tgt : Nat} (hd : decode cc pc = .ok (.ifCond .le off, 3)) (ht : (pc : Int) + off = (tgt : Int)) (kt : ∀ lv st M, κt lv st M → Gd p l e R s m args below meth c nL D ca ad A nc ns Qf tgt lv st M) (kf : ∀ lv st M, κf lv st M → Gd p l e R s m args below meth c nL D ca ad A nc ns Qf (pc + 3) lv st M) : ∀ lv st M, s_if (fun x => x ≤ 0) κt κf lv st M → Gd p l e R s m args below meth c nL D ca ad A nc ns Qf pc lv st M := by
  intro lv st M h H locs ls hP hS hl ho hs
  unfold s_if at h
  split at h
  · next x r => exact lv_if_le hX.1 hX.2.1 hd ht (fun g => kt lv _ M (h.1 g) H locs ls hP hS hl ho (fun v hv => hs v (List.mem_cons_of_mem _ hv))) (fun g => kf lv _ M (h.2 g) H locs ls hP hS hl ho (fun v hv => hs v (List.mem_cons_of_mem _ hv)))
  · exact h.elim
theorem sd_if_ne (hX : CX p s m args meth c nL cc own D ca ad A) {off : Int} {tgt : Nat} (hd : decode cc pc = .ok (.ifCond .ne off, 3)) (ht : (pc : Int) + off = (tgt : Int)) (kt : ∀ lv st M, κt lv st M → Gd p l e R s m args below meth c nL D ca ad A nc ns Qf tgt lv st M) (kf : ∀ lv st M, κf lv st M → Gd p l e R s m args below meth c nL D ca ad A nc ns Qf (pc + 3) lv st M) : ∀ lv st M, s_if (fun x => x = 0) κf κt lv st M → Gd p l e R s m args below meth c nL D ca ad A nc ns Qf pc lv st M := by
  intro lv st M h H locs ls hP hS hl ho hs
  unfold s_if at h
  split at h
  · next x r => exact lv_if_ne hX.1 hX.2.1 hd ht (fun g => kt lv _ M (h.2 g) H locs ls hP hS hl ho (fun v hv => hs v (List.mem_cons_of_mem _ hv))) (fun g => kf lv _ M (h.1 g) H locs ls hP hS hl ho (fun v hv => hs v (List.mem_cons_of_mem _ hv)))
  · exact h.elim
theorem sd_icmp_eq (hX : CX p s m args meth c nL cc own D ca ad A) {off : Int} {tgt : Nat} (hd : decode cc pc = .ok (.if_icmp .eq off, 3)) (ht : (pc : Int) + off = (tgt : Int)) (kt : ∀ lv st M, κt lv st M → Gd p l e R s m args below meth c nL D ca ad A nc ns Qf tgt lv st M) (kf : ∀ lv st M, κf lv st M → Gd p l e R s m args below meth c nL D ca ad A nc ns Qf (pc + 3) lv st M) : ∀ lv st M, s_icmp (fun x y => x = y) κt κf lv st M → Gd p l e R s m args below meth c nL D ca ad A nc ns Qf pc lv st M := by
  intro lv st M h H locs ls hP hS hl ho hs
  unfold s_icmp at h
  split at h
  · next y x r => exact lv_icmp_eq hX.1 hX.2.1 hd ht (fun g => kt lv _ M (h.1 g) H locs ls hP hS hl ho (fun v hv => hs v (List.mem_cons_of_mem _ (List.mem_cons_of_mem _ hv)))) (fun g => kf lv _ M (h.2 g) H locs ls hP hS hl ho (fun v hv => hs v (List.mem_cons_of_mem _ (List.mem_cons_of_mem _ hv))))
  · exact h.elim
theorem sd_icmp_lt (hX : CX p s m args meth c nL cc own D ca ad A) {off : Int} {tgt : Nat} (hd : decode cc pc = .ok (.if_icmp .lt off, 3)) (ht : (pc : Int) + off = (tgt : Int)) (kt : ∀ lv st M, κt lv st M → Gd p l e R s m args below meth c nL D ca ad A nc ns Qf tgt lv st M) (kf : ∀ lv st M, κf lv st M → Gd p l e R s m args below meth c nL D ca ad A nc ns Qf (pc + 3) lv st M) : ∀ lv st M, s_icmp (fun x y => x < y) κt κf lv st M → Gd p l e R s m args below meth c nL D ca ad A nc ns Qf pc lv st M := by
  intro lv st M h H locs ls hP hS hl ho hs
  unfold s_icmp at h
  split at h
  · next y x r => exact lv_icmp_lt hX.1 hX.2.1 hd ht (fun g => kt lv _ M (h.1 g) H locs ls hP hS hl ho (fun v hv => hs v (List.mem_cons_of_mem _ (List.mem_cons_of_mem _ hv)))) (fun g => kf lv _ M (h.2 g) H locs ls hP hS hl ho (fun v hv => hs v (List.mem_cons_of_mem _ (List.mem_cons_of_mem _ hv))))
  · exact h.elim
theorem sd_icmp_ge (hX : CX p s m args meth c nL cc own D ca ad A) {off : Int} {tgt : Nat} (hd : decode cc pc = .ok (.if_icmp .ge off, 3)) (ht : (pc : Int) + off = (tgt : Int)) (kt : ∀ lv st M, κt lv st M → Gd p l e R s m args below meth c nL D ca ad A nc ns Qf tgt lv st M) (kf : ∀ lv st M, κf lv st M → Gd p l e R s m args below meth c nL D ca ad A nc ns Qf (pc + 3) lv st M) : ∀ lv st M, s_icmp (fun x y => y ≤ x) κt κf lv st M → Gd p l e R s m args below meth c nL D ca ad A nc ns Qf pc lv st M := by
  intro lv st M h H locs ls hP hS hl ho hs
  unfold s_icmp at h
  split at h
  · next y x r => exact lv_icmp_ge hX.1 hX.2.1 hd ht (fun g => kt lv _ M (h.1 g) H locs ls hP hS hl ho (fun v hv => hs v (List.mem_cons_of_mem _ (List.mem_cons_of_mem _ hv)))) (fun g => kf lv _ M (h.2 g) H locs ls hP hS hl ho (fun v hv => hs v (List.mem_cons_of_mem _ (List.mem_cons_of_mem _ hv))))
  · exact h.elim
theorem sd_icmp_gt (hX : CX p s m args meth c nL cc own D ca ad A) {off : Int} {tgt : Nat} (hd : decode cc pc = .ok (.if_icmp .gt off, 3)) (ht : (pc : Int) + off = (tgt : Int)) (kt : ∀ lv st M, κt lv st M → Gd p l e R s m args below meth c nL D ca ad A nc ns Qf tgt lv st M) (kf : ∀ lv st M, κf lv st M → Gd p l e R s m args below meth c nL D ca ad A nc ns Qf (pc + 3) lv st M) : ∀ lv st M, s_icmp (fun x y => y < x) κt κf lv st M → Gd p l e R s m args below meth c nL D ca ad A nc ns Qf pc lv st M := by
  intro lv st M h H locs ls hP hS hl ho hs
  unfold s_icmp at h
  split at h
  · next y x r => exact lv_icmp_gt hX.1 hX.2.1 hd ht (fun g => kt lv _ M (h.1 g) H locs ls hP hS hl ho (fun v hv => hs v (List.mem_cons_of_mem _ (List.mem_cons_of_mem _ hv)))) (fun g => kf lv _ M (h.2 g) H locs ls hP hS hl ho (fun v hv => hs v (List.mem_cons_of_mem _ (List.mem_cons_of_mem _ hv))))
  · exact h.elim
theorem sd_icmp_le (hX : CX p s m args meth c nL cc own D ca ad A) {off : Int} {tgt : Nat} (hd : decode cc pc = .ok (.if_icmp .le off, 3)) (ht : (pc : Int) + off = (tgt : Int)) (kt : ∀ lv st M, κt lv st M → Gd p l e R s m args below meth c nL D ca ad A nc ns Qf tgt lv st M) (kf : ∀ lv st M, κf lv st M → Gd p l e R s m args below meth c nL D ca ad A nc ns Qf (pc + 3) lv st M) : ∀ lv st M, s_icmp (fun x y => x ≤ y) κt κf lv st M → Gd p l e R s m args below meth c nL D ca ad A nc ns Qf pc lv st M := by
  intro lv st M h H locs ls hP hS hl ho hs
  unfold s_icmp at h
  split at h
  · next y x r => exact lv_icmp_le hX.1 hX.2.1 hd ht (fun g => kt lv _ M (h.1 g) H locs ls hP hS hl ho (fun v hv => hs v (List.mem_cons_of_mem _ (List.mem_cons_of_mem _ hv)))) (fun g => kf lv _ M (h.2 g) H locs ls hP hS hl ho (fun v hv => hs v (List.mem_cons_of_mem _ (List.mem_cons_of_mem _ hv))))
  · exact h.elim
theorem sd_icmp_ne (hX : CX p s m args meth c nL cc own D ca ad A) {off : Int} {tgt : Nat} (hd : decode cc pc = .ok (.if_icmp .ne off, 3)) (ht : (pc : Int) + off = (tgt : Int)) (kt : ∀ lv st M, κt lv st M → Gd p l e R s m args below meth c nL D ca ad A nc ns Qf tgt lv st M) (kf : ∀ lv st M, κf lv st M → Gd p l e R s m args below meth c nL D ca ad A nc ns Qf (pc + 3) lv st M) : ∀ lv st M, s_icmp (fun x y => x = y) κf κt lv st M → Gd p l e R s m args below meth c nL D ca ad A nc ns Qf pc lv st M := by
  intro lv st M h H locs ls hP hS hl ho hs
  unfold s_icmp at h
  split at h
  · next y x r => exact lv_icmp_ne hX.1 hX.2.1 hd ht (fun g => kt lv _ M (h.2 g) H locs ls hP hS hl ho (fun v hv => hs v (List.mem_cons_of_mem _ (List.mem_cons_of_mem _ hv)))) (fun g => kf lv _ M (h.1 g) H locs ls hP hS hl ho (fun v hv => hs v (List.mem_cons_of_mem _ (List.mem_cons_of_mem _ hv))))
  · exact h.elim
theorem sd_goto (hX : CX p s m args meth c nL cc own D ca ad A) {off : Int} {tgt : Nat} (hd : decode cc pc = .ok (.goto off, 3)) (ht : (pc : Int) + off = (tgt : Int)) (k : ∀ lv st M, κ lv st M → Gd p l e R s m args below meth c nL D ca ad A nc ns Qf tgt lv st M) : ∀ lv st M, κ lv st M → Gd p l e R s m args below meth c nL D ca ad A nc ns Qf pc lv st M := fun lv st M h H locs ls hP hS hl ho hs => lv_goto hX.1 hX.2.1 hd ht (k lv st M h H locs ls hP hS hl ho hs)
-- fields
theorem okU : ∀ k, k < 178 → kof k = 16 → ∀ i, i < ln k → kof (k + 1 + i) = 10 := by decide +kernel
theorem okS : ∀ k, k < 178 → kof k = 15 → ∀ i, i < ln k → kof (k + 1 + 7 * i) = 8 := by decide +kernel
theorem okA : ∀ k, k < 178 → kof k = 8 → kof (k + 1) = 16 := by decide +kernel
theorem sd_geti (hX : CX p s m args meth c nL cc own D ca ad A) {idx kd j ty : Nat} (hf : FLk own idx kd j ty) (hty : ty ≤ 1) (hd : decode cc pc = .ok (.getfield idx, 3)) (k : ∀ lv st M, κ lv st M → Gd p l e R s m args below meth c nL D ca ad A nc ns Qf (pc + 3) lv st M) : ∀ lv st M, s_geti kd j κ lv st M → Gd p l e R s m args below meth c nL D ca ad A nc ns Qf pc lv st M := by
  intro lv st M h H locs ls hP hS hl ho hs
  unfold s_geti at h
  split at h
  · next k2 k0 r =>
    obtain ⟨rfl, h⟩ := h
    obtain ⟨C, T, N, hc, hin, hj, hlk, h13, ht⟩ := hf
    have hk : kof k0 = k2 := hs _ List.mem_cons_self
    exact va_get (D := D) (ws := wo ca ad M) hX.1 hX.2.1 hX.2.2.2.2.1 hin hX.2.2.2.1 hX.2.2.2.2.2.1 hP k0 ((wo_get (kof_lt (by omega))).trans (by rw [sh_obj hk h13])) hc j hj (hX.2.2.2.2.1 _ hlk) (fun _ h => h) ((fs_at ht).trans (by rw [fV, if_pos hty]; rfl)) hd (k lv (.inl (M.1 k0 j) :: r) M h H locs ls hP hS hl ho (List.forall_mem_cons.mpr ⟨trivial, (fun v hv => hs v (List.mem_cons_of_mem _ hv))⟩))
  · exact h.elim
theorem sd_getl (hX : CX p s m args meth c nL cc own D ca ad A) {idx kd j : Nat} (hf : FLk own idx kd j 2) (hd : decode cc pc = .ok (.getfield idx, 3)) (k : ∀ lv st M, κ lv st M → Gd p l e R s m args below meth c nL D ca ad A nc ns Qf (pc + 3) lv st M) : ∀ lv st M, s_getl kd κ lv st M → Gd p l e R s m args below meth c nL D ca ad A nc ns Qf pc lv st M := by
  intro lv st M h H locs ls hP hS hl ho hs
  unfold s_getl at h
  split at h
  · next k2 k0 r =>
    obtain ⟨rfl, h⟩ := h
    obtain ⟨C, T, N, hc, hin, hj, hlk, h13, ht⟩ := hf
    have hk : kof k0 = k2 := hs _ List.mem_cons_self
    exact va_get (D := D) (ws := wo ca ad M) hX.1 hX.2.1 hX.2.2.2.2.1 hin hX.2.2.2.1 hX.2.2.2.2.2.1 hP k0 ((wo_get (kof_lt (by omega))).trans (by rw [sh_obj hk h13])) hc j hj (hX.2.2.2.2.1 _ hlk) (fun _ h => h) ((fs_at ht).trans (by rw [fV, if_neg (by decide), if_pos rfl]; rfl)) hd (k lv (.inr (.inl (M.2 k0)) :: r) M h H locs ls hP hS hl ho (List.forall_mem_cons.mpr ⟨trivial, (fun v hv => hs v (List.mem_cons_of_mem _ hv))⟩))
  · exact h.elim
theorem sd_getr (hX : CX p s m args meth c nL cc own D ca ad A) {idx kd j kt : Nat} {f : Nat → Nat} (hf : FLk own idx kd j (3 + kt)) (hT : ∀ k, tg kd j k = f k) (hO : ∀ k, k < 178 → kof k = kd → kof (f k) = kt) (hd : decode cc pc = .ok (.getfield idx, 3)) (k : ∀ lv st M, κ lv st M → Gd p l e R s m args below meth c nL D ca ad A nc ns Qf (pc + 3) lv st M) : ∀ lv st M, s_getr kd kt f κ lv st M → Gd p l e R s m args below meth c nL D ca ad A nc ns Qf pc lv st M := by
  intro lv st M h H locs ls hP hS hl ho hs
  unfold s_getr at h
  split at h
  · next k2 k0 r =>
    obtain ⟨rfl, h⟩ := h
    obtain ⟨C, T, N, hc, hin, hj, hlk, h13, ht⟩ := hf
    have hk : kof k0 = k2 := hs _ List.mem_cons_self
    have hlt : k0 < 178 := kof_lt (by omega)
    exact va_get (D := D) (ws := wo ca ad M) hX.1 hX.2.1 hX.2.2.2.2.1 hin hX.2.2.2.1 hX.2.2.2.2.2.1 hP k0 ((wo_get hlt).trans (by rw [sh_obj hk h13])) hc j hj (hX.2.2.2.2.1 _ hlk) (fun _ h => h) ((fs_at ht).trans (by rw [fV, if_neg (by omega), if_neg (by omega), hT]; rfl)) hd (k lv (.inr (.inr (kt, f k0)) :: r) M h H locs ls hP hS hl ho (List.forall_mem_cons.mpr ⟨hO k0 hlt hk, (fun v hv => hs v (List.mem_cons_of_mem _ hv))⟩))
  · exact h.elim
theorem sd_puti (hX : CX p s m args meth c nL cc own D ca ad A) {idx kd j : Nat} (hf : FPk own idx kd j 0 .int) (hd : decode cc pc = .ok (.putfield idx, 3)) (k : ∀ lv st M, κ lv st M → Gd p l e R s m args below meth c nL D ca ad A nc ns Qf (pc + 3) lv st M) : ∀ lv st M, s_puti kd j κ lv st M → Gd p l e R s m args below meth c nL D ca ad A nc ns Qf pc lv st M := by
  intro lv st M h H locs ls hP hS hl ho hs
  unfold s_puti at h
  split at h
  · next v k2 k0 r =>
    obtain ⟨rfl, h⟩ := h
    obtain ⟨C, T, N, ty0, hc, hin, hj, hlk, h13, ht, hty, hnm, hfin, hpd⟩ := hf
    have hk : kof k0 = k2 := hs _ (List.mem_cons_of_mem _ List.mem_cons_self)
    have hlt : k0 < 178 := kof_lt (by omega)
    have e : (wo ca ad M).set k0 (ad k0, .inr (k2, ((fTL.getD k2 []).mapIdx (fun j ty => fV ad (M.1 k0) (M.2 k0) k0 k2 j ty)).set j (.int v))) = wo ca ad (mset M k0 j v) := wo_set hlt (by rw [mset_1, mset_2, sh_obj hk h13, fs_set ht (by decide)]) (fun i hi => mset_n hi) (fun _ _ => rfl)
    refine va_put (D := D) (ws := wo ca ad M) hX.1 hX.2.1 hX.2.2.2.2.1 hin ty0 hty hnm hX.2.2.2.1 hX.2.2.2.2.2.1 hP (hX.2.2.2.2.2.2.1 M) hS k0 ((wo_get hlt).trans (by rw [sh_obj hk h13])) hc j hj (hX.2.2.2.2.1 _ hlk) (fun _ h => h) hfin hpd (v := .int v) rfl rfl (by simpa using (List.getElem?_eq_some_iff.mp ht).1) hd fun H1 locs1 hP1 _ hS1 => ?_
    rw [e] at hP1
    exact k lv r (mset M k0 j v) h H1 locs1 ls hP1 hS1 hl ho (fun v hv => hs v (List.mem_cons_of_mem _ (List.mem_cons_of_mem _ hv)))
  · exact h.elim
theorem sd_putz (hX : CX p s m args meth c nL cc own D ca ad A) {idx kd j : Nat} (hf : FPk own idx kd j 1 .boolean) (hd : decode cc pc = .ok (.putfield idx, 3)) (k : ∀ lv st M, κ lv st M → Gd p l e R s m args below meth c nL D ca ad A nc ns Qf (pc + 3) lv st M) : ∀ lv st M, s_putz kd j κ lv st M → Gd p l e R s m args below meth c nL D ca ad A nc ns Qf pc lv st M := by
  intro lv st M h H locs ls hP hS hl ho hs
  unfold s_putz at h
  split at h
  · next v k2 k0 r =>
    obtain ⟨rfl, hv, h⟩ := h
    obtain ⟨C, T, N, ty0, hc, hin, hj, hlk, h13, ht, hty, hnm, hfin, hpd⟩ := hf
    have hk : kof k0 = k2 := hs _ (List.mem_cons_of_mem _ List.mem_cons_self)
    have hlt : k0 < 178 := kof_lt (by omega)
    have e : (wo ca ad M).set k0 (ad k0, .inr (k2, ((fTL.getD k2 []).mapIdx (fun j ty => fV ad (M.1 k0) (M.2 k0) k0 k2 j ty)).set j (.int v))) = wo ca ad (mset M k0 j v) := wo_set hlt (by rw [mset_1, mset_2, sh_obj hk h13, fs_set ht (by decide)]) (fun i hi => mset_n hi) (fun _ _ => rfl)
    refine va_put (D := D) (ws := wo ca ad M) hX.1 hX.2.1 hX.2.2.2.2.1 hin ty0 hty hnm hX.2.2.2.1 hX.2.2.2.2.2.1 hP (hX.2.2.2.2.2.2.1 M) hS k0 ((wo_get hlt).trans (by rw [sh_obj hk h13])) hc j hj (hX.2.2.2.2.1 _ hlk) (fun _ h => h) hfin hpd (v := .int v) (by rcases hv with rfl | rfl <;> rfl) (by rcases hv with rfl | rfl <;> rfl) (by simpa using (List.getElem?_eq_some_iff.mp ht).1) hd fun H1 locs1 hP1 _ hS1 => ?_
    rw [e] at hP1
    exact k lv r (mset M k0 j v) h H1 locs1 ls hP1 hS1 hl ho (fun v hv => hs v (List.mem_cons_of_mem _ (List.mem_cons_of_mem _ hv)))
  · exact h.elim
theorem sd_putl (hX : CX p s m args meth c nL cc own D ca ad A) {idx kd j : Nat} (hf : FPk own idx kd j 2 .long) (h1L : ∀ i, i ≠ j → (fTL.getD kd [])[i]? ≠ some 2) (hd : decode cc pc = .ok (.putfield idx, 3)) (k : ∀ lv st M, κ lv st M → Gd p l e R s m args below meth c nL D ca ad A nc ns Qf (pc + 3) lv st M) : ∀ lv st M, s_putl kd κ lv st M → Gd p l e R s m args below meth c nL D ca ad A nc ns Qf pc lv st M := by
  intro lv st M h H locs ls hP hS hl ho hs
  unfold s_putl at h
  split at h
  · next v k2 k0 r =>
    obtain ⟨rfl, h⟩ := h
    obtain ⟨C, T, N, ty0, hc, hin, hj, hlk, h13, ht, hty, hnm, hfin, hpd⟩ := hf
    have hk : kof k0 = k2 := hs _ (List.mem_cons_of_mem _ List.mem_cons_self)
    have hlt : k0 < 178 := kof_lt (by omega)
    have e : (wo ca ad M).set k0 (ad k0, .inr (k2, ((fTL.getD k2 []).mapIdx (fun j ty => fV ad (M.1 k0) (M.2 k0) k0 k2 j ty)).set j (.long v))) = wo ca ad (lset M k0 v) := wo_set hlt (by rw [lset_1, lset_2, if_pos rfl, sh_obj hk h13, fs_setL ht h1L]) (fun _ _ => rfl) (fun i hi => by rw [lset_2, if_neg hi])
    refine va_put (D := D) (ws := wo ca ad M) hX.1 hX.2.1 hX.2.2.2.2.1 hin ty0 hty hnm hX.2.2.2.1 hX.2.2.2.2.2.1 hP (hX.2.2.2.2.2.2.1 M) hS k0 ((wo_get hlt).trans (by rw [sh_obj hk h13])) hc j hj (hX.2.2.2.2.1 _ hlk) (fun _ h => h) hfin hpd (v := .long v) rfl rfl (by simpa using (List.getElem?_eq_some_iff.mp ht).1) hd fun H1 locs1 hP1 _ hS1 => ?_
    rw [e] at hP1
    exact k lv r (lset M k0 v) h H1 locs1 ls hP1 hS1 hl ho (fun v hv => hs v (List.mem_cons_of_mem _ (List.mem_cons_of_mem _ hv)))
  · exact h.elim
-- arrays
theorem sd_iald (hX : CX p s m args meth c nL cc own D ca ad A) (hd : decode cc pc = .ok (.iaload, 1)) (k : ∀ lv st M, κ lv st M → Gd p l e R s m args below meth c nL D ca ad A nc ns Qf (pc + 1) lv st M) : ∀ lv st M, s_iald κ lv st M → Gd p l e R s m args below meth c nL D ca ad A nc ns Qf pc lv st M := by
  intro lv st M h H locs ls hP hS hl ho hs
  unfold s_iald at h
  split at h
  · next i k2 k0 r =>
    obtain ⟨rfl, hi, h⟩ := h
    have hk : kof k0 = 13 := hs _ (List.mem_cons_of_mem _ List.mem_cons_self)
    exact va_iald (D := D) (ws := wo ca ad M) hX.1 hX.2.1 hX.2.2.2.2.2.1 hP k0 0 ((wo_get (kof_lt (by omega))).trans (by rw [sh_13 hk])) rfl hi hd (k lv (.inl (M.1 k0 i.toNatClampNeg) :: r) M h H locs ls hP hS hl ho (List.forall_mem_cons.mpr ⟨trivial, (fun v hv => hs v (List.mem_cons_of_mem _ (List.mem_cons_of_mem _ hv)))⟩))
  · exact h.elim
theorem sd_zald (hX : CX p s m args meth c nL cc own D ca ad A) (hd : decode cc pc = .ok (.baload, 1)) (k : ∀ lv st M, κ lv st M → Gd p l e R s m args below meth c nL D ca ad A nc ns Qf (pc + 1) lv st M) : ∀ lv st M, s_zald κ lv st M → Gd p l e R s m args below meth c nL D ca ad A nc ns Qf pc lv st M := by
  intro lv st M h H locs ls hP hS hl ho hs
  unfold s_zald at h
  split at h
  · next i k2 k0 r =>
    obtain ⟨rfl, hi, h⟩ := h
    have hk : kof k0 = 14 := hs _ (List.mem_cons_of_mem _ List.mem_cons_self)
    exact va_zald (D := D) (ws := wo ca ad M) hX.1 hX.2.1 hX.2.2.2.2.2.1 hP k0 1 ((wo_get (kof_lt (by omega))).trans (by rw [sh_14 hk])) rfl hi hd (k lv (.inl (M.1 k0 i.toNatClampNeg) :: r) M h H locs ls hP hS hl ho (List.forall_mem_cons.mpr ⟨trivial, (fun v hv => hs v (List.mem_cons_of_mem _ (List.mem_cons_of_mem _ hv)))⟩))
  · exact h.elim
theorem sd_iast (hX : CX p s m args meth c nL cc own D ca ad A) (hd : decode cc pc = .ok (.iastore, 1)) (k : ∀ lv st M, κ lv st M → Gd p l e R s m args below meth c nL D ca ad A nc ns Qf (pc + 1) lv st M) : ∀ lv st M, s_iast κ lv st M → Gd p l e R s m args below meth c nL D ca ad A nc ns Qf pc lv st M := by
  intro lv st M h H locs ls hP hS hl ho hs
  unfold s_iast at h
  split at h
  · next x i k2 k0 r =>
    obtain ⟨rfl, hi, h⟩ := h
    have hk : kof k0 = 13 := hs _ (List.mem_cons_of_mem _ (List.mem_cons_of_mem _ List.mem_cons_self))
    have hlt : k0 < 178 := kof_lt (by omega)
    have e : (wo ca ad M).set k0 (ad k0, .inl (ca 0, ln k0, .inl (upd (M.1 k0) i.toNatClampNeg x))) = wo ca ad (mset M k0 i.toNatClampNeg x) := wo_set hlt (by rw [mset_1, mset_2, sh_13 hk]) (fun i hi => mset_n hi) (fun _ _ => rfl)
    refine va_iast (D := D) (ws := wo ca ad M) hX.1 hX.2.1 hX.2.2.2.2.2.1 hP (hX.2.2.2.2.2.2.1 M) hS k0 0 ((wo_get hlt).trans (by rw [sh_13 hk])) rfl hi hd fun H1 locs1 hP1 _ hS1 => ?_
    rw [e] at hP1
    exact k lv r _ h H1 locs1 ls hP1 hS1 hl ho (fun v hv => hs v (List.mem_cons_of_mem _ (List.mem_cons_of_mem _ (List.mem_cons_of_mem _ hv))))
  · exact h.elim
theorem sd_zast (hX : CX p s m args meth c nL cc own D ca ad A) (hd : decode cc pc = .ok (.bastore, 1)) (k : ∀ lv st M, κ lv st M → Gd p l e R s m args below meth c nL D ca ad A nc ns Qf (pc + 1) lv st M) : ∀ lv st M, s_zast κ lv st M → Gd p l e R s m args below meth c nL D ca ad A nc ns Qf pc lv st M := by
  intro lv st M h H locs ls hP hS hl ho hs
  unfold s_zast at h
  split at h
  · next x i k2 k0 r =>
    obtain ⟨rfl, hi, h⟩ := h
    have hk : kof k0 = 14 := hs _ (List.mem_cons_of_mem _ (List.mem_cons_of_mem _ List.mem_cons_self))
    have hlt : k0 < 178 := kof_lt (by omega)
    have e : (wo ca ad M).set k0 (ad k0, .inl (ca 1, ln k0, .inl (upd (M.1 k0) i.toNatClampNeg (vp_nar .boolean x)))) = wo ca ad (mset M k0 i.toNatClampNeg (x &&& 1)) := wo_set hlt (by rw [mset_1, mset_2, sh_14 hk]; rfl) (fun i hi => mset_n hi) (fun _ _ => rfl)
    refine va_zast (D := D) (ws := wo ca ad M) hX.1 hX.2.1 hX.2.2.2.2.2.1 hP (hX.2.2.2.2.2.2.1 M) hS k0 1 ((wo_get hlt).trans (by rw [sh_14 hk])) rfl hi hd fun H1 locs1 hP1 _ hS1 => ?_
    rw [e] at hP1
    exact k lv r _ h H1 locs1 ls hP1 hS1 hl ho (fun v hv => hs v (List.mem_cons_of_mem _ (List.mem_cons_of_mem _ (List.mem_cons_of_mem _ hv))))
  · exact h.elim
theorem in_lt {i : Int32} {n : Nat} (h : vp_in i n) : i.toNatClampNeg < n := by
  unfold vp_in at h
  omega
theorem sd_aaldS (hX : CX p s m args meth c nL cc own D ca ad A) (hd : decode cc pc = .ok (.aaload, 1)) (k : ∀ lv st M, κ lv st M → Gd p l e R s m args below meth c nL D ca ad A nc ns Qf (pc + 1) lv st M) : ∀ lv st M, s_aaldS κ lv st M → Gd p l e R s m args below meth c nL D ca ad A nc ns Qf pc lv st M := by
  intro lv st M h H locs ls hP hS hl ho hs
  unfold s_aaldS at h
  split at h
  · next i k2 k0 r =>
    obtain ⟨rfl, hi, h⟩ := h
    have hk : kof k0 = 15 := hs _ (List.mem_cons_of_mem _ List.mem_cons_self)
    have hlt : k0 < 178 := kof_lt (by omega)
    refine va_aldq (D := D) (ws := wo ca ad M) hX.1 hX.2.1 hX.2.2.2.2.2.1 hP k0 2 ((wo_get hlt).trans (by rw [sh_15 hk])) rfl hi hd ?_
    rw [if_pos (in_lt hi)]
    exact k lv (.inr (.inr (8, k0 + 1 + 7 * i.toNatClampNeg)) :: r) M h H locs ls hP hS hl ho (List.forall_mem_cons.mpr ⟨okS k0 hlt hk _ (in_lt hi), (fun v hv => hs v (List.mem_cons_of_mem _ (List.mem_cons_of_mem _ hv)))⟩)
  · exact h.elim
theorem sd_aaldU (hX : CX p s m args meth c nL cc own D ca ad A) (hd : decode cc pc = .ok (.aaload, 1)) (k : ∀ lv st M, κ lv st M → Gd p l e R s m args below meth c nL D ca ad A nc ns Qf (pc + 1) lv st M) : ∀ lv st M, s_aaldU κ lv st M → Gd p l e R s m args below meth c nL D ca ad A nc ns Qf pc lv st M := by
  intro lv st M h H locs ls hP hS hl ho hs
  unfold s_aaldU at h
  split at h
  · next i k2 k0 r =>
    obtain ⟨rfl, hi, h⟩ := h
    have hk : kof k0 = 16 := hs _ (List.mem_cons_of_mem _ List.mem_cons_self)
    have hlt : k0 < 178 := kof_lt (by omega)
    refine va_aldq (D := D) (ws := wo ca ad M) hX.1 hX.2.1 hX.2.2.2.2.2.1 hP k0 3 ((wo_get hlt).trans (by rw [sh_16 hk])) rfl hi hd ?_
    rw [if_pos (in_lt hi)]
    exact k lv (.inr (.inr (10, k0 + 1 + i.toNatClampNeg)) :: r) M h H locs ls hP hS hl ho (List.forall_mem_cons.mpr ⟨okU k0 hlt hk _ (in_lt hi), (fun v hv => hs v (List.mem_cons_of_mem _ (List.mem_cons_of_mem _ hv)))⟩)
  · exact h.elim
theorem sd_gets (hX : CX p s m args meth c nL cc own D ca ad A) {idx : Nat} {host : String} (hw : Cond.fieldLinkNest own idx "FairBlocks" "FACTORIALS" "[I" host ∈ nwL) (hd : decode cc pc = .ok (.getstatic idx, 3)) (k : ∀ lv st M, κ lv st M → Gd p l e R s m args below meth c nL D ca ad A nc ns Qf (pc + 3) lv st M) : ∀ lv st M, s_gets κ lv st M → Gd p l e R s m args below meth c nL D ca ad A nc ns Qf pc lv st M := by
  intro lv st M h H locs ls hP hS hl ho hs
  exact va_getsN hX.1 hX.2.1 hX.2.2.2.2.2.2.2.1.1 hS hX.2.2.2.1 (va_Nw.use rfl (hX.2.2.2.2.2.2.2.2.1 _ hw)) (fun _ h => h) hd (k lv (.inr (.inr (17, 178)) :: st) M h H locs ls hP hS hl ho (List.forall_mem_cons.mpr ⟨(by decide +kernel : kof 178 = 17), hs⟩))
theorem sd_tald (hX : CX p s m args meth c nL cc own D ca ad A) (hd : decode cc pc = .ok (.iaload, 1)) (k : ∀ lv st M, κ lv st M → Gd p l e R s m args below meth c nL D ca ad A nc ns Qf (pc + 1) lv st M) : ∀ lv st M, s_tald κ lv st M → Gd p l e R s m args below meth c nL D ca ad A nc ns Qf pc lv st M := by
  intro lv st M h H locs ls hP hS hl ho hs
  unfold s_tald at h
  split at h
  · next i k2 k0 r =>
    obtain ⟨⟨rfl, rfl⟩, hi, h⟩ := h
    exact va_ti hX.1 hX.2.1 hX.2.2.2.2.2.2.2.1.2 hS hi rfl hd (k lv (.inl (fcF i.toNatClampNeg) :: r) M h H locs ls hP hS hl ho (List.forall_mem_cons.mpr ⟨trivial, (fun v hv => hs v (List.mem_cons_of_mem _ (List.mem_cons_of_mem _ hv)))⟩))
  · exact h.elim
-- the table of a switch
theorem tsw_at {x : Int32} {lv : LV} {r : List mV} {M : mM} : ∀ (ks : List KT) (lo : Int), tsw x lv r M lo ks → ∀ (j : Nat) (κ : KT), ks[j]? = some κ → x.toInt = lo + j → κ lv r M
  | [], lo, _, j, κ, h, _ => by simp at h
  | κ0 :: ks, lo, h, j, κ, hj, hx => by
    cases j with
    | zero => simp at hj; subst hj; exact h.1 (by simpa using hx)
    | succ j => exact tsw_at ks (lo + 1) h.2 j κ (by simpa using hj) (by rw [hx]; omega)
def KS (G : Nat → KT) : List KT → List Nat → Prop
  | [], [] => True
  | κ :: ks, t :: ts => (∀ lv st M, κ lv st M → G t lv st M) ∧ KS G ks ts
  | _, _ => False
theorem KS_at {G : Nat → KT} : ∀ (ks : List KT) (ts : List Nat), KS G ks ts → ks.length = ts.length ∧ ∀ (j t : Nat) (κ : KT), ks[j]? = some κ → ts[j]? = some t → ∀ lv st M, κ lv st M → G t lv st M
  | [], [], _ => ⟨rfl, fun j t κ h => by simp at h⟩
  | κ0 :: ks, t0 :: ts, h => by
    obtain ⟨h1, h2⟩ := KS_at ks ts h.2
    refine ⟨by simp [h1], fun j t κ hk ht => ?_⟩
    cases j with
    | zero => simp at hk ht; subst hk; subst ht; exact h.1
    | succ j => exact h2 j t κ (by simpa using hk) (by simpa using ht)
  | [], _ :: _, h => h.elim
  | _ :: _, [], h => h.elim
theorem sd_tsw (hX : CX p s m args meth c nL cc own D ca ad A) {dflt lo hi : Int} {offs : Array Int} {len td : Nat} {ts : List Nat} {ks : List KT} {κd : KT} (hd : decode cc pc = .ok (.tableswitch dflt lo hi offs, len)) (ho1 : offs.toList.map (fun o => (pc : Int) + o) = ts.map (fun (t : Nat) => (t : Int))) (hdf : (pc : Int) + dflt = (td : Int)) (hhi : hi = lo + ks.length - 1) (hks : KS (Gd p l e R s m args below meth c nL D ca ad A nc ns Qf) ks ts) (kd : ∀ lv st M, κd lv st M → Gd p l e R s m args below meth c nL D ca ad A nc ns Qf td lv st M) : ∀ lv st M, s_tsw lo hi ks κd lv st M → Gd p l e R s m args below meth c nL D ca ad A nc ns Qf pc lv st M := by
  intro lv st M h H locs ls hP hS hl ho hs
  unfold s_tsw at h
  split at h
  · next x r =>
    obtain ⟨hlen, hat⟩ := KS_at ks ts hks
    by_cases hout : x.toInt < lo ∨ hi < x.toInt
    · exact lv_tableOut hX.1 hX.2.1 hd hout hdf (kd lv r M (h.1 hout) H locs ls hP hS hl ho (fun v hv => hs v (List.mem_cons_of_mem _ hv)))
    · have h1 : ¬ x.toInt < lo := fun g => hout (Or.inl g)
      have h2 : ¬ hi < x.toInt := fun g => hout (Or.inr g)
      obtain ⟨j, hj⟩ : ∃ j : Nat, x.toInt = lo + j := ⟨(x.toInt - lo).toNat, by omega⟩
      have hjl : j < ks.length := by omega
      have hjt : j < ts.length := by omega
      have hso : offs.toList.length = ts.length := by simpa using congrArg List.length ho1
      have e1 : (offs.toList.map (fun o => (pc : Int) + o))[j]? = some ((ts[j] : Nat) : Int) := by rw [ho1]; simp [hjt]
      rw [List.getElem?_map] at e1
      have hoj : offs.toList[j]? = some (offs.toList[j]'(by omega)) := List.getElem?_eq_getElem _
      rw [hoj] at e1
      have e2 : (pc : Int) + offs.toList[j]'(by omega) = ((ts[j] : Nat) : Int) := by simpa using e1
      refine lv_tableIn (off := offs.toList[j]'(by omega)) (tgt := ts[j]) hX.1 hX.2.1 hd h1 h2 ?_ e2 ?_
      · have : (x.toInt - lo).toNat = j := by omega
        rw [this, ← Array.getElem?_toList]
        exact hoj
      · exact hat j ts[j] ks[j] (List.getElem?_eq_getElem hjl) (List.getElem?_eq_getElem hjt) lv r M (tsw_at ks lo h.2 j ks[j] (List.getElem?_eq_getElem hjl) hj) H locs ls hP hS hl ho (fun v hv => hs v (List.mem_cons_of_mem _ hv))
  · exact h.elim

end MS
end
section
/-! returns, calls, contracts -/
def QC (D : va_G) (ca : Nat → ClassId) (ad : Nat → Nat) (A : Nat → Prop) (Q : Option mV → mM → Prop) : Array Value → State → Outcome → State → Prop := fun _ st oc t => (∃ (r : Option mV) (M' : mM), Q r M' ∧ oc = .returned (r.map (en ad)) ∧ va_P D vwCl (wo ca ad M') t.heap) ∧ va_F A st t
def rmD (d : Nat) : Room := { frames := d, cells := 0, slots := 0, locals := 40 * d }
def okR : Option mV → Prop
  | some v => okV v
  | none => True
def WD (D : va_G) (ca : Nat → ClassId) (ad : Nat → Nat) (M : mM) (sz : Nat) (U : State) : Prop := va_P D vwCl (wo ca ad M) U.heap ∧ va_K D vwCl (tyL ca) U ∧ (∀ i j, i < 178 → j < 178 → ad i = ad j → i = j) ∧ ZT ad (aA ad sz) U U.heap ∧ ∀ w ∈ nwL, va_Nw w U
/-- a method's contract: where 'pre' holds it answers fn, and the memory is fn's; d: how deep it calls -/
def Con (l : Launch) (y : MethodName) (bytes : ByteArray) (mL : Nat) (ret : Option FieldType) (d : Nat) (pre : List mV → mM → Prop) (fn : List mV → mM → Option mV × mM) : Prop :=
  ∀ (D : va_G) (ca : Nat → ClassId) (ad : Nat → Nat) (as : List mV) (M : mM) (sz : Nat), pre as M → (∀ v ∈ as, okV v) → okR (fn as M).1 ∧
    Met l y (.code y bytes mL ret :: gw) (rmD d) (va_Pc (as.map (en ad)) (fun U => U.heap.size = sz ∧ WD D ca ad M sz U)) (QC D ca ad (aA ad sz) (fun r M' => r = (fn as M).1 ∧ M' = (fn as M).2)) 0 0 (aA ad sz)
theorem wo_D {ca : Nat → ClassId} {ad : Nat → Nat} {A : Nat → Prop} (hi : ∀ i j, i < 178 → j < 178 → ad i = ad j → i = j) (hA : ∀ k, k < 178 → A (ad k)) (M : mM) : va_D A (wo ca ad M) := by
  have key : ∀ (k : Nat) (q : Nat × va_E), (wo ca ad M)[k]? = some q → k < 178 ∧ q.1 = ad k := by
    intro k q h
    rcases Nat.lt_or_ge k 178 with g | g
    · rw [wo_get g] at h; cases h; exact ⟨g, rfl⟩
    · rw [List.getElem?_eq_none (by simp [wo, g])] at h; cases h
  refine ⟨fun i j a b h1 h2 e => ?_, fun k q h => ?_⟩
  · obtain ⟨g1, e1⟩ := key i a h1
    obtain ⟨g2, e2⟩ := key j b h2
    exact hi i j g1 g2 (by rw [← e1, ← e2, e])
  · obtain ⟨g1, e1⟩ := key k q h
    rw [e1]; exact hA k g1
theorem wo_inj {ca : Nat → ClassId} {ad : Nat → Nat} {A : Nat → Prop} {M : mM} (h : va_D A (wo ca ad M)) : (∀ i j, i < 178 → j < 178 → ad i = ad j → i = j) ∧ ∀ k, k < 178 → A (ad k) :=
  ⟨fun i j hi hj e => h.1 i j _ _ (wo_get hi) (wo_get hj) e, fun k hk => h.2 k _ (wo_get hk)⟩
theorem nw_warm {s U : State} (hW : s.WarmedH U.vm) (h : ∀ w ∈ nwL, va_Nw w s) : ∀ w ∈ nwL, va_Nw w U := by
  intro w hw
  have g := h w hw
  simp only [nwL, List.mem_cons, List.not_mem_nil, or_false] at hw
  rcases hw with rfl | rfl | rfl | rfl | rfl | rfl | rfl | rfl | rfl <;> first | exact va_Nw.warmM hW g | exact va_Nw.warmF hW g
theorem nw_same {s U : State} (hv : s.vm = U.vm) (h : ∀ w ∈ nwL, va_Nw w s) : ∀ w ∈ nwL, va_Nw w U := by
  intro w hw
  have g := h w hw
  simp only [nwL, List.mem_cons, List.not_mem_nil, or_false] at hw
  rcases hw with rfl | rfl | rfl | rfl | rfl | rfl | rfl | rfl | rfl <;> exact va_Nw.same rfl hv g
theorem good_all {ws : List Cond} (h : ∀ w ∈ ws, w ∈ gw) : GoodIn gw ws := fun w hw => ⟨h w hw, good_of_word (gw_good _ (h w hw))⟩
def MVk (y : MethodName) (C : String) (bytes : ByteArray) (mL : Nat) (ret : Option FieldType) (n : Nat) : Prop := Cond.code y bytes mL ret ∈ gw ∧ Cond.instanceMethod y ∈ gw ∧ Cond.selects C y y ∈ gw ∧ Cond.initialized C ∈ gw ∧ (y.cls = C ∧ y.cls ≠ "java/lang/invoke/MethodHandle" ∧ y.cls ≠ "java/lang/invoke/VarHandle" ∧ (parseMethodDescriptor y.desc).map (fun d => d.parameters.length) = some n)
def MSk (y : MethodName) (bytes : ByteArray) (mL : Nat) (ret : Option FieldType) (n : Nat) : Prop := Cond.code y bytes mL ret ∈ gw ∧ Cond.static y ∈ gw ∧ Cond.initialized y.cls ∈ gw ∧ (y.cls ≠ "java/lang/invoke/MethodHandle" ∧ y.cls ≠ "java/lang/invoke/VarHandle" ∧ (parseMethodDescriptor y.desc).map (fun d => d.parameters.length) = some n)
section MC
variable {p : Program} {l : Launch} {e : Env} {R : Room} {s : State} {m : MethodId} {args : Array Value} {below : List Frame} {meth : Method} {c : Code} {nL : Nat} {cc : ByteArray} {own : String} {D : va_G} {ca : Nat → ClassId} {ad : Nat → Nat} {A : Nat → Prop} {nc ns : Nat} {Qf : State → Prop} {pc : Nat} {κ κt κf : KT}
theorem sd_iret (hX : CX p s m args meth c nL cc own D ca ad A) {Q : Option mV → mM → Prop} (hr : meth.sig.returnType = some .int) (hd : decode cc pc = .ok (.ireturn, 1)) : ∀ lv st M, s_iret Q lv st M → Gd p l e R s m args below meth c nL D ca ad A nc ns (MQ below (QC D ca ad A Q) args s nc ns A) pc lv st M := by
  intro lv st M h H locs ls hP hS hl ho hs
  unfold s_iret at h
  split at h
  · next x => exact W.iret (free := A) hX.1 hX.2.1 hr (fun t ht _ => ⟨⟨some (.inl x), M, h, rfl, by rw [ht]; exact hP⟩, hS.F ht⟩) hS.2.2 hd hX.2.2.2.2.2.2.2.2.2.1
  · exact h.elim
theorem sd_zret (hX : CX p s m args meth c nL cc own D ca ad A) {Q : Option mV → mM → Prop} (hr : meth.sig.returnType = some .boolean) (hd : decode cc pc = .ok (.ireturn, 1)) : ∀ lv st M, s_zret Q lv st M → Gd p l e R s m args below meth c nL D ca ad A nc ns (MQ below (QC D ca ad A Q) args s nc ns A) pc lv st M := by
  intro lv st M h H locs ls hP hS hl ho hs
  unfold s_zret at h
  split at h
  · next x => exact W.zret (free := A) hX.1 hX.2.1 hr (by rcases h.1 with rfl | rfl <;> rfl) (fun t ht _ => ⟨⟨some (.inl x), M, h.2, rfl, by rw [ht]; exact hP⟩, hS.F ht⟩) hS.2.2 hd hX.2.2.2.2.2.2.2.2.2.1
  · exact h.elim
theorem sd_lret (hX : CX p s m args meth c nL cc own D ca ad A) {Q : Option mV → mM → Prop} (hr : meth.sig.returnType = some .long) (hd : decode cc pc = .ok (.lreturn, 1)) : ∀ lv st M, s_lret Q lv st M → Gd p l e R s m args below meth c nL D ca ad A nc ns (MQ below (QC D ca ad A Q) args s nc ns A) pc lv st M := by
  intro lv st M h H locs ls hP hS hl ho hs
  unfold s_lret at h
  split at h
  · next x => exact W.lret (free := A) hX.1 hX.2.1 hr (fun t ht _ => ⟨⟨some (.inr (.inl x)), M, h, rfl, by rw [ht]; exact hP⟩, hS.F ht⟩) hS.2.2 hd hX.2.2.2.2.2.2.2.2.2.1
  · exact h.elim
theorem sd_vret (hX : CX p s m args meth c nL cc own D ca ad A) {Q : Option mV → mM → Prop} (hr : meth.sig.returnType = none) (hd : decode cc pc = .ok (.return_, 1)) : ∀ lv st M, s_vret Q lv st M → Gd p l e R s m args below meth c nL D ca ad A nc ns (MQ below (QC D ca ad A Q) args s nc ns A) pc lv st M := by
  intro lv st M h H locs ls hP hS hl ho hs
  unfold s_vret at h
  split at h
  · exact W.vret (free := A) hX.1 hX.2.1 hr (fun t ht _ => ⟨⟨none, M, h, rfl, by rw [ht]; exact hP⟩, hS.F ht⟩) hS.2.2 hd hX.2.2.2.2.2.2.2.2.2.1
  · exact h.elim
theorem sd_aret (hX : CX p s m args meth c nL cc own D ca ad A) {Q : Option mV → mM → Prop} {C : String} (hr : meth.sig.returnType = some (.object C)) (hd : decode cc pc = .ok (.areturn, 1)) : ∀ lv st M, s_aret Q lv st M → Gd p l e R s m args below meth c nL D ca ad A nc ns (MQ below (QC D ca ad A Q) args s nc ns A) pc lv st M := by
  intro lv st M h H locs ls hP hS hl ho hs
  unfold s_aret at h
  split at h
  · next x => exact W.aret (free := A) hX.1 hX.2.1 hr (Or.inl ⟨_, rfl⟩) (Or.inr ⟨_, rfl⟩) (fun t ht _ => ⟨⟨some (.inr (.inr x)), M, h, rfl, by rw [ht]; exact hP⟩, hS.F ht⟩) hS.2.2 hd hX.2.2.2.2.2.2.2.2.2.1
  · exact h.elim
theorem my_call {H : Heap} {locs : List Loc} {ls : Array Slot} {rest st0 : List Value} {A1 : Nat → Prop} {free : Addr → Prop} {Qx : Outcome → State → Prop} (hr : va_Run p l e R s m args below meth c H locs nc ns 0 0 (F0 m pc ls st0) rest (fun st oc t => Qx oc t ∧ va_F A1 st t) free) (hS : va_S A s.heap H locs) (hA : ∀ q, q < H.size → A1 q → A q) (hf : ∀ q, free q → A q)
    (kk : ∀ (v : Option Value) (t : State) (H1 : Heap) (locs1 : List Loc), t.heap = H1 → Qx (.returned v) t → va_S A s.heap H1 locs1 → W p l e R s m args below meth c H1 locs1 nc ns Qf (F0 m (pc + 3) ls (v.toList ++ rest))) : W p l e R s m args below meth c H locs nc ns Qf (F0 m pc ls st0) := by
  intro T hT X
  obtain ⟨v, st₀, t, T', L, h0, X', hL, e1, e2, ⟨hq, hz, hk⟩, st⟩ := hr T hT X
  rw [h0] at hz hk
  obtain ⟨t2, a1, b1⟩ := kk v t T'.heap (locs ++ L) e1.symm hq
    ⟨Nat.le_trans hS.1 (by rw [e1]; exact hz), fun q h1 h2 => by rw [e1, hk q (Nat.lt_of_lt_of_le h1 hS.1) (fun z => h2 (hA q (Nat.lt_of_lt_of_le h1 hS.1) z))]; exact hS.2.1 q h1 h2, fun q hq => by
      rcases List.mem_append.mp hq with h | h
      · exact hS.2.2 q h
      · exact hf _ (hL q h)⟩ T' rfl X'
  exact ⟨t2, st t2 a1, b1⟩
theorem aA_in (hX : CX p s m args meth c nL cc own D ca ad A) {M : mM} {H : Heap} {locs : List Loc} (hS : va_S A s.heap H locs) : ∀ q, aA ad H.size q → A q := by
  intro q h
  rcases h with ⟨k, hk, rfl⟩ | h
  · exact (wo_inj (hX.2.2.2.2.2.2.1 M)).2 k hk
  · exact hX.2.2.2.2.2.2.2.2.2.2 q (Nat.le_trans hS.1 h)
/-- what a callee asks for -/
theorem pre_of (hX : CX p s m args meth c nL cc own D ca ad A) {M : mM} {H : Heap} {locs : List Loc} (hP : va_P D vwCl (wo ca ad M) H) (hS : va_S A s.heap H locs) : ∀ U : State, U.heap = H → s.WarmedH U.vm → U.heap.size = H.size ∧ WD D ca ad M H.size U := by
  intro U hU hW
  have hin := aA_in hX (M := M) hS
  refine ⟨by rw [hU], by rw [hU]; exact hP, va_K.moved hW.alike hX.2.2.2.2.2.1, (wo_inj (hX.2.2.2.2.2.2.1 M)).1, ⟨?_, ?_⟩, nw_warm hW hX.2.2.2.2.2.2.2.2.1⟩
  · rw [hU]
    exact ((va_Z.kept hX.2.2.2.2.2.2.2.1.1 hS.2.1).moved hW.alike).narrow hin
  · rw [hU]
    exact ((va_T.kept hX.2.2.2.2.2.2.2.1.2 hS.2.1).moved hW.alike).narrow hin
theorem blind_of {M : mM} {sz : Nat} {av : List Value} : FrameBlind (va_Pc av (fun U => U.heap.size = sz ∧ WD D ca ad M sz U)) := by
  intro a U g mk h
  obtain ⟨h0, h1, h2, h3, h4, h5, h6⟩ := h
  exact ⟨h0, h1, h2, va_K.moved (u := U) (U := U.calling g mk a) (Vm.Alike.refl U.vm) h3, h4, ⟨va_Z.moved (u := U) (U := U.calling g mk a) (Vm.Alike.refl U.vm) h5.1, va_T.moved (u := U) (U := U.calling g mk a) (Vm.Alike.refl U.vm) h5.2⟩, nw_same (s := U) (U := U.calling g mk a) rfl h6⟩
theorem csum_en : ∀ (st : List mV), ((st.map (en ad)).map fun v => v.category).sum = csum st
  | [] => rfl
  | .inl x :: r => by simp only [List.map_cons, List.sum_cons, csum_en r, csum]; rfl
  | .inr (.inl x) :: r => by simp only [List.map_cons, List.sum_cons, csum_en r, csum]; rfl
  | .inr (.inr x) :: r => by simp only [List.map_cons, List.sum_cons, csum_en r, csum]; rfl
theorem push_en (r : Option mV) (st : List mV) : (r.map (en ad)).toList ++ st.map (en ad) = (pushR r st).map (en ad) := by cases r <;> rfl
/-- behind a call -/
theorem back_call (hX : CX p s m args meth c nL cc own D ca ad A) {lv : LV} {rest : List mV} {M M1 : mM} {r1 : Option mV} {H : Heap} {locs : List Loc} {ls : Array Slot} {st0 : List Value} (k : ∀ lv st M, κ lv st M → Gd p l e R s m args below meth c nL D ca ad A nc ns Qf (pc + 3) lv st M) (hk : κ lv (pushR r1 rest) M1) (hok : okR r1) (hS : va_S A s.heap H locs) (hl : lv_has ls nL (toL ad 0 lv)) (ho : ∀ v ∈ lv, okO v) (hs : ∀ v ∈ rest, okV v)
    (hr : va_Run p l e R s m args below meth c H locs nc ns 0 0 (F0 m pc ls st0) (rest.map (en ad)) (fun st oc t => (∃ (r : Option mV) (M' : mM), (r = r1 ∧ M' = M1) ∧ oc = .returned (r.map (en ad)) ∧ va_P D vwCl (wo ca ad M') t.heap) ∧ va_F (aA ad H.size) st t) (aA ad H.size)) : W p l e R s m args below meth c H locs nc ns Qf (F0 m pc ls st0) := by
  have hin := aA_in hX (M := M) hS
  refine my_call hr hS (fun q _ h => hin q h) hin fun v t H1 locs1 ht hq hS1 => ?_
  obtain ⟨r, M', ⟨rfl, rfl⟩, hv, hP1⟩ := hq
  cases hv
  rw [push_en]
  rw [ht] at hP1
  refine k lv _ M' hk H1 locs1 ls hP1 hS1 hl ho ?_
  cases r with
  | none => exact hs
  | some v => exact List.forall_mem_cons.mpr ⟨hok, hs⟩
theorem sd_callV (hX : CX p s m args meth c nL cc own D ca ad A) {kd n idx d mL N : Nat} {y : MethodName} {C : String} {T : u_T} {bytes : ByteArray} {ret : Option FieldType} {pre : List mV → mM → Prop} {fn : List mV → mM → Option mV × mM} (hc : vwCl[kd]? = some (C, T, N)) (h13 : kd < 13) (hM : Con l y bytes mL ret d pre fn) (hy : MVk y C bytes mL ret n) (hlk : Cond.methodLink own idx y ∈ gw) (hR : (d + 1 ≤ R.frames ∧ 8 + (mL + 11) + 40 * d ≤ R.locals) ∧ nc ≤ R.cells ∧ ns ≤ R.slots) (hd : decode cc pc = .ok (.invokevirtual idx, 3)) (k : ∀ lv st M, κ lv st M → Gd p l e R s m args below meth c nL D ca ad A nc ns Qf (pc + 3) lv st M) : ∀ lv st M, s_callV kd n pre fn κ lv st M → Gd p l e R s m args below meth c nL D ca ad A nc ns Qf pc lv st M := by
  intro lv st M h H locs ls hP hS hl ho hs
  unfold s_callV at h
  split at h
  · next k2 k0 as heq =>
    obtain ⟨rfl, hn, hcs, hpre, hk⟩ := h
    have hst : st = as.reverse ++ (.inr (.inr (k2, k0)) :: st.drop (n + 1)) := by
      have h1 := List.take_append_drop (n + 1) st
      have h2 : st.take (n + 1) = (.inr (.inr (k2, k0)) :: as).reverse := by rw [← heq, List.reverse_reverse]
      rw [h2, List.reverse_cons, List.append_assoc] at h1
      exact h1.symm
    generalize st.drop (n + 1) = rest at *
    subst hst
    have hoa : ∀ v ∈ (.inr (.inr (k2, k0)) :: as : List mV), okV v := by
      intro v hv
      apply hs
      rcases List.mem_cons.mp hv with rfl | hv
      · simp
      · simp [hv]
    have hk0 : kof k0 = k2 := hoa _ List.mem_cons_self
    obtain ⟨hok, hMet⟩ := hM D ca ad _ M H.size hpre hoa
    obtain ⟨y1, y2, y3, y4, y5⟩ := hy
    refine back_call hX (M := M) k hk hok hS hl ho (fun v hv => hs v (by simp [hv])) ?_
    exact va_runV (C := C) (b := ad k0) (As := as.map (en ad)) (rest := rest.map (en ad)) (Ts := gw) ⟨hX.1, hX.2.1, hX.2.2.1, hX.2.2.2.1, hX.2.2.2.2.1⟩ hMet
      (cwV n hX.2.2.2.2.1 (good_all (fun w hw => by
        simp only [wsV, List.mem_append, List.mem_cons, List.not_mem_nil, or_false] at hw
        rcases hw with (rfl | rfl | rfl | rfl) | rfl | hw
        · exact hlk
        · exact y2
        · exact y3
        · exact y4
        · exact y1
        · exact hw)) rfl rfl rfl y5 hR.1)
      ⟨blind_of, va_recv hX.2.2.2.2.2.1 hP hc (q0 := k0) ((wo_get (kof_lt (by omega))).trans (by rw [sh_obj hk0 h13])), fun U hU hW => ⟨rfl, pre_of hX hP hS U hU hW⟩⟩ rfl (by rw [List.length_map]; exact hn) hl.1 (by simp [en]) (lv_room (by rw [csum_en]; exact hcs)) hd ⟨hR.2.1, hR.2.2⟩
  · exact h.elim
theorem sd_callS (hX : CX p s m args meth c nL cc own D ca ad A) {n idx d mL : Nat} {y : MethodName} {bytes : ByteArray} {ret : Option FieldType} {pre : List mV → mM → Prop} {fn : List mV → mM → Option mV × mM} (hM : Con l y bytes mL ret d pre fn) (hy : MSk y bytes mL ret n) (hlk : Cond.methodLink own idx y ∈ gw) (hR : (d + 1 ≤ R.frames ∧ 8 + (mL + 11) + 40 * d ≤ R.locals) ∧ nc ≤ R.cells ∧ ns ≤ R.slots) (hd : decode cc pc = .ok (.invokestatic idx, 3)) (k : ∀ lv st M, κ lv st M → Gd p l e R s m args below meth c nL D ca ad A nc ns Qf (pc + 3) lv st M) : ∀ lv st M, s_callS n pre fn κ lv st M → Gd p l e R s m args below meth c nL D ca ad A nc ns Qf pc lv st M := by
  intro lv st M h H locs ls hP hS hl ho hs
  unfold s_callS at h
  obtain ⟨hn, hcs, hpre, hk⟩ := h
  have hst : st = (st.take n).reverse.reverse ++ st.drop n := by rw [List.reverse_reverse, List.take_append_drop]
  have hlen : (st.take n).reverse.length = n := by simp; omega
  have hoa : ∀ v ∈ (st.take n).reverse, okV v := fun v hv => hs v (List.mem_of_mem_take (List.mem_reverse.mp hv))
  have hor : ∀ v ∈ st.drop n, okV v := fun v hv => hs v (List.mem_of_mem_drop hv)
  generalize st.drop n = rest at *
  generalize (st.take n).reverse = as at *
  subst hst
  obtain ⟨hok, hMet⟩ := hM D ca ad _ M H.size hpre hoa
  obtain ⟨y1, y2, y3, y5⟩ := hy
  refine back_call hX (M := M) k hk hok hS hl ho hor ?_
  exact va_runS (As := as.map (en ad)) (rest := rest.map (en ad)) (Ts := gw) ⟨hX.1, hX.2.1, hX.2.2.1, hX.2.2.2.1, hX.2.2.2.2.1⟩ hMet
    (va_cwS n hX.2.2.2.2.1 (good_all (fun w hw => by
      simp only [va_wsS, List.mem_append, List.mem_cons, List.not_mem_nil, or_false] at hw
      rcases hw with (rfl | rfl | rfl) | rfl | hw
      · exact hlk
      · exact y2
      · exact y3
      · exact y1
      · exact hw)) rfl rfl rfl y5 hR.1)
    ⟨blind_of, fun U hU hW => ⟨rfl, pre_of hX hP hS U hU hW⟩⟩ rfl (by rw [List.length_map]; exact hlen) hl.1 (by simp) (lv_room (by rw [csum_en]; exact hcs)) hd ⟨hR.2.1, hR.2.2⟩
theorem sd_callSN (hX : CX p s m args meth c nL cc own D ca ad A) {n idx d mL : Nat} {host : String} {y : MethodName} {bytes : ByteArray} {ret : Option FieldType} {pre : List mV → mM → Prop} {fn : List mV → mM → Option mV × mM} (hM : Con l y bytes mL ret d pre fn) (hy : MSk y bytes mL ret n) (hlk : Cond.methodLinkNest own idx y host ∈ nwL) (hR : (d + 1 ≤ R.frames ∧ 8 + (mL + 11) + 40 * d ≤ R.locals) ∧ nc ≤ R.cells ∧ ns ≤ R.slots) (hd : decode cc pc = .ok (.invokestatic idx, 3)) (k : ∀ lv st M, κ lv st M → Gd p l e R s m args below meth c nL D ca ad A nc ns Qf (pc + 3) lv st M) : ∀ lv st M, s_callS n pre fn κ lv st M → Gd p l e R s m args below meth c nL D ca ad A nc ns Qf pc lv st M := by
  intro lv st M h H locs ls hP hS hl ho hs
  unfold s_callS at h
  obtain ⟨hn, hcs, hpre, hk⟩ := h
  have hst : st = (st.take n).reverse.reverse ++ st.drop n := by rw [List.reverse_reverse, List.take_append_drop]
  have hlen : (st.take n).reverse.length = n := by simp; omega
  have hoa : ∀ v ∈ (st.take n).reverse, okV v := fun v hv => hs v (List.mem_of_mem_take (List.mem_reverse.mp hv))
  have hor : ∀ v ∈ st.drop n, okV v := fun v hv => hs v (List.mem_of_mem_drop hv)
  generalize st.drop n = rest at *
  generalize (st.take n).reverse = as at *
  subst hst
  obtain ⟨hok, hMet⟩ := hM D ca ad _ M H.size hpre hoa
  obtain ⟨y1, y2, y3, y5⟩ := hy
  refine back_call hX (M := M) k hk hok hS hl ho hor ?_
  exact va_runSN (host := host) (As := as.map (en ad)) (rest := rest.map (en ad)) (Ts := gw) ⟨hX.1, hX.2.1, hX.2.2.1, hX.2.2.2.1, hX.2.2.2.2.1⟩ hMet
    ⟨va_cnB n hX.2.2.2.2.1 (gw_in y1) rfl rfl rfl (hX.2.2.2.2.2.2.2.2.1 _ hlk) (hX.2.2.2.2.1 _ y3) y5 hR.1, hX.2.2.2.2.1 _ y2, trivial⟩
    ⟨blind_of, fun U hU hW => ⟨rfl, pre_of hX hP hS U hU hW⟩⟩ rfl (by rw [List.length_map]; exact hlen) hl.1 (by simp) (lv_room (by rw [csum_en]; exact hcs)) hd ⟨hR.2.1, hR.2.2⟩
theorem sd_mth (hX : CX p s m args meth c nL cc own D ca ad A) {idx : Nat} {f : Int32 → Int32 → Int32} {y : MethodName} {bt : ByteArray} (hf : (f = mn ∧ y = Lib.Math.min.name ∧ bt = Lib.Math.min.code) ∨ (f = mx ∧ y = Lib.Math.max.name ∧ bt = Lib.Math.max.code)) (hlk : Cond.methodLink own idx y ∈ gw) (hst : Cond.static y ∈ gw) (hin : Cond.initialized "java/lang/Math" ∈ gw) (hcd : Cond.code y bt 2 (some .int) ∈ gw) (hR : (1 ≤ R.frames ∧ 21 ≤ R.locals) ∧ nc ≤ R.cells ∧ ns ≤ R.slots) (hd : decode cc pc = .ok (.invokestatic idx, 3)) (k : ∀ lv st M, κ lv st M → Gd p l e R s m args below meth c nL D ca ad A nc ns Qf (pc + 3) lv st M) : ∀ lv st M, s_mth f κ lv st M → Gd p l e R s m args below meth c nL D ca ad A nc ns Qf pc lv st M := by
  intro lv st M h H locs ls hP hS hl ho hs
  unfold s_mth at h
  split at h
  · next v u r =>
    have hroom : ((r.map (en ad)).map fun v => v.category).sum + 13 ≤ R.locals := by rw [csum_en]; have := h.1; have := hR.1.2; omega
    have kk := k lv _ M h.2 H locs ls hP hS hl ho (List.forall_mem_cons.mpr ⟨trivial, fun v hv => hs v (List.mem_cons_of_mem _ (List.mem_cons_of_mem _ hv))⟩)
    rcases hf with ⟨rfl, rfl, rfl⟩ | ⟨rfl, rfl, rfl⟩
    · exact va_mmin hX.1 hX.2.1 (hX.2.2.1.trans hl.1.symm) hX.2.2.2.1 (hX.2.2.2.2.1 _ hlk) (hX.2.2.2.2.1 _ hst) (hX.2.2.2.2.1 _ hin) (hX.2.2.2.2.1 _ hcd) hR.1.1 hroom hR.2.1 hR.2.2 hd kk
    · exact va_mmax hX.1 hX.2.1 (hX.2.2.1.trans hl.1.symm) hX.2.2.2.1 (hX.2.2.2.2.1 _ hlk) (hX.2.2.2.2.1 _ hst) (hX.2.2.2.2.1 _ hin) (hX.2.2.2.2.1 _ hcd) hR.1.1 hroom hR.2.1 hR.2.2 hd kk
  · exact h.elim
theorem sd_mab (hX : CX p s m args meth c nL cc own D ca ad A) {idx : Nat} (hlk : Cond.methodLink own idx Lib.Math.abs.name ∈ gw) (hst : Cond.static Lib.Math.abs.name ∈ gw) (hin : Cond.initialized "java/lang/Math" ∈ gw) (hcd : Cond.code Lib.Math.abs.name Lib.Math.abs.code 1 (some .int) ∈ gw) (hR : (1 ≤ R.frames ∧ 21 ≤ R.locals) ∧ nc ≤ R.cells ∧ ns ≤ R.slots) (hd : decode cc pc = .ok (.invokestatic idx, 3)) (k : ∀ lv st M, κ lv st M → Gd p l e R s m args below meth c nL D ca ad A nc ns Qf (pc + 3) lv st M) : ∀ lv st M, s_mab κ lv st M → Gd p l e R s m args below meth c nL D ca ad A nc ns Qf pc lv st M := by
  intro lv st M h H locs ls hP hS hl ho hs
  unfold s_mab at h
  split at h
  · next u r =>
    have hroom : ((r.map (en ad)).map fun v => v.category).sum + 13 ≤ R.locals := by rw [csum_en]; have := h.1; have := hR.1.2; omega
    exact va_mabs hX.1 hX.2.1 (hX.2.2.1.trans hl.1.symm) hX.2.2.2.1 (hX.2.2.2.2.1 _ hlk) (hX.2.2.2.2.1 _ hst) (hX.2.2.2.2.1 _ hin) (hX.2.2.2.2.1 _ hcd) hR.1.1 hroom hR.2.1 hR.2.2 hd (k lv _ M h.2 H locs ls hP hS hl ho (List.forall_mem_cons.mpr ⟨trivial, fun v hv => hs v (List.mem_cons_of_mem _ hv)⟩))
  · exact h.elim
end MC
theorem sl_len {ad : Nat → Nat} : ∀ (as : List mV), (lg_sl (as.map (en ad))).length = (inL as).length
  | [] => rfl
  | .inl x :: r => by
    show (([Slot.val (Value.int x)] : List Slot) ++ lg_sl (r.map (en ad))).length = _
    rw [List.length_append, sl_len r]; simp [inL]; omega
  | .inr (.inl x) :: r => by
    show (([Slot.val (Value.long x), Slot.second] : List Slot) ++ lg_sl (r.map (en ad))).length = _
    rw [List.length_append, sl_len r]; simp [inL]; omega
  | .inr (.inr x) :: r => by
    show (([Slot.val (Value.ref (ad x.2))] : List Slot) ++ lg_sl (r.map (en ad))).length = _
    rw [List.length_append, sl_len r]; simp [inL]; omega
/-- a contract out of a walk -/
theorem con_of {l : Launch} {y : MethodName} {bytes : ByteArray} {mL : Nat} {ret : Option FieldType} {d : Nat} {pre : List mV → mM → Prop} {fn : List mV → mM → Option mV × mM} (hy : plainName y.cls = true) (hok : ∀ as M, pre as M → (∀ v ∈ as, okV v) → okR (fn as M).1) (hlen : ∀ as M, pre as M → (inL as).length ≤ mL)
    (body : ∀ (p : Program) (e : Env) (s : State) (m : MethodId) (args : Array Value) (below : List Frame) (meth : Method) (c : Code) (D : va_G) (ca : Nat → ClassId) (ad : Nat → Nat) (A : Nat → Prop) (as : List mV) (M : mM), CX p s m args meth c mL bytes y.cls D ca ad A → meth.sig.returnType = ret → pre as M → (∀ v ∈ as, okV v) → Gd p l e (rmD d) s m args below meth c mL D ca ad A 0 0 (MQ below (QC D ca ad A (fun r M' => r = (fn as M).1 ∧ M' = (fn as M).2)) args s 0 0 A) 0 (inL as ++ List.replicate (mL - (inL as).length) none) [] M) : Con l y bytes mL ret d pre fn := by
  intro D ca ad as M sz hpre hoa
  refine ⟨hok as M hpre hoa, Met.ofW (cc := bytes) (maxL := mL) (ret := ret) hy rfl ?_⟩
  intro p e s m args below meth c s₁ B hml hv
  obtain ⟨rfl, hsz, hP, hK, hinj, hZT, hNW⟩ := hv
  subst hsz
  have hts := atoms_spec (ws := .code y bytes mL ret :: gw) B.pre
  have hown : s.vm.findClass y.cls = some m.cls := findClass_of_methodNamed B.named
  have hX : CX p s m (as.map (en ad)).toArray meth c mL bytes y.cls D ca ad (aA ad s.heap.size) := ⟨B.exec, B.bytes, hml, hown, fun w hw => hts w (List.mem_cons_of_mem _ hw), hK, wo_D hinj (fun k hk => Or.inl ⟨k, hk, rfl⟩), hZT, hNW, B.notSynchronized, fun q h => Or.inr h⟩
  have hl := lv_entry (as.map (en ad)) (n := mL) (by rw [sl_len]; exact hlen as M hpre)
  rw [lg_entry_eq]
  refine body p e s m _ below meth c D ca ad _ as M hX B.returns hpre hoa s.heap [] _ hP va_S.rf (has_sub hl fun q hq => ?_) (fun v hv => ?_) (fun v hv => by cases hv)
  · rw [toL_pad] at hq
    exact inL_args as 0 hq
  · rcases List.mem_append.mp hv with h | h
    · exact inL_ok as hoa v h
    · rw [(List.mem_replicate.mp h).2]; trivial
end
section
theorem one0 : ((1 : Int32) = 0) = False := by decide
theorem m10 : ((-1 : Int32) = 0) = False := by decide
theorem l1_11 : ∀ i, i ≠ 11 → (fTL.getD 11 [])[i]? ≠ some 2 := by
  intro i hi h
  have hl := (List.getElem?_eq_some_iff.mp h).1
  have h2 : ∀ j, j < 12 → j ≠ 11 → (fTL.getD 11 [])[j]? ≠ some 2 := by decide +kernel
  exact h2 i hl hi h
theorem l1_12 : ∀ i, i ≠ 29 → (fTL.getD 12 [])[i]? ≠ some 2 := by
  intro i hi h
  have hl := (List.getElem?_eq_some_iff.mp h).1
  have h2 : ∀ j, j < 32 → j ≠ 29 → (fTL.getD 12 [])[j]? ≠ some 2 := by decide +kernel
  exact h2 i hl hi h
def bI (c : Prop) [Decidable c] : Int32 := if c then 1 else 0
theorem bI_0 {c : Prop} [Decidable c] : bI c = 0 ↔ ¬ c := by unfold bI; split <;> simp_all
theorem bI_t {c : Prop} [Decidable c] (h : c) : bI c = 1 := by unfold bI; rw [if_pos h]
theorem bI_f {c : Prop} [Decidable c] (h : ¬ c) : bI c = 0 := by unfold bI; rw [if_neg h]
theorem bI_z {c : Prop} [Decidable c] : bI c = 0 ∨ bI c = 1 := by unfold bI; split <;> simp
def itr {S : Type} (f : Nat → S → S) : Nat → Nat → S → S
  | _, 0, s => s
  | i, n + 1, s => itr f (i + 1) n (f i s)
def rm (x y : Int32) : Int32 := x - x / y * y
theorem wm_min : Cond.code Lib.Math.min.name Lib.Math.min.code 2 (some .int) ∈ gw := gm 460 (by decide +kernel) rfl
theorem wm_max : Cond.code Lib.Math.max.name Lib.Math.max.code 2 (some .int) ∈ gw := gm 533 (by decide +kernel) rfl
theorem wm_abs : Cond.code Lib.Math.abs.name Lib.Math.abs.code 1 (some .int) ∈ gw := gm 664 (by decide +kernel) rfl
def us (x y : Int32) : Int32 := (x.toUInt32 >>> (y.toUInt32 &&& Int32.toUInt32 31)).toInt32
def bc1 (x : Int32) : Int32 := x - (us x 1 &&& 1431655765)
def bc2 (x : Int32) : Int32 := (x &&& 858993459) + (us x 2 &&& 858993459)
def bc3 (x : Int32) : Int32 := (x + us x 4) &&& 252645135
def bc (x : Int32) : Int32 := (bc3 (bc2 (bc1 x)) + us (bc3 (bc2 (bc1 x))) 8 + us (bc3 (bc2 (bc1 x)) + us (bc3 (bc2 (bc1 x))) 8) 16) &&& 63
def pre_J6_bitCount_0f7a4 (as : List mV) (M : mM) : Prop := ∃ x, as = [.inl x]
def fn_J6_bitCount_0f7a4 : List mV → mM → Option mV × mM
  | [.inl x], M => (some (.inl (bc x)), M)
  | _, M => (none, M)
theorem ok_J6_bitCount_0f7a4 (as : List mV) (M : mM) (h : pre_J6_bitCount_0f7a4 as M) (_ : ∀ v ∈ as, okV v) : okR (fn_J6_bitCount_0f7a4 as M).1 := by
  obtain ⟨x, rfl⟩ := h
  first | trivial | exact (by decide +kernel : kof 14 = 8)
theorem len_J6_bitCount_0f7a4 (as : List mV) (M : mM) (h : pre_J6_bitCount_0f7a4 as M) : (inL as).length ≤ 1 := by
  obtain ⟨x, rfl⟩ := h
  exact Nat.le_of_ble_eq_true rfl


theorem dJ6_bitCount_0f7a4_0 : decode cJ6_bitCount_0f7a4 0 = .ok (.iload_n 0, 1) := by decide +kernel
theorem dJ6_bitCount_0f7a4_1 : decode cJ6_bitCount_0f7a4 1 = .ok (.iload_n 0, 1) := by decide +kernel
theorem dJ6_bitCount_0f7a4_2 : decode cJ6_bitCount_0f7a4 2 = .ok (.iconst 1, 1) := by decide +kernel
theorem dJ6_bitCount_0f7a4_3 : decode cJ6_bitCount_0f7a4 3 = .ok (.iushr, 1) := by decide +kernel
theorem dJ6_bitCount_0f7a4_4 : decode cJ6_bitCount_0f7a4 4 = .ok (.ldc_w 265, 3) := by decide +kernel
theorem dJ6_bitCount_0f7a4_7 : decode cJ6_bitCount_0f7a4 7 = .ok (.iand, 1) := by decide +kernel
theorem dJ6_bitCount_0f7a4_8 : decode cJ6_bitCount_0f7a4 8 = .ok (.isub, 1) := by decide +kernel
theorem dJ6_bitCount_0f7a4_9 : decode cJ6_bitCount_0f7a4 9 = .ok (.istore_n 0, 1) := by decide +kernel
theorem dJ6_bitCount_0f7a4_10 : decode cJ6_bitCount_0f7a4 10 = .ok (.iload_n 0, 1) := by decide +kernel
theorem dJ6_bitCount_0f7a4_11 : decode cJ6_bitCount_0f7a4 11 = .ok (.ldc_w 266, 3) := by decide +kernel
theorem dJ6_bitCount_0f7a4_14 : decode cJ6_bitCount_0f7a4 14 = .ok (.iand, 1) := by decide +kernel
theorem dJ6_bitCount_0f7a4_15 : decode cJ6_bitCount_0f7a4 15 = .ok (.iload_n 0, 1) := by decide +kernel
theorem dJ6_bitCount_0f7a4_16 : decode cJ6_bitCount_0f7a4 16 = .ok (.iconst 2, 1) := by decide +kernel
theorem dJ6_bitCount_0f7a4_17 : decode cJ6_bitCount_0f7a4 17 = .ok (.iushr, 1) := by decide +kernel
theorem dJ6_bitCount_0f7a4_18 : decode cJ6_bitCount_0f7a4 18 = .ok (.ldc_w 266, 3) := by decide +kernel
theorem dJ6_bitCount_0f7a4_21 : decode cJ6_bitCount_0f7a4 21 = .ok (.iand, 1) := by decide +kernel
theorem dJ6_bitCount_0f7a4_22 : decode cJ6_bitCount_0f7a4 22 = .ok (.iadd, 1) := by decide +kernel
theorem dJ6_bitCount_0f7a4_23 : decode cJ6_bitCount_0f7a4 23 = .ok (.istore_n 0, 1) := by decide +kernel
theorem dJ6_bitCount_0f7a4_24 : decode cJ6_bitCount_0f7a4 24 = .ok (.iload_n 0, 1) := by decide +kernel
theorem dJ6_bitCount_0f7a4_25 : decode cJ6_bitCount_0f7a4 25 = .ok (.iload_n 0, 1) := by decide +kernel
theorem dJ6_bitCount_0f7a4_26 : decode cJ6_bitCount_0f7a4 26 = .ok (.iconst 4, 1) := by decide +kernel
theorem dJ6_bitCount_0f7a4_27 : decode cJ6_bitCount_0f7a4 27 = .ok (.iushr, 1) := by decide +kernel
theorem dJ6_bitCount_0f7a4_28 : decode cJ6_bitCount_0f7a4 28 = .ok (.iadd, 1) := by decide +kernel
theorem dJ6_bitCount_0f7a4_29 : decode cJ6_bitCount_0f7a4 29 = .ok (.ldc_w 267, 3) := by decide +kernel
theorem dJ6_bitCount_0f7a4_32 : decode cJ6_bitCount_0f7a4 32 = .ok (.iand, 1) := by decide +kernel
theorem dJ6_bitCount_0f7a4_33 : decode cJ6_bitCount_0f7a4 33 = .ok (.istore_n 0, 1) := by decide +kernel
theorem dJ6_bitCount_0f7a4_34 : decode cJ6_bitCount_0f7a4 34 = .ok (.iload_n 0, 1) := by decide +kernel
theorem dJ6_bitCount_0f7a4_35 : decode cJ6_bitCount_0f7a4 35 = .ok (.iload_n 0, 1) := by decide +kernel
theorem dJ6_bitCount_0f7a4_36 : decode cJ6_bitCount_0f7a4 36 = .ok (.bipush 8, 2) := by decide +kernel
theorem dJ6_bitCount_0f7a4_38 : decode cJ6_bitCount_0f7a4 38 = .ok (.iushr, 1) := by decide +kernel
theorem dJ6_bitCount_0f7a4_39 : decode cJ6_bitCount_0f7a4 39 = .ok (.iadd, 1) := by decide +kernel
theorem dJ6_bitCount_0f7a4_40 : decode cJ6_bitCount_0f7a4 40 = .ok (.istore_n 0, 1) := by decide +kernel
theorem dJ6_bitCount_0f7a4_41 : decode cJ6_bitCount_0f7a4 41 = .ok (.iload_n 0, 1) := by decide +kernel
theorem dJ6_bitCount_0f7a4_42 : decode cJ6_bitCount_0f7a4 42 = .ok (.iload_n 0, 1) := by decide +kernel
theorem dJ6_bitCount_0f7a4_43 : decode cJ6_bitCount_0f7a4 43 = .ok (.bipush 16, 2) := by decide +kernel
theorem dJ6_bitCount_0f7a4_45 : decode cJ6_bitCount_0f7a4 45 = .ok (.iushr, 1) := by decide +kernel
theorem dJ6_bitCount_0f7a4_46 : decode cJ6_bitCount_0f7a4 46 = .ok (.iadd, 1) := by decide +kernel
theorem dJ6_bitCount_0f7a4_47 : decode cJ6_bitCount_0f7a4 47 = .ok (.istore_n 0, 1) := by decide +kernel
theorem dJ6_bitCount_0f7a4_48 : decode cJ6_bitCount_0f7a4 48 = .ok (.iload_n 0, 1) := by decide +kernel
theorem dJ6_bitCount_0f7a4_49 : decode cJ6_bitCount_0f7a4 49 = .ok (.bipush 63, 2) := by decide +kernel
theorem dJ6_bitCount_0f7a4_51 : decode cJ6_bitCount_0f7a4 51 = .ok (.iand, 1) := by decide +kernel
theorem dJ6_bitCount_0f7a4_52 : decode cJ6_bitCount_0f7a4 52 = .ok (.ireturn, 1) := by decide +kernel
theorem mk_J6_bitCount_0f7a4 : MSk yJ6_bitCount_0f7a4 cJ6_bitCount_0f7a4 1 (Option.some FieldType.int) 1 := ⟨w_643, w_642, w_15, by decide +kernel, by decide +kernel, by decide +kernel⟩
def BJ6_bitCount_0f7a4_0 (G : Nat → KT) (Q : Option mV → mM → Prop) : KT := (s_iload 0 (s_iload 0 (s_iconst (1) (s_bin (fun x y => (x.toUInt32 >>> (y.toUInt32 &&& Int32.toUInt32 31)).toInt32) (s_iconst (1431655765) (s_bin (fun x y => x &&& y) (s_bin (fun x y => x - y) (s_istore 0 (s_iload 0 (s_iconst (858993459) (s_bin (fun x y => x &&& y) (s_iload 0 (s_iconst (2) (s_bin (fun x y => (x.toUInt32 >>> (y.toUInt32 &&& Int32.toUInt32 31)).toInt32) (s_iconst (858993459) (s_bin (fun x y => x &&& y) (s_bin (fun x y => x + y) (s_istore 0 (s_iload 0 (s_iload 0 (s_iconst (4) (s_bin (fun x y => (x.toUInt32 >>> (y.toUInt32 &&& Int32.toUInt32 31)).toInt32) (s_bin (fun x y => x + y) (s_iconst (252645135) (s_bin (fun x y => x &&& y) (s_istore 0 (s_iload 0 (s_iload 0 (s_iconst (8) (s_bin (fun x y => (x.toUInt32 >>> (y.toUInt32 &&& Int32.toUInt32 31)).toInt32) (s_bin (fun x y => x + y) (s_istore 0 (s_iload 0 (s_iload 0 (s_iconst (16) (s_bin (fun x y => (x.toUInt32 >>> (y.toUInt32 &&& Int32.toUInt32 31)).toInt32) (s_bin (fun x y => x + y) (s_istore 0 (s_iload 0 (s_iconst (63) (s_bin (fun x y => x &&& y) (s_iret Q))))))))))))))))))))))))))))))))))))))))))
set_option maxRecDepth 4000 in
theorem bsJ6_bitCount_0f7a4_0 {p : Program} {l : Launch} {e : Env} {s : State} {m : MethodId} {args : Array Value} {below : List Frame} {meth : Method} {c : Code} {D : va_G} {ca : Nat → ClassId} {ad : Nat → Nat} {A : Nat → Prop} {Q : Option mV → mM → Prop} (hX : CX p s m args meth c 1 cJ6_bitCount_0f7a4 "java/lang/Integer" D ca ad A) (hr : meth.sig.returnType = (Option.some FieldType.int)) : ∀ lv st M, BJ6_bitCount_0f7a4_0 (Gd p l e (rmD 0) s m args below meth c 1 D ca ad A 0 0 (MQ below (QC D ca ad A Q) args s 0 0 A)) Q lv st M → Gd p l e (rmD 0) s m args below meth c 1 D ca ad A 0 0 (MQ below (QC D ca ad A Q) args s 0 0 A) 0 lv st M :=
  (sd_iload_n hX dJ6_bitCount_0f7a4_0 rfl (sd_iload_n hX dJ6_bitCount_0f7a4_1 rfl (sd_iconst hX dJ6_bitCount_0f7a4_2 rfl (sd_iushr hX dJ6_bitCount_0f7a4_3 (sd_ldcw hX w_644 dJ6_bitCount_0f7a4_4 (sd_iand hX dJ6_bitCount_0f7a4_7 (sd_isub hX dJ6_bitCount_0f7a4_8 (sd_istore_n hX (by decide) dJ6_bitCount_0f7a4_9 rfl (sd_iload_n hX dJ6_bitCount_0f7a4_10 rfl (sd_ldcw hX w_645 dJ6_bitCount_0f7a4_11 (sd_iand hX dJ6_bitCount_0f7a4_14 (sd_iload_n hX dJ6_bitCount_0f7a4_15 rfl (sd_iconst hX dJ6_bitCount_0f7a4_16 rfl (sd_iushr hX dJ6_bitCount_0f7a4_17 (sd_ldcw hX w_645 dJ6_bitCount_0f7a4_18 (sd_iand hX dJ6_bitCount_0f7a4_21 (sd_iadd hX dJ6_bitCount_0f7a4_22 (sd_istore_n hX (by decide) dJ6_bitCount_0f7a4_23 rfl (sd_iload_n hX dJ6_bitCount_0f7a4_24 rfl (sd_iload_n hX dJ6_bitCount_0f7a4_25 rfl (sd_iconst hX dJ6_bitCount_0f7a4_26 rfl (sd_iushr hX dJ6_bitCount_0f7a4_27 (sd_iadd hX dJ6_bitCount_0f7a4_28 (sd_ldcw hX w_646 dJ6_bitCount_0f7a4_29 (sd_iand hX dJ6_bitCount_0f7a4_32 (sd_istore_n hX (by decide) dJ6_bitCount_0f7a4_33 rfl (sd_iload_n hX dJ6_bitCount_0f7a4_34 rfl (sd_iload_n hX dJ6_bitCount_0f7a4_35 rfl (sd_bipush hX dJ6_bitCount_0f7a4_36 rfl (sd_iushr hX dJ6_bitCount_0f7a4_38 (sd_iadd hX dJ6_bitCount_0f7a4_39 (sd_istore_n hX (by decide) dJ6_bitCount_0f7a4_40 rfl (sd_iload_n hX dJ6_bitCount_0f7a4_41 rfl (sd_iload_n hX dJ6_bitCount_0f7a4_42 rfl (sd_bipush hX dJ6_bitCount_0f7a4_43 rfl (sd_iushr hX dJ6_bitCount_0f7a4_45 (sd_iadd hX dJ6_bitCount_0f7a4_46 (sd_istore_n hX (by decide) dJ6_bitCount_0f7a4_47 rfl (sd_iload_n hX dJ6_bitCount_0f7a4_48 rfl (sd_bipush hX dJ6_bitCount_0f7a4_49 rfl (sd_iand hX dJ6_bitCount_0f7a4_51 (sd_iret hX hr dJ6_bitCount_0f7a4_52))))))))))))))))))))))))))))))))))))))))))
set_option maxHeartbeats 400000 in
theorem pf_J6_bitCount_0f7a4 (G : Nat → KT) (Q : Option mV → mM → Prop) (h0 : ∀ lv st M, BJ6_bitCount_0f7a4_0 G Q lv st M → G 0 lv st M) (as : List mV) (M : mM) (ho : ∀ v ∈ as, okV v) (hp : pre_J6_bitCount_0f7a4 as M) (hQ : Q (fn_J6_bitCount_0f7a4 as M).1 (fn_J6_bitCount_0f7a4 as M).2) : G 0 (inL as ++ List.replicate (1 - (inL as).length) none) [] M := by
  obtain ⟨x, rfl⟩ := hp
  (apply h0; simp only [BJ6_bitCount_0f7a4_0, s_mth, s_mab, s_at, s_iconst, s_lconst, s_iload, s_lload, s_aload, s_istore, s_lstore, s_astore, s_iinc, s_bin, s_binG, s_un, s_lbin, s_lbinG, s_lsh, s_lcmp, s_i2l, s_l2i, s_dup, s_dup2, s_pop, s_if, s_icmp, s_geti, s_getl, s_getr, s_puti, s_putz, s_putl, s_iald, s_zald, s_iast, s_zast, s_aaldS, s_aaldU, s_gets, s_tald, s_tsw, tsw, s_iret, s_zret, s_lret, s_aret, s_vret, s_callV, s_callS, c1, nl1, keepL, csum, pushR, inL, List.getD_cons_zero, List.getD_cons_succ, List.set_cons_zero, List.set_cons_succ, List.cons_append, List.nil_append, List.append_nil, List.replicate, List.length_cons, List.length_nil, List.take_succ_cons, List.take_zero, List.drop_succ_cons, List.drop_zero, List.reverse_cons, List.reverse_nil, true_and, and_true, forall_const, not_true_eq_false, not_false_eq_true, false_implies, true_implies, implies_true, one0, m10, Nat.reduceAdd, Nat.reduceSub, Nat.reduceLeDiff, Nat.zero_add, Nat.add_zero])
  exact hQ
theorem ct_J6_bitCount_0f7a4 (l : Launch) : Con l yJ6_bitCount_0f7a4 cJ6_bitCount_0f7a4 1 (Option.some FieldType.int) 0 pre_J6_bitCount_0f7a4 fn_J6_bitCount_0f7a4 := con_of (by decide +kernel) ok_J6_bitCount_0f7a4 len_J6_bitCount_0f7a4 (fun p e s m args below meth c D ca ad A as M hX hr hp ho => pf_J6_bitCount_0f7a4 _ _ (bsJ6_bitCount_0f7a4_0 hX hr) as M ho hp ⟨rfl, rfl⟩)
def wi (x y z : Int32) : Int32 := if x < y then 0 else if z < x then 0 else 1
def pre_X11_within (as : List mV) (M : mM) : Prop := ∃ x y z, as = [.inl x, .inl y, .inl z]
def fn_X11_within : List mV → mM → Option mV × mM
  | [.inl x, .inl y, .inl z], M => (some (.inl (wi x y z)), M)
  | _, M => (none, M)
theorem ok_X11_within (as : List mV) (M : mM) (h : pre_X11_within as M) (_ : ∀ v ∈ as, okV v) : okR (fn_X11_within as M).1 := by
  obtain ⟨x, y, z, rfl⟩ := h
  first | trivial | exact (by decide +kernel : kof 14 = 8)
theorem len_X11_within (as : List mV) (M : mM) (h : pre_X11_within as M) : (inL as).length ≤ 3 := by
  obtain ⟨x, y, z, rfl⟩ := h
  exact Nat.le_of_ble_eq_true rfl


theorem dX11_within_0 : decode cX11_within 0 = .ok (.iload_n 0, 1) := by decide +kernel
theorem dX11_within_1 : decode cX11_within 1 = .ok (.iload_n 1, 1) := by decide +kernel
theorem dX11_within_2 : decode cX11_within 2 = .ok (.if_icmp .lt 12, 3) := by decide +kernel
theorem dX11_within_5 : decode cX11_within 5 = .ok (.iload_n 0, 1) := by decide +kernel
theorem dX11_within_6 : decode cX11_within 6 = .ok (.iload_n 2, 1) := by decide +kernel
theorem dX11_within_7 : decode cX11_within 7 = .ok (.if_icmp .gt 7, 3) := by decide +kernel
theorem dX11_within_10 : decode cX11_within 10 = .ok (.iconst 1, 1) := by decide +kernel
theorem dX11_within_11 : decode cX11_within 11 = .ok (.goto 4, 3) := by decide +kernel
theorem dX11_within_14 : decode cX11_within 14 = .ok (.iconst 0, 1) := by decide +kernel
theorem dX11_within_15 : decode cX11_within 15 = .ok (.ireturn, 1) := by decide +kernel
theorem mk_X11_within : MSk yX11_within cX11_within 3 (Option.some FieldType.boolean) 3 := ⟨w_344, w_343, w_1, by decide +kernel, by decide +kernel, by decide +kernel⟩
def BX11_within_0 (G : Nat → KT) (Q : Option mV → mM → Prop) : KT := (s_iload 0 (s_iload 1 (s_icmp (fun x y => x < y) (s_at G 14 [false, false, false]) (s_iload 0 (s_iload 2 (s_icmp (fun x y => y < x) (s_at G 14 [false, false, false]) (s_iconst (1) (s_at G 15 [false, false, false]))))))))
set_option maxRecDepth 4000 in
theorem bsX11_within_0 {p : Program} {l : Launch} {e : Env} {s : State} {m : MethodId} {args : Array Value} {below : List Frame} {meth : Method} {c : Code} {D : va_G} {ca : Nat → ClassId} {ad : Nat → Nat} {A : Nat → Prop} {Q : Option mV → mM → Prop} (hX : CX p s m args meth c 3 cX11_within "FairBlocks" D ca ad A) (hr : meth.sig.returnType = (Option.some FieldType.boolean)) : ∀ lv st M, BX11_within_0 (Gd p l e (rmD 0) s m args below meth c 3 D ca ad A 0 0 (MQ below (QC D ca ad A Q) args s 0 0 A)) Q lv st M → Gd p l e (rmD 0) s m args below meth c 3 D ca ad A 0 0 (MQ below (QC D ca ad A Q) args s 0 0 A) 0 lv st M :=
  (sd_iload_n hX dX11_within_0 rfl (sd_iload_n hX dX11_within_1 rfl (sd_icmp_lt hX dX11_within_2 (by decide) sd_at (sd_iload_n hX dX11_within_5 rfl (sd_iload_n hX dX11_within_6 rfl (sd_icmp_gt hX dX11_within_7 (by decide) sd_at (sd_iconst hX dX11_within_10 rfl (sd_goto hX dX11_within_11 (by decide) sd_at))))))))
def BX11_within_14 (G : Nat → KT) (Q : Option mV → mM → Prop) : KT := (s_iconst (0) (s_at G 15 [false, false, false]))
set_option maxRecDepth 4000 in
theorem bsX11_within_14 {p : Program} {l : Launch} {e : Env} {s : State} {m : MethodId} {args : Array Value} {below : List Frame} {meth : Method} {c : Code} {D : va_G} {ca : Nat → ClassId} {ad : Nat → Nat} {A : Nat → Prop} {Q : Option mV → mM → Prop} (hX : CX p s m args meth c 3 cX11_within "FairBlocks" D ca ad A) (hr : meth.sig.returnType = (Option.some FieldType.boolean)) : ∀ lv st M, BX11_within_14 (Gd p l e (rmD 0) s m args below meth c 3 D ca ad A 0 0 (MQ below (QC D ca ad A Q) args s 0 0 A)) Q lv st M → Gd p l e (rmD 0) s m args below meth c 3 D ca ad A 0 0 (MQ below (QC D ca ad A Q) args s 0 0 A) 14 lv st M :=
  (sd_iconst hX dX11_within_14 rfl sd_at)
def BX11_within_15 (G : Nat → KT) (Q : Option mV → mM → Prop) : KT := (s_zret Q)
set_option maxRecDepth 4000 in
theorem bsX11_within_15 {p : Program} {l : Launch} {e : Env} {s : State} {m : MethodId} {args : Array Value} {below : List Frame} {meth : Method} {c : Code} {D : va_G} {ca : Nat → ClassId} {ad : Nat → Nat} {A : Nat → Prop} {Q : Option mV → mM → Prop} (hX : CX p s m args meth c 3 cX11_within "FairBlocks" D ca ad A) (hr : meth.sig.returnType = (Option.some FieldType.boolean)) : ∀ lv st M, BX11_within_15 (Gd p l e (rmD 0) s m args below meth c 3 D ca ad A 0 0 (MQ below (QC D ca ad A Q) args s 0 0 A)) Q lv st M → Gd p l e (rmD 0) s m args below meth c 3 D ca ad A 0 0 (MQ below (QC D ca ad A Q) args s 0 0 A) 15 lv st M :=
  sd_zret hX hr dX11_within_15
set_option maxHeartbeats 400000 in
theorem pf_X11_within (G : Nat → KT) (Q : Option mV → mM → Prop) (h0 : ∀ lv st M, BX11_within_0 G Q lv st M → G 0 lv st M) (h14 : ∀ lv st M, BX11_within_14 G Q lv st M → G 14 lv st M) (h15 : ∀ lv st M, BX11_within_15 G Q lv st M → G 15 lv st M) (as : List mV) (M : mM) (ho : ∀ v ∈ as, okV v) (hp : pre_X11_within as M) (hQ : Q (fn_X11_within as M).1 (fn_X11_within as M).2) : G 0 (inL as ++ List.replicate (3 - (inL as).length) none) [] M := by
  obtain ⟨x, y, z, rfl⟩ := hp
  simp only [fn_X11_within, wi] at hQ
  repeat' (first | (first | (apply h0; simp only [BX11_within_0, s_mth, s_mab, s_at, s_iconst, s_lconst, s_iload, s_lload, s_aload, s_istore, s_lstore, s_astore, s_iinc, s_bin, s_binG, s_un, s_lbin, s_lbinG, s_lsh, s_lcmp, s_i2l, s_l2i, s_dup, s_dup2, s_pop, s_if, s_icmp, s_geti, s_getl, s_getr, s_puti, s_putz, s_putl, s_iald, s_zald, s_iast, s_zast, s_aaldS, s_aaldU, s_gets, s_tald, s_tsw, tsw, s_iret, s_zret, s_lret, s_aret, s_vret, s_callV, s_callS, c1, nl1, keepL, csum, pushR, inL, List.getD_cons_zero, List.getD_cons_succ, List.set_cons_zero, List.set_cons_succ, List.cons_append, List.nil_append, List.append_nil, List.replicate, List.length_cons, List.length_nil, List.take_succ_cons, List.take_zero, List.drop_succ_cons, List.drop_zero, List.reverse_cons, List.reverse_nil, true_and, and_true, forall_const, not_true_eq_false, not_false_eq_true, false_implies, true_implies, implies_true, one0, m10, Nat.reduceAdd, Nat.reduceSub, Nat.reduceLeDiff, Nat.zero_add, Nat.add_zero]) | (apply h14; simp only [BX11_within_14, s_mth, s_mab, s_at, s_iconst, s_lconst, s_iload, s_lload, s_aload, s_istore, s_lstore, s_astore, s_iinc, s_bin, s_binG, s_un, s_lbin, s_lbinG, s_lsh, s_lcmp, s_i2l, s_l2i, s_dup, s_dup2, s_pop, s_if, s_icmp, s_geti, s_getl, s_getr, s_puti, s_putz, s_putl, s_iald, s_zald, s_iast, s_zast, s_aaldS, s_aaldU, s_gets, s_tald, s_tsw, tsw, s_iret, s_zret, s_lret, s_aret, s_vret, s_callV, s_callS, c1, nl1, keepL, csum, pushR, inL, List.getD_cons_zero, List.getD_cons_succ, List.set_cons_zero, List.set_cons_succ, List.cons_append, List.nil_append, List.append_nil, List.replicate, List.length_cons, List.length_nil, List.take_succ_cons, List.take_zero, List.drop_succ_cons, List.drop_zero, List.reverse_cons, List.reverse_nil, true_and, and_true, forall_const, not_true_eq_false, not_false_eq_true, false_implies, true_implies, implies_true, one0, m10, Nat.reduceAdd, Nat.reduceSub, Nat.reduceLeDiff, Nat.zero_add, Nat.add_zero]) | (apply h15; simp only [BX11_within_15, s_mth, s_mab, s_at, s_iconst, s_lconst, s_iload, s_lload, s_aload, s_istore, s_lstore, s_astore, s_iinc, s_bin, s_binG, s_un, s_lbin, s_lbinG, s_lsh, s_lcmp, s_i2l, s_l2i, s_dup, s_dup2, s_pop, s_if, s_icmp, s_geti, s_getl, s_getr, s_puti, s_putz, s_putl, s_iald, s_zald, s_iast, s_zast, s_aaldS, s_aaldU, s_gets, s_tald, s_tsw, tsw, s_iret, s_zret, s_lret, s_aret, s_vret, s_callV, s_callS, c1, nl1, keepL, csum, pushR, inL, List.getD_cons_zero, List.getD_cons_succ, List.set_cons_zero, List.set_cons_succ, List.cons_append, List.nil_append, List.append_nil, List.replicate, List.length_cons, List.length_nil, List.take_succ_cons, List.take_zero, List.drop_succ_cons, List.drop_zero, List.reverse_cons, List.reverse_nil, true_and, and_true, forall_const, not_true_eq_false, not_false_eq_true, false_implies, true_implies, implies_true, one0, m10, Nat.reduceAdd, Nat.reduceSub, Nat.reduceLeDiff, Nat.zero_add, Nat.add_zero])) | refine ⟨?_, ?_⟩ | intro hc)
  all_goals clear h0 h14 h15
  all_goals (first | exact hQ | (simp only [*, if_true, if_false] at hQ; exact hQ) | (simp [*] at hQ; simpa using hQ) | (exfalso; simp_all; done) | (simp_all; done))
theorem ct_X11_within (l : Launch) : Con l yX11_within cX11_within 3 (Option.some FieldType.boolean) 0 pre_X11_within fn_X11_within := con_of (by decide +kernel) ok_X11_within len_X11_within (fun p e s m args below meth c D ca ad A as M hX hr hp ho => pf_X11_within _ _ (bsX11_within_0 hX hr) (bsX11_within_14 hX hr) (bsX11_within_15 hX hr) as M ho hp ⟨rfl, rfl⟩)
/-! User -/
def pre_X10_takeIn (as : List mV) (M : mM) : Prop := ∃ k x, as = [.inr (.inr (10, k)), .inl x]
def fn_X10_takeIn : List mV → mM → Option mV × mM
  | [.inr (.inr (_, k)), .inl x], M => (none, mset M k 4 (if M.1 k 4 + x ≤ 999 then M.1 k 4 + x else 999))
  | _, M => (none, M)
theorem ok_X10_takeIn (as : List mV) (M : mM) (h : pre_X10_takeIn as M) (_ : ∀ v ∈ as, okV v) : okR (fn_X10_takeIn as M).1 := by
  obtain ⟨k, x, rfl⟩ := h
  first | trivial | exact (by decide +kernel : kof 14 = 8)
theorem len_X10_takeIn (as : List mV) (M : mM) (h : pre_X10_takeIn as M) : (inL as).length ≤ 3 := by
  obtain ⟨k, x, rfl⟩ := h
  exact Nat.le_of_ble_eq_true rfl

theorem fl_107 : FLk "FairBlocks$User" 25 10 4 0 := ⟨RX10, TX10, 10, rfl, inX10, by decide, w_107, by decide, rfl⟩
theorem fp_107 : FPk "FairBlocks$User" 25 10 4 0 .int := ⟨RX10, TX10, 10, tyX10, rfl, inX10, by decide, w_107, by decide, rfl, tyX10_ok, nmX10, rfl, rfl⟩
theorem dX10_takeIn_0 : decode cX10_takeIn 0 = .ok (.aload_n 0, 1) := by decide +kernel
theorem dX10_takeIn_1 : decode cX10_takeIn 1 = .ok (.getfield 25, 3) := by decide +kernel
theorem dX10_takeIn_4 : decode cX10_takeIn 4 = .ok (.iload_n 1, 1) := by decide +kernel
theorem dX10_takeIn_5 : decode cX10_takeIn 5 = .ok (.iadd, 1) := by decide +kernel
theorem dX10_takeIn_6 : decode cX10_takeIn 6 = .ok (.istore_n 2, 1) := by decide +kernel
theorem dX10_takeIn_7 : decode cX10_takeIn 7 = .ok (.aload_n 0, 1) := by decide +kernel
theorem dX10_takeIn_8 : decode cX10_takeIn 8 = .ok (.iload_n 2, 1) := by decide +kernel
theorem dX10_takeIn_9 : decode cX10_takeIn 9 = .ok (.sipush 999, 3) := by decide +kernel
theorem dX10_takeIn_12 : decode cX10_takeIn 12 = .ok (.if_icmp .le 9, 3) := by decide +kernel
theorem dX10_takeIn_15 : decode cX10_takeIn 15 = .ok (.sipush 999, 3) := by decide +kernel
theorem dX10_takeIn_18 : decode cX10_takeIn 18 = .ok (.goto 4, 3) := by decide +kernel
theorem dX10_takeIn_21 : decode cX10_takeIn 21 = .ok (.iload_n 2, 1) := by decide +kernel
theorem dX10_takeIn_22 : decode cX10_takeIn 22 = .ok (.putfield 25, 3) := by decide +kernel
theorem dX10_takeIn_25 : decode cX10_takeIn 25 = .ok (.return_, 1) := by decide +kernel
theorem mk_X10_takeIn : MVk yX10_takeIn "FairBlocks$User" cX10_takeIn 3 (Option.none : Option FieldType) 1 := ⟨w_440, w_438, w_439, w_6, rfl, by decide +kernel, by decide +kernel, by decide +kernel⟩
def BX10_takeIn_0 (G : Nat → KT) (Q : Option mV → mM → Prop) : KT := (s_aload 0 (s_geti 10 4 (s_iload 1 (s_bin (fun x y => x + y) (s_istore 2 (s_aload 0 (s_iload 2 (s_iconst (999) (s_icmp (fun x y => x ≤ y) (s_at G 21 [false, false, true]) (s_iconst (999) (s_at G 22 [false, false, false])))))))))))
set_option maxRecDepth 4000 in
theorem bsX10_takeIn_0 {p : Program} {l : Launch} {e : Env} {s : State} {m : MethodId} {args : Array Value} {below : List Frame} {meth : Method} {c : Code} {D : va_G} {ca : Nat → ClassId} {ad : Nat → Nat} {A : Nat → Prop} {Q : Option mV → mM → Prop} (hX : CX p s m args meth c 3 cX10_takeIn "FairBlocks$User" D ca ad A) (hr : meth.sig.returnType = (Option.none : Option FieldType)) : ∀ lv st M, BX10_takeIn_0 (Gd p l e (rmD 0) s m args below meth c 3 D ca ad A 0 0 (MQ below (QC D ca ad A Q) args s 0 0 A)) Q lv st M → Gd p l e (rmD 0) s m args below meth c 3 D ca ad A 0 0 (MQ below (QC D ca ad A Q) args s 0 0 A) 0 lv st M :=
  (sd_aload_n hX dX10_takeIn_0 rfl (sd_geti hX fl_107 (by decide) dX10_takeIn_1 (sd_iload_n hX dX10_takeIn_4 rfl (sd_iadd hX dX10_takeIn_5 (sd_istore_n hX (by decide) dX10_takeIn_6 rfl (sd_aload_n hX dX10_takeIn_7 rfl (sd_iload_n hX dX10_takeIn_8 rfl (sd_sipush hX dX10_takeIn_9 rfl (sd_icmp_le hX dX10_takeIn_12 (by decide) sd_at (sd_sipush hX dX10_takeIn_15 rfl (sd_goto hX dX10_takeIn_18 (by decide) sd_at)))))))))))
def BX10_takeIn_21 (G : Nat → KT) (Q : Option mV → mM → Prop) : KT := (s_iload 2 (s_at G 22 [false, false, false]))
set_option maxRecDepth 4000 in
theorem bsX10_takeIn_21 {p : Program} {l : Launch} {e : Env} {s : State} {m : MethodId} {args : Array Value} {below : List Frame} {meth : Method} {c : Code} {D : va_G} {ca : Nat → ClassId} {ad : Nat → Nat} {A : Nat → Prop} {Q : Option mV → mM → Prop} (hX : CX p s m args meth c 3 cX10_takeIn "FairBlocks$User" D ca ad A) (hr : meth.sig.returnType = (Option.none : Option FieldType)) : ∀ lv st M, BX10_takeIn_21 (Gd p l e (rmD 0) s m args below meth c 3 D ca ad A 0 0 (MQ below (QC D ca ad A Q) args s 0 0 A)) Q lv st M → Gd p l e (rmD 0) s m args below meth c 3 D ca ad A 0 0 (MQ below (QC D ca ad A Q) args s 0 0 A) 21 lv st M :=
  (sd_iload_n hX dX10_takeIn_21 rfl sd_at)
def BX10_takeIn_22 (G : Nat → KT) (Q : Option mV → mM → Prop) : KT := (s_puti 10 4 (s_vret Q))
set_option maxRecDepth 4000 in
theorem bsX10_takeIn_22 {p : Program} {l : Launch} {e : Env} {s : State} {m : MethodId} {args : Array Value} {below : List Frame} {meth : Method} {c : Code} {D : va_G} {ca : Nat → ClassId} {ad : Nat → Nat} {A : Nat → Prop} {Q : Option mV → mM → Prop} (hX : CX p s m args meth c 3 cX10_takeIn "FairBlocks$User" D ca ad A) (hr : meth.sig.returnType = (Option.none : Option FieldType)) : ∀ lv st M, BX10_takeIn_22 (Gd p l e (rmD 0) s m args below meth c 3 D ca ad A 0 0 (MQ below (QC D ca ad A Q) args s 0 0 A)) Q lv st M → Gd p l e (rmD 0) s m args below meth c 3 D ca ad A 0 0 (MQ below (QC D ca ad A Q) args s 0 0 A) 22 lv st M :=
  (sd_puti hX fp_107 dX10_takeIn_22 (sd_vret hX hr dX10_takeIn_25))
set_option maxHeartbeats 400000 in
theorem pf_X10_takeIn (G : Nat → KT) (Q : Option mV → mM → Prop) (h0 : ∀ lv st M, BX10_takeIn_0 G Q lv st M → G 0 lv st M) (h21 : ∀ lv st M, BX10_takeIn_21 G Q lv st M → G 21 lv st M) (h22 : ∀ lv st M, BX10_takeIn_22 G Q lv st M → G 22 lv st M) (as : List mV) (M : mM) (ho : ∀ v ∈ as, okV v) (hp : pre_X10_takeIn as M) (hQ : Q (fn_X10_takeIn as M).1 (fn_X10_takeIn as M).2) : G 0 (inL as ++ List.replicate (3 - (inL as).length) none) [] M := by
  obtain ⟨k, x, rfl⟩ := hp
  simp only [fn_X10_takeIn] at hQ
  repeat' (first | (first | (apply h0; simp only [BX10_takeIn_0, s_mth, s_mab, s_at, s_iconst, s_lconst, s_iload, s_lload, s_aload, s_istore, s_lstore, s_astore, s_iinc, s_bin, s_binG, s_un, s_lbin, s_lbinG, s_lsh, s_lcmp, s_i2l, s_l2i, s_dup, s_dup2, s_pop, s_if, s_icmp, s_geti, s_getl, s_getr, s_puti, s_putz, s_putl, s_iald, s_zald, s_iast, s_zast, s_aaldS, s_aaldU, s_gets, s_tald, s_tsw, tsw, s_iret, s_zret, s_lret, s_aret, s_vret, s_callV, s_callS, c1, nl1, keepL, csum, pushR, inL, List.getD_cons_zero, List.getD_cons_succ, List.set_cons_zero, List.set_cons_succ, List.cons_append, List.nil_append, List.append_nil, List.replicate, List.length_cons, List.length_nil, List.take_succ_cons, List.take_zero, List.drop_succ_cons, List.drop_zero, List.reverse_cons, List.reverse_nil, true_and, and_true, forall_const, not_true_eq_false, not_false_eq_true, false_implies, true_implies, implies_true, one0, m10, Nat.reduceAdd, Nat.reduceSub, Nat.reduceLeDiff, Nat.zero_add, Nat.add_zero]) | (apply h21; simp only [BX10_takeIn_21, s_mth, s_mab, s_at, s_iconst, s_lconst, s_iload, s_lload, s_aload, s_istore, s_lstore, s_astore, s_iinc, s_bin, s_binG, s_un, s_lbin, s_lbinG, s_lsh, s_lcmp, s_i2l, s_l2i, s_dup, s_dup2, s_pop, s_if, s_icmp, s_geti, s_getl, s_getr, s_puti, s_putz, s_putl, s_iald, s_zald, s_iast, s_zast, s_aaldS, s_aaldU, s_gets, s_tald, s_tsw, tsw, s_iret, s_zret, s_lret, s_aret, s_vret, s_callV, s_callS, c1, nl1, keepL, csum, pushR, inL, List.getD_cons_zero, List.getD_cons_succ, List.set_cons_zero, List.set_cons_succ, List.cons_append, List.nil_append, List.append_nil, List.replicate, List.length_cons, List.length_nil, List.take_succ_cons, List.take_zero, List.drop_succ_cons, List.drop_zero, List.reverse_cons, List.reverse_nil, true_and, and_true, forall_const, not_true_eq_false, not_false_eq_true, false_implies, true_implies, implies_true, one0, m10, Nat.reduceAdd, Nat.reduceSub, Nat.reduceLeDiff, Nat.zero_add, Nat.add_zero]) | (apply h22; simp only [BX10_takeIn_22, s_mth, s_mab, s_at, s_iconst, s_lconst, s_iload, s_lload, s_aload, s_istore, s_lstore, s_astore, s_iinc, s_bin, s_binG, s_un, s_lbin, s_lbinG, s_lsh, s_lcmp, s_i2l, s_l2i, s_dup, s_dup2, s_pop, s_if, s_icmp, s_geti, s_getl, s_getr, s_puti, s_putz, s_putl, s_iald, s_zald, s_iast, s_zast, s_aaldS, s_aaldU, s_gets, s_tald, s_tsw, tsw, s_iret, s_zret, s_lret, s_aret, s_vret, s_callV, s_callS, c1, nl1, keepL, csum, pushR, inL, List.getD_cons_zero, List.getD_cons_succ, List.set_cons_zero, List.set_cons_succ, List.cons_append, List.nil_append, List.append_nil, List.replicate, List.length_cons, List.length_nil, List.take_succ_cons, List.take_zero, List.drop_succ_cons, List.drop_zero, List.reverse_cons, List.reverse_nil, true_and, and_true, forall_const, not_true_eq_false, not_false_eq_true, false_implies, true_implies, implies_true, one0, m10, Nat.reduceAdd, Nat.reduceSub, Nat.reduceLeDiff, Nat.zero_add, Nat.add_zero])) | refine ⟨?_, ?_⟩ | intro hc)
  all_goals clear h0 h21 h22
  all_goals (simp only [*, if_true, if_false] at hQ; exact hQ)
theorem ct_X10_takeIn (l : Launch) : Con l yX10_takeIn cX10_takeIn 3 (Option.none : Option FieldType) 0 pre_X10_takeIn fn_X10_takeIn := con_of (by decide +kernel) ok_X10_takeIn len_X10_takeIn (fun p e s m args below meth c D ca ad A as M hX hr hp ho => pf_X10_takeIn _ _ (bsX10_takeIn_0 hX hr) (bsX10_takeIn_21 hX hr) (bsX10_takeIn_22 hX hr) as M ho hp ⟨rfl, rfl⟩)
def pre_X10_waiting (as : List mV) (M : mM) : Prop := ∃ k, as = [.inr (.inr (10, k))]
def fn_X10_waiting : List mV → mM → Option mV × mM
  | [.inr (.inr (_, k))], M => (some (.inl (M.1 k 4 + M.1 k 5)), M)
  | _, M => (none, M)
theorem ok_X10_waiting (as : List mV) (M : mM) (h : pre_X10_waiting as M) (_ : ∀ v ∈ as, okV v) : okR (fn_X10_waiting as M).1 := by
  obtain ⟨k, rfl⟩ := h
  first | trivial | exact (by decide +kernel : kof 14 = 8)
theorem len_X10_waiting (as : List mV) (M : mM) (h : pre_X10_waiting as M) : (inL as).length ≤ 1 := by
  obtain ⟨k, rfl⟩ := h
  exact Nat.le_of_ble_eq_true rfl

theorem fl_109 : FLk "FairBlocks$User" 28 10 5 0 := ⟨RX10, TX10, 10, rfl, inX10, by decide, w_109, by decide, rfl⟩
theorem dX10_waiting_0 : decode cX10_waiting 0 = .ok (.aload_n 0, 1) := by decide +kernel
theorem dX10_waiting_1 : decode cX10_waiting 1 = .ok (.getfield 25, 3) := by decide +kernel
theorem dX10_waiting_4 : decode cX10_waiting 4 = .ok (.aload_n 0, 1) := by decide +kernel
theorem dX10_waiting_5 : decode cX10_waiting 5 = .ok (.getfield 28, 3) := by decide +kernel
theorem dX10_waiting_8 : decode cX10_waiting 8 = .ok (.iadd, 1) := by decide +kernel
theorem dX10_waiting_9 : decode cX10_waiting 9 = .ok (.ireturn, 1) := by decide +kernel
theorem mk_X10_waiting : MVk yX10_waiting "FairBlocks$User" cX10_waiting 1 (Option.some FieldType.int) 0 := ⟨w_468, w_466, w_467, w_6, rfl, by decide +kernel, by decide +kernel, by decide +kernel⟩
def BX10_waiting_0 (G : Nat → KT) (Q : Option mV → mM → Prop) : KT := (s_aload 0 (s_geti 10 4 (s_aload 0 (s_geti 10 5 (s_bin (fun x y => x + y) (s_iret Q))))))
set_option maxRecDepth 4000 in
theorem bsX10_waiting_0 {p : Program} {l : Launch} {e : Env} {s : State} {m : MethodId} {args : Array Value} {below : List Frame} {meth : Method} {c : Code} {D : va_G} {ca : Nat → ClassId} {ad : Nat → Nat} {A : Nat → Prop} {Q : Option mV → mM → Prop} (hX : CX p s m args meth c 1 cX10_waiting "FairBlocks$User" D ca ad A) (hr : meth.sig.returnType = (Option.some FieldType.int)) : ∀ lv st M, BX10_waiting_0 (Gd p l e (rmD 0) s m args below meth c 1 D ca ad A 0 0 (MQ below (QC D ca ad A Q) args s 0 0 A)) Q lv st M → Gd p l e (rmD 0) s m args below meth c 1 D ca ad A 0 0 (MQ below (QC D ca ad A Q) args s 0 0 A) 0 lv st M :=
  (sd_aload_n hX dX10_waiting_0 rfl (sd_geti hX fl_107 (by decide) dX10_waiting_1 (sd_aload_n hX dX10_waiting_4 rfl (sd_geti hX fl_109 (by decide) dX10_waiting_5 (sd_iadd hX dX10_waiting_8 (sd_iret hX hr dX10_waiting_9))))))
set_option maxHeartbeats 400000 in
theorem pf_X10_waiting (G : Nat → KT) (Q : Option mV → mM → Prop) (h0 : ∀ lv st M, BX10_waiting_0 G Q lv st M → G 0 lv st M) (as : List mV) (M : mM) (ho : ∀ v ∈ as, okV v) (hp : pre_X10_waiting as M) (hQ : Q (fn_X10_waiting as M).1 (fn_X10_waiting as M).2) : G 0 (inL as ++ List.replicate (1 - (inL as).length) none) [] M := by
  obtain ⟨k, rfl⟩ := hp
  (apply h0; simp only [BX10_waiting_0, s_mth, s_mab, s_at, s_iconst, s_lconst, s_iload, s_lload, s_aload, s_istore, s_lstore, s_astore, s_iinc, s_bin, s_binG, s_un, s_lbin, s_lbinG, s_lsh, s_lcmp, s_i2l, s_l2i, s_dup, s_dup2, s_pop, s_if, s_icmp, s_geti, s_getl, s_getr, s_puti, s_putz, s_putl, s_iald, s_zald, s_iast, s_zast, s_aaldS, s_aaldU, s_gets, s_tald, s_tsw, tsw, s_iret, s_zret, s_lret, s_aret, s_vret, s_callV, s_callS, c1, nl1, keepL, csum, pushR, inL, List.getD_cons_zero, List.getD_cons_succ, List.set_cons_zero, List.set_cons_succ, List.cons_append, List.nil_append, List.append_nil, List.replicate, List.length_cons, List.length_nil, List.take_succ_cons, List.take_zero, List.drop_succ_cons, List.drop_zero, List.reverse_cons, List.reverse_nil, true_and, and_true, forall_const, not_true_eq_false, not_false_eq_true, false_implies, true_implies, implies_true, one0, m10, Nat.reduceAdd, Nat.reduceSub, Nat.reduceLeDiff, Nat.zero_add, Nat.add_zero])
  exact hQ
theorem ct_X10_waiting (l : Launch) : Con l yX10_waiting cX10_waiting 1 (Option.some FieldType.int) 0 pre_X10_waiting fn_X10_waiting := con_of (by decide +kernel) ok_X10_waiting len_X10_waiting (fun p e s m args below meth c D ca ad A as M hX hr hp ho => pf_X10_waiting _ _ (bsX10_waiting_0 hX hr) as M ho hp ⟨rfl, rfl⟩)
def pre_X10_dropAll (as : List mV) (M : mM) : Prop := ∃ k, as = [.inr (.inr (10, k))]
def fn_X10_dropAll : List mV → mM → Option mV × mM
  | [.inr (.inr (_, k))], M => (none, mset (mset M k 4 0) k 5 0)
  | _, M => (none, M)
theorem ok_X10_dropAll (as : List mV) (M : mM) (h : pre_X10_dropAll as M) (_ : ∀ v ∈ as, okV v) : okR (fn_X10_dropAll as M).1 := by
  obtain ⟨k, rfl⟩ := h
  first | trivial | exact (by decide +kernel : kof 14 = 8)
theorem len_X10_dropAll (as : List mV) (M : mM) (h : pre_X10_dropAll as M) : (inL as).length ≤ 1 := by
  obtain ⟨k, rfl⟩ := h
  exact Nat.le_of_ble_eq_true rfl

theorem fp_109 : FPk "FairBlocks$User" 28 10 5 0 .int := ⟨RX10, TX10, 10, tyX10, rfl, inX10, by decide, w_109, by decide, rfl, tyX10_ok, nmX10, rfl, rfl⟩
theorem dX10_dropAll_0 : decode cX10_dropAll 0 = .ok (.aload_n 0, 1) := by decide +kernel
theorem dX10_dropAll_1 : decode cX10_dropAll 1 = .ok (.iconst 0, 1) := by decide +kernel
theorem dX10_dropAll_2 : decode cX10_dropAll 2 = .ok (.putfield 25, 3) := by decide +kernel
theorem dX10_dropAll_5 : decode cX10_dropAll 5 = .ok (.aload_n 0, 1) := by decide +kernel
theorem dX10_dropAll_6 : decode cX10_dropAll 6 = .ok (.iconst 0, 1) := by decide +kernel
theorem dX10_dropAll_7 : decode cX10_dropAll 7 = .ok (.putfield 28, 3) := by decide +kernel
theorem dX10_dropAll_10 : decode cX10_dropAll 10 = .ok (.return_, 1) := by decide +kernel
theorem mk_X10_dropAll : MVk yX10_dropAll "FairBlocks$User" cX10_dropAll 1 (Option.none : Option FieldType) 0 := ⟨w_481, w_479, w_480, w_6, rfl, by decide +kernel, by decide +kernel, by decide +kernel⟩
def BX10_dropAll_0 (G : Nat → KT) (Q : Option mV → mM → Prop) : KT := (s_aload 0 (s_iconst (0) (s_puti 10 4 (s_aload 0 (s_iconst (0) (s_puti 10 5 (s_vret Q)))))))
set_option maxRecDepth 4000 in
theorem bsX10_dropAll_0 {p : Program} {l : Launch} {e : Env} {s : State} {m : MethodId} {args : Array Value} {below : List Frame} {meth : Method} {c : Code} {D : va_G} {ca : Nat → ClassId} {ad : Nat → Nat} {A : Nat → Prop} {Q : Option mV → mM → Prop} (hX : CX p s m args meth c 1 cX10_dropAll "FairBlocks$User" D ca ad A) (hr : meth.sig.returnType = (Option.none : Option FieldType)) : ∀ lv st M, BX10_dropAll_0 (Gd p l e (rmD 0) s m args below meth c 1 D ca ad A 0 0 (MQ below (QC D ca ad A Q) args s 0 0 A)) Q lv st M → Gd p l e (rmD 0) s m args below meth c 1 D ca ad A 0 0 (MQ below (QC D ca ad A Q) args s 0 0 A) 0 lv st M :=
  (sd_aload_n hX dX10_dropAll_0 rfl (sd_iconst hX dX10_dropAll_1 rfl (sd_puti hX fp_107 dX10_dropAll_2 (sd_aload_n hX dX10_dropAll_5 rfl (sd_iconst hX dX10_dropAll_6 rfl (sd_puti hX fp_109 dX10_dropAll_7 (sd_vret hX hr dX10_dropAll_10)))))))
set_option maxHeartbeats 400000 in
theorem pf_X10_dropAll (G : Nat → KT) (Q : Option mV → mM → Prop) (h0 : ∀ lv st M, BX10_dropAll_0 G Q lv st M → G 0 lv st M) (as : List mV) (M : mM) (ho : ∀ v ∈ as, okV v) (hp : pre_X10_dropAll as M) (hQ : Q (fn_X10_dropAll as M).1 (fn_X10_dropAll as M).2) : G 0 (inL as ++ List.replicate (1 - (inL as).length) none) [] M := by
  obtain ⟨k, rfl⟩ := hp
  (apply h0; simp only [BX10_dropAll_0, s_mth, s_mab, s_at, s_iconst, s_lconst, s_iload, s_lload, s_aload, s_istore, s_lstore, s_astore, s_iinc, s_bin, s_binG, s_un, s_lbin, s_lbinG, s_lsh, s_lcmp, s_i2l, s_l2i, s_dup, s_dup2, s_pop, s_if, s_icmp, s_geti, s_getl, s_getr, s_puti, s_putz, s_putl, s_iald, s_zald, s_iast, s_zast, s_aaldS, s_aaldU, s_gets, s_tald, s_tsw, tsw, s_iret, s_zret, s_lret, s_aret, s_vret, s_callV, s_callS, c1, nl1, keepL, csum, pushR, inL, List.getD_cons_zero, List.getD_cons_succ, List.set_cons_zero, List.set_cons_succ, List.cons_append, List.nil_append, List.append_nil, List.replicate, List.length_cons, List.length_nil, List.take_succ_cons, List.take_zero, List.drop_succ_cons, List.drop_zero, List.reverse_cons, List.reverse_nil, true_and, and_true, forall_const, not_true_eq_false, not_false_eq_true, false_implies, true_implies, implies_true, one0, m10, Nat.reduceAdd, Nat.reduceSub, Nat.reduceLeDiff, Nat.zero_add, Nat.add_zero])
  exact hQ
theorem ct_X10_dropAll (l : Launch) : Con l yX10_dropAll cX10_dropAll 1 (Option.none : Option FieldType) 0 pre_X10_dropAll fn_X10_dropAll := con_of (by decide +kernel) ok_X10_dropAll len_X10_dropAll (fun p e s m args below meth c D ca ad A as M hX hr hp ho => pf_X10_dropAll _ _ (bsX10_dropAll_0 hX hr) as M ho hp ⟨rfl, rfl⟩)
def pre_X10_begin (as : List mV) (M : mM) : Prop := ∃ k x y z, as = [.inr (.inr (10, k)), .inl x, .inl y, .inl z]
def fn_X10_begin : List mV → mM → Option mV × mM
  | [.inr (.inr (_, k)), .inl x, .inl y, .inl z], M => (none, mset (mset (mset (mset (mset (mset (mset (mset (mset (mset M k 0 x) k 1 y) k 2 z) k 3 0) k 4 0) k 5 0) k 6 0) k 7 0) k 8 0) k 9 0)
  | _, M => (none, M)
theorem ok_X10_begin (as : List mV) (M : mM) (h : pre_X10_begin as M) (_ : ∀ v ∈ as, okV v) : okR (fn_X10_begin as M).1 := by
  obtain ⟨k, x, y, z, rfl⟩ := h
  first | trivial | exact (by decide +kernel : kof 14 = 8)
theorem len_X10_begin (as : List mV) (M : mM) (h : pre_X10_begin as M) : (inL as).length ≤ 4 := by
  obtain ⟨k, x, y, z, rfl⟩ := h
  exact Nat.le_of_ble_eq_true rfl

theorem fp_100 : FPk "FairBlocks$User" 21 10 3 1 .boolean := ⟨RX10, TX10, 10, tyX10, rfl, inX10, by decide, w_100, by decide, rfl, tyX10_ok, nmX10, rfl, rfl⟩
theorem fp_111 : FPk "FairBlocks$User" 31 10 6 0 .int := ⟨RX10, TX10, 10, tyX10, rfl, inX10, by decide, w_111, by decide, rfl, tyX10_ok, nmX10, rfl, rfl⟩
theorem fp_113 : FPk "FairBlocks$User" 34 10 7 0 .int := ⟨RX10, TX10, 10, tyX10, rfl, inX10, by decide, w_113, by decide, rfl, tyX10_ok, nmX10, rfl, rfl⟩
theorem fp_118 : FPk "FairBlocks$User" 37 10 8 0 .int := ⟨RX10, TX10, 10, tyX10, rfl, inX10, by decide, w_118, by decide, rfl, tyX10_ok, nmX10, rfl, rfl⟩
theorem fp_119 : FPk "FairBlocks$User" 40 10 9 0 .int := ⟨RX10, TX10, 10, tyX10, rfl, inX10, by decide, w_119, by decide, rfl, tyX10_ok, nmX10, rfl, rfl⟩
theorem fp_93 : FPk "FairBlocks$User" 9 10 0 0 .int := ⟨RX10, TX10, 10, tyX10, rfl, inX10, by decide, w_93, by decide, rfl, tyX10_ok, nmX10, rfl, rfl⟩
theorem fp_95 : FPk "FairBlocks$User" 15 10 1 0 .int := ⟨RX10, TX10, 10, tyX10, rfl, inX10, by decide, w_95, by decide, rfl, tyX10_ok, nmX10, rfl, rfl⟩
theorem fp_99 : FPk "FairBlocks$User" 18 10 2 0 .int := ⟨RX10, TX10, 10, tyX10, rfl, inX10, by decide, w_99, by decide, rfl, tyX10_ok, nmX10, rfl, rfl⟩
theorem dX10_begin_0 : decode cX10_begin 0 = .ok (.aload_n 0, 1) := by decide +kernel
theorem dX10_begin_1 : decode cX10_begin 1 = .ok (.iload_n 1, 1) := by decide +kernel
theorem dX10_begin_2 : decode cX10_begin 2 = .ok (.putfield 9, 3) := by decide +kernel
theorem dX10_begin_5 : decode cX10_begin 5 = .ok (.aload_n 0, 1) := by decide +kernel
theorem dX10_begin_6 : decode cX10_begin 6 = .ok (.iload_n 2, 1) := by decide +kernel
theorem dX10_begin_7 : decode cX10_begin 7 = .ok (.putfield 15, 3) := by decide +kernel
theorem dX10_begin_10 : decode cX10_begin 10 = .ok (.aload_n 0, 1) := by decide +kernel
theorem dX10_begin_11 : decode cX10_begin 11 = .ok (.iload_n 3, 1) := by decide +kernel
theorem dX10_begin_12 : decode cX10_begin 12 = .ok (.putfield 18, 3) := by decide +kernel
theorem dX10_begin_15 : decode cX10_begin 15 = .ok (.aload_n 0, 1) := by decide +kernel
theorem dX10_begin_16 : decode cX10_begin 16 = .ok (.iconst 0, 1) := by decide +kernel
theorem dX10_begin_17 : decode cX10_begin 17 = .ok (.putfield 21, 3) := by decide +kernel
theorem dX10_begin_20 : decode cX10_begin 20 = .ok (.aload_n 0, 1) := by decide +kernel
theorem dX10_begin_21 : decode cX10_begin 21 = .ok (.iconst 0, 1) := by decide +kernel
theorem dX10_begin_22 : decode cX10_begin 22 = .ok (.putfield 25, 3) := by decide +kernel
theorem dX10_begin_25 : decode cX10_begin 25 = .ok (.aload_n 0, 1) := by decide +kernel
theorem dX10_begin_26 : decode cX10_begin 26 = .ok (.iconst 0, 1) := by decide +kernel
theorem dX10_begin_27 : decode cX10_begin 27 = .ok (.putfield 28, 3) := by decide +kernel
theorem dX10_begin_30 : decode cX10_begin 30 = .ok (.aload_n 0, 1) := by decide +kernel
theorem dX10_begin_31 : decode cX10_begin 31 = .ok (.iconst 0, 1) := by decide +kernel
theorem dX10_begin_32 : decode cX10_begin 32 = .ok (.putfield 31, 3) := by decide +kernel
theorem dX10_begin_35 : decode cX10_begin 35 = .ok (.aload_n 0, 1) := by decide +kernel
theorem dX10_begin_36 : decode cX10_begin 36 = .ok (.iconst 0, 1) := by decide +kernel
theorem dX10_begin_37 : decode cX10_begin 37 = .ok (.putfield 34, 3) := by decide +kernel
theorem dX10_begin_40 : decode cX10_begin 40 = .ok (.aload_n 0, 1) := by decide +kernel
theorem dX10_begin_41 : decode cX10_begin 41 = .ok (.iconst 0, 1) := by decide +kernel
theorem dX10_begin_42 : decode cX10_begin 42 = .ok (.putfield 37, 3) := by decide +kernel
theorem dX10_begin_45 : decode cX10_begin 45 = .ok (.aload_n 0, 1) := by decide +kernel
theorem dX10_begin_46 : decode cX10_begin 46 = .ok (.iconst 0, 1) := by decide +kernel
theorem dX10_begin_47 : decode cX10_begin 47 = .ok (.putfield 40, 3) := by decide +kernel
theorem dX10_begin_50 : decode cX10_begin 50 = .ok (.return_, 1) := by decide +kernel
theorem mk_X10_begin : MVk yX10_begin "FairBlocks$User" cX10_begin 4 (Option.none : Option FieldType) 3 := ⟨w_383, w_381, w_382, w_6, rfl, by decide +kernel, by decide +kernel, by decide +kernel⟩
def BX10_begin_0 (G : Nat → KT) (Q : Option mV → mM → Prop) : KT := (s_aload 0 (s_iload 1 (s_puti 10 0 (s_aload 0 (s_iload 2 (s_puti 10 1 (s_aload 0 (s_iload 3 (s_puti 10 2 (s_aload 0 (s_iconst (0) (s_putz 10 3 (s_aload 0 (s_iconst (0) (s_puti 10 4 (s_aload 0 (s_iconst (0) (s_puti 10 5 (s_aload 0 (s_iconst (0) (s_puti 10 6 (s_aload 0 (s_iconst (0) (s_puti 10 7 (s_aload 0 (s_iconst (0) (s_puti 10 8 (s_aload 0 (s_iconst (0) (s_puti 10 9 (s_vret Q)))))))))))))))))))))))))))))))
set_option maxRecDepth 4000 in
theorem bsX10_begin_0 {p : Program} {l : Launch} {e : Env} {s : State} {m : MethodId} {args : Array Value} {below : List Frame} {meth : Method} {c : Code} {D : va_G} {ca : Nat → ClassId} {ad : Nat → Nat} {A : Nat → Prop} {Q : Option mV → mM → Prop} (hX : CX p s m args meth c 4 cX10_begin "FairBlocks$User" D ca ad A) (hr : meth.sig.returnType = (Option.none : Option FieldType)) : ∀ lv st M, BX10_begin_0 (Gd p l e (rmD 0) s m args below meth c 4 D ca ad A 0 0 (MQ below (QC D ca ad A Q) args s 0 0 A)) Q lv st M → Gd p l e (rmD 0) s m args below meth c 4 D ca ad A 0 0 (MQ below (QC D ca ad A Q) args s 0 0 A) 0 lv st M :=
  (sd_aload_n hX dX10_begin_0 rfl (sd_iload_n hX dX10_begin_1 rfl (sd_puti hX fp_93 dX10_begin_2 (sd_aload_n hX dX10_begin_5 rfl (sd_iload_n hX dX10_begin_6 rfl (sd_puti hX fp_95 dX10_begin_7 (sd_aload_n hX dX10_begin_10 rfl (sd_iload_n hX dX10_begin_11 rfl (sd_puti hX fp_99 dX10_begin_12 (sd_aload_n hX dX10_begin_15 rfl (sd_iconst hX dX10_begin_16 rfl (sd_putz hX fp_100 dX10_begin_17 (sd_aload_n hX dX10_begin_20 rfl (sd_iconst hX dX10_begin_21 rfl (sd_puti hX fp_107 dX10_begin_22 (sd_aload_n hX dX10_begin_25 rfl (sd_iconst hX dX10_begin_26 rfl (sd_puti hX fp_109 dX10_begin_27 (sd_aload_n hX dX10_begin_30 rfl (sd_iconst hX dX10_begin_31 rfl (sd_puti hX fp_111 dX10_begin_32 (sd_aload_n hX dX10_begin_35 rfl (sd_iconst hX dX10_begin_36 rfl (sd_puti hX fp_113 dX10_begin_37 (sd_aload_n hX dX10_begin_40 rfl (sd_iconst hX dX10_begin_41 rfl (sd_puti hX fp_118 dX10_begin_42 (sd_aload_n hX dX10_begin_45 rfl (sd_iconst hX dX10_begin_46 rfl (sd_puti hX fp_119 dX10_begin_47 (sd_vret hX hr dX10_begin_50)))))))))))))))))))))))))))))))
set_option maxHeartbeats 400000 in
theorem pf_X10_begin (G : Nat → KT) (Q : Option mV → mM → Prop) (h0 : ∀ lv st M, BX10_begin_0 G Q lv st M → G 0 lv st M) (as : List mV) (M : mM) (ho : ∀ v ∈ as, okV v) (hp : pre_X10_begin as M) (hQ : Q (fn_X10_begin as M).1 (fn_X10_begin as M).2) : G 0 (inL as ++ List.replicate (4 - (inL as).length) none) [] M := by
  obtain ⟨k, x, y, z, rfl⟩ := hp
  (apply h0; simp only [BX10_begin_0, s_mth, s_mab, s_at, s_iconst, s_lconst, s_iload, s_lload, s_aload, s_istore, s_lstore, s_astore, s_iinc, s_bin, s_binG, s_un, s_lbin, s_lbinG, s_lsh, s_lcmp, s_i2l, s_l2i, s_dup, s_dup2, s_pop, s_if, s_icmp, s_geti, s_getl, s_getr, s_puti, s_putz, s_putl, s_iald, s_zald, s_iast, s_zast, s_aaldS, s_aaldU, s_gets, s_tald, s_tsw, tsw, s_iret, s_zret, s_lret, s_aret, s_vret, s_callV, s_callS, c1, nl1, keepL, csum, pushR, inL, List.getD_cons_zero, List.getD_cons_succ, List.set_cons_zero, List.set_cons_succ, List.cons_append, List.nil_append, List.append_nil, List.replicate, List.length_cons, List.length_nil, List.take_succ_cons, List.take_zero, List.drop_succ_cons, List.drop_zero, List.reverse_cons, List.reverse_nil, true_and, and_true, forall_const, not_true_eq_false, not_false_eq_true, false_implies, true_implies, implies_true, one0, m10, Nat.reduceAdd, Nat.reduceSub, Nat.reduceLeDiff, Nat.zero_add, Nat.add_zero])
  exact ⟨Or.inl trivial, hQ⟩
theorem ct_X10_begin (l : Launch) : Con l yX10_begin cX10_begin 4 (Option.none : Option FieldType) 0 pre_X10_begin fn_X10_begin := con_of (by decide +kernel) ok_X10_begin len_X10_begin (fun p e s m args below meth c D ca ad A as M hX hr hp ho => pf_X10_begin _ _ (bsX10_begin_0 hX hr) as M ho hp ⟨rfl, rfl⟩)
def cpU (M : mM) (k o : Nat) : mM := mset (mset (mset (mset (mset (mset (mset (mset (mset (mset M k 0 (M.1 o 0)) k 1 (M.1 o 1)) k 2 (M.1 o 2)) k 3 (M.1 o 3)) k 4 (M.1 o 4)) k 5 (M.1 o 5)) k 6 (M.1 o 6)) k 7 (M.1 o 7)) k 8 (M.1 o 8)) k 9 (M.1 o 9)
def pre_X10_copyFrom (as : List mV) (M : mM) : Prop := ∃ k o, as = [.inr (.inr (10, k)), .inr (.inr (10, o))] ∧ (M.1 o 3 = 0 ∨ M.1 o 3 = 1)
def fn_X10_copyFrom : List mV → mM → Option mV × mM
  | [.inr (.inr (_, k)), .inr (.inr (_, o))], M => (none, cpU M k o)
  | _, M => (none, M)
theorem ok_X10_copyFrom (as : List mV) (M : mM) (h : pre_X10_copyFrom as M) (_ : ∀ v ∈ as, okV v) : okR (fn_X10_copyFrom as M).1 := by
  obtain ⟨k, o, rfl, -⟩ := h
  first | trivial | exact (by decide +kernel : kof 14 = 8)
theorem len_X10_copyFrom (as : List mV) (M : mM) (h : pre_X10_copyFrom as M) : (inL as).length ≤ 2 := by
  obtain ⟨k, o, rfl, -⟩ := h
  exact Nat.le_of_ble_eq_true rfl

theorem fl_100 : FLk "FairBlocks$User" 21 10 3 1 := ⟨RX10, TX10, 10, rfl, inX10, by decide, w_100, by decide, rfl⟩
theorem fl_111 : FLk "FairBlocks$User" 31 10 6 0 := ⟨RX10, TX10, 10, rfl, inX10, by decide, w_111, by decide, rfl⟩
theorem fl_113 : FLk "FairBlocks$User" 34 10 7 0 := ⟨RX10, TX10, 10, rfl, inX10, by decide, w_113, by decide, rfl⟩
theorem fl_118 : FLk "FairBlocks$User" 37 10 8 0 := ⟨RX10, TX10, 10, rfl, inX10, by decide, w_118, by decide, rfl⟩
theorem fl_119 : FLk "FairBlocks$User" 40 10 9 0 := ⟨RX10, TX10, 10, rfl, inX10, by decide, w_119, by decide, rfl⟩
theorem fl_93 : FLk "FairBlocks$User" 9 10 0 0 := ⟨RX10, TX10, 10, rfl, inX10, by decide, w_93, by decide, rfl⟩
theorem fl_95 : FLk "FairBlocks$User" 15 10 1 0 := ⟨RX10, TX10, 10, rfl, inX10, by decide, w_95, by decide, rfl⟩
theorem fl_99 : FLk "FairBlocks$User" 18 10 2 0 := ⟨RX10, TX10, 10, rfl, inX10, by decide, w_99, by decide, rfl⟩
theorem dX10_copyFrom_0 : decode cX10_copyFrom 0 = .ok (.aload_n 0, 1) := by decide +kernel
theorem dX10_copyFrom_1 : decode cX10_copyFrom 1 = .ok (.aload_n 1, 1) := by decide +kernel
theorem dX10_copyFrom_2 : decode cX10_copyFrom 2 = .ok (.getfield 9, 3) := by decide +kernel
theorem dX10_copyFrom_5 : decode cX10_copyFrom 5 = .ok (.putfield 9, 3) := by decide +kernel
theorem dX10_copyFrom_8 : decode cX10_copyFrom 8 = .ok (.aload_n 0, 1) := by decide +kernel
theorem dX10_copyFrom_9 : decode cX10_copyFrom 9 = .ok (.aload_n 1, 1) := by decide +kernel
theorem dX10_copyFrom_10 : decode cX10_copyFrom 10 = .ok (.getfield 15, 3) := by decide +kernel
theorem dX10_copyFrom_13 : decode cX10_copyFrom 13 = .ok (.putfield 15, 3) := by decide +kernel
theorem dX10_copyFrom_16 : decode cX10_copyFrom 16 = .ok (.aload_n 0, 1) := by decide +kernel
theorem dX10_copyFrom_17 : decode cX10_copyFrom 17 = .ok (.aload_n 1, 1) := by decide +kernel
theorem dX10_copyFrom_18 : decode cX10_copyFrom 18 = .ok (.getfield 18, 3) := by decide +kernel
theorem dX10_copyFrom_21 : decode cX10_copyFrom 21 = .ok (.putfield 18, 3) := by decide +kernel
theorem dX10_copyFrom_24 : decode cX10_copyFrom 24 = .ok (.aload_n 0, 1) := by decide +kernel
theorem dX10_copyFrom_25 : decode cX10_copyFrom 25 = .ok (.aload_n 1, 1) := by decide +kernel
theorem dX10_copyFrom_26 : decode cX10_copyFrom 26 = .ok (.getfield 21, 3) := by decide +kernel
theorem dX10_copyFrom_29 : decode cX10_copyFrom 29 = .ok (.putfield 21, 3) := by decide +kernel
theorem dX10_copyFrom_32 : decode cX10_copyFrom 32 = .ok (.aload_n 0, 1) := by decide +kernel
theorem dX10_copyFrom_33 : decode cX10_copyFrom 33 = .ok (.aload_n 1, 1) := by decide +kernel
theorem dX10_copyFrom_34 : decode cX10_copyFrom 34 = .ok (.getfield 25, 3) := by decide +kernel
theorem dX10_copyFrom_37 : decode cX10_copyFrom 37 = .ok (.putfield 25, 3) := by decide +kernel
theorem dX10_copyFrom_40 : decode cX10_copyFrom 40 = .ok (.aload_n 0, 1) := by decide +kernel
theorem dX10_copyFrom_41 : decode cX10_copyFrom 41 = .ok (.aload_n 1, 1) := by decide +kernel
theorem dX10_copyFrom_42 : decode cX10_copyFrom 42 = .ok (.getfield 28, 3) := by decide +kernel
theorem dX10_copyFrom_45 : decode cX10_copyFrom 45 = .ok (.putfield 28, 3) := by decide +kernel
theorem dX10_copyFrom_48 : decode cX10_copyFrom 48 = .ok (.aload_n 0, 1) := by decide +kernel
theorem dX10_copyFrom_49 : decode cX10_copyFrom 49 = .ok (.aload_n 1, 1) := by decide +kernel
theorem dX10_copyFrom_50 : decode cX10_copyFrom 50 = .ok (.getfield 31, 3) := by decide +kernel
theorem dX10_copyFrom_53 : decode cX10_copyFrom 53 = .ok (.putfield 31, 3) := by decide +kernel
theorem dX10_copyFrom_56 : decode cX10_copyFrom 56 = .ok (.aload_n 0, 1) := by decide +kernel
theorem dX10_copyFrom_57 : decode cX10_copyFrom 57 = .ok (.aload_n 1, 1) := by decide +kernel
theorem dX10_copyFrom_58 : decode cX10_copyFrom 58 = .ok (.getfield 34, 3) := by decide +kernel
theorem dX10_copyFrom_61 : decode cX10_copyFrom 61 = .ok (.putfield 34, 3) := by decide +kernel
theorem dX10_copyFrom_64 : decode cX10_copyFrom 64 = .ok (.aload_n 0, 1) := by decide +kernel
theorem dX10_copyFrom_65 : decode cX10_copyFrom 65 = .ok (.aload_n 1, 1) := by decide +kernel
theorem dX10_copyFrom_66 : decode cX10_copyFrom 66 = .ok (.getfield 37, 3) := by decide +kernel
theorem dX10_copyFrom_69 : decode cX10_copyFrom 69 = .ok (.putfield 37, 3) := by decide +kernel
theorem dX10_copyFrom_72 : decode cX10_copyFrom 72 = .ok (.aload_n 0, 1) := by decide +kernel
theorem dX10_copyFrom_73 : decode cX10_copyFrom 73 = .ok (.aload_n 1, 1) := by decide +kernel
theorem dX10_copyFrom_74 : decode cX10_copyFrom 74 = .ok (.getfield 40, 3) := by decide +kernel
theorem dX10_copyFrom_77 : decode cX10_copyFrom 77 = .ok (.putfield 40, 3) := by decide +kernel
theorem dX10_copyFrom_80 : decode cX10_copyFrom 80 = .ok (.return_, 1) := by decide +kernel
theorem mk_X10_copyFrom : MVk yX10_copyFrom "FairBlocks$User" cX10_copyFrom 2 (Option.none : Option FieldType) 1 := ⟨w_424, w_422, w_423, w_6, rfl, by decide +kernel, by decide +kernel, by decide +kernel⟩
def BX10_copyFrom_0 (G : Nat → KT) (Q : Option mV → mM → Prop) : KT := (s_aload 0 (s_aload 1 (s_geti 10 0 (s_puti 10 0 (s_aload 0 (s_aload 1 (s_geti 10 1 (s_puti 10 1 (s_aload 0 (s_aload 1 (s_geti 10 2 (s_puti 10 2 (s_aload 0 (s_aload 1 (s_geti 10 3 (s_putz 10 3 (s_aload 0 (s_aload 1 (s_geti 10 4 (s_puti 10 4 (s_aload 0 (s_aload 1 (s_geti 10 5 (s_puti 10 5 (s_aload 0 (s_aload 1 (s_geti 10 6 (s_puti 10 6 (s_aload 0 (s_aload 1 (s_geti 10 7 (s_puti 10 7 (s_aload 0 (s_aload 1 (s_geti 10 8 (s_puti 10 8 (s_aload 0 (s_aload 1 (s_geti 10 9 (s_puti 10 9 (s_vret Q)))))))))))))))))))))))))))))))))))))))))
set_option maxRecDepth 4000 in
theorem bsX10_copyFrom_0 {p : Program} {l : Launch} {e : Env} {s : State} {m : MethodId} {args : Array Value} {below : List Frame} {meth : Method} {c : Code} {D : va_G} {ca : Nat → ClassId} {ad : Nat → Nat} {A : Nat → Prop} {Q : Option mV → mM → Prop} (hX : CX p s m args meth c 2 cX10_copyFrom "FairBlocks$User" D ca ad A) (hr : meth.sig.returnType = (Option.none : Option FieldType)) : ∀ lv st M, BX10_copyFrom_0 (Gd p l e (rmD 0) s m args below meth c 2 D ca ad A 0 0 (MQ below (QC D ca ad A Q) args s 0 0 A)) Q lv st M → Gd p l e (rmD 0) s m args below meth c 2 D ca ad A 0 0 (MQ below (QC D ca ad A Q) args s 0 0 A) 0 lv st M :=
  (sd_aload_n hX dX10_copyFrom_0 rfl (sd_aload_n hX dX10_copyFrom_1 rfl (sd_geti hX fl_93 (by decide) dX10_copyFrom_2 (sd_puti hX fp_93 dX10_copyFrom_5 (sd_aload_n hX dX10_copyFrom_8 rfl (sd_aload_n hX dX10_copyFrom_9 rfl (sd_geti hX fl_95 (by decide) dX10_copyFrom_10 (sd_puti hX fp_95 dX10_copyFrom_13 (sd_aload_n hX dX10_copyFrom_16 rfl (sd_aload_n hX dX10_copyFrom_17 rfl (sd_geti hX fl_99 (by decide) dX10_copyFrom_18 (sd_puti hX fp_99 dX10_copyFrom_21 (sd_aload_n hX dX10_copyFrom_24 rfl (sd_aload_n hX dX10_copyFrom_25 rfl (sd_geti hX fl_100 (by decide) dX10_copyFrom_26 (sd_putz hX fp_100 dX10_copyFrom_29 (sd_aload_n hX dX10_copyFrom_32 rfl (sd_aload_n hX dX10_copyFrom_33 rfl (sd_geti hX fl_107 (by decide) dX10_copyFrom_34 (sd_puti hX fp_107 dX10_copyFrom_37 (sd_aload_n hX dX10_copyFrom_40 rfl (sd_aload_n hX dX10_copyFrom_41 rfl (sd_geti hX fl_109 (by decide) dX10_copyFrom_42 (sd_puti hX fp_109 dX10_copyFrom_45 (sd_aload_n hX dX10_copyFrom_48 rfl (sd_aload_n hX dX10_copyFrom_49 rfl (sd_geti hX fl_111 (by decide) dX10_copyFrom_50 (sd_puti hX fp_111 dX10_copyFrom_53 (sd_aload_n hX dX10_copyFrom_56 rfl (sd_aload_n hX dX10_copyFrom_57 rfl (sd_geti hX fl_113 (by decide) dX10_copyFrom_58 (sd_puti hX fp_113 dX10_copyFrom_61 (sd_aload_n hX dX10_copyFrom_64 rfl (sd_aload_n hX dX10_copyFrom_65 rfl (sd_geti hX fl_118 (by decide) dX10_copyFrom_66 (sd_puti hX fp_118 dX10_copyFrom_69 (sd_aload_n hX dX10_copyFrom_72 rfl (sd_aload_n hX dX10_copyFrom_73 rfl (sd_geti hX fl_119 (by decide) dX10_copyFrom_74 (sd_puti hX fp_119 dX10_copyFrom_77 (sd_vret hX hr dX10_copyFrom_80)))))))))))))))))))))))))))))))))))))))))
set_option maxHeartbeats 400000 in
theorem pf_X10_copyFrom (G : Nat → KT) (Q : Option mV → mM → Prop) (h0 : ∀ lv st M, BX10_copyFrom_0 G Q lv st M → G 0 lv st M) (as : List mV) (M : mM) (ho : ∀ v ∈ as, okV v) (hp : pre_X10_copyFrom as M) (hQ : Q (fn_X10_copyFrom as M).1 (fn_X10_copyFrom as M).2) : G 0 (inL as ++ List.replicate (2 - (inL as).length) none) [] M := by
  obtain ⟨k, o, rfl, h3⟩ := hp
  (apply h0; simp only [BX10_copyFrom_0, s_mth, s_mab, s_at, s_iconst, s_lconst, s_iload, s_lload, s_aload, s_istore, s_lstore, s_astore, s_iinc, s_bin, s_binG, s_un, s_lbin, s_lbinG, s_lsh, s_lcmp, s_i2l, s_l2i, s_dup, s_dup2, s_pop, s_if, s_icmp, s_geti, s_getl, s_getr, s_puti, s_putz, s_putl, s_iald, s_zald, s_iast, s_zast, s_aaldS, s_aaldU, s_gets, s_tald, s_tsw, tsw, s_iret, s_zret, s_lret, s_aret, s_vret, s_callV, s_callS, c1, nl1, keepL, csum, pushR, inL, List.getD_cons_zero, List.getD_cons_succ, List.set_cons_zero, List.set_cons_succ, List.cons_append, List.nil_append, List.append_nil, List.replicate, List.length_cons, List.length_nil, List.take_succ_cons, List.take_zero, List.drop_succ_cons, List.drop_zero, List.reverse_cons, List.reverse_nil, true_and, and_true, forall_const, not_true_eq_false, not_false_eq_true, false_implies, true_implies, implies_true, one0, m10, Nat.reduceAdd, Nat.reduceSub, Nat.reduceLeDiff, Nat.zero_add, Nat.add_zero])
  simp [mset_get]
  exact ⟨h3, hQ⟩
theorem ct_X10_copyFrom (l : Launch) : Con l yX10_copyFrom cX10_copyFrom 2 (Option.none : Option FieldType) 0 pre_X10_copyFrom fn_X10_copyFrom := con_of (by decide +kernel) ok_X10_copyFrom len_X10_copyFrom (fun p e s m args below meth c D ca ad A as M hX hr hp ho => pf_X10_copyFrom _ _ (bsX10_copyFrom_0 hX hr) as M ho hp ⟨rfl, rfl⟩)
def told (M : mM) (k : Nat) (w : Int32) : Int32 := if w.toInt < 1 ∨ 10 < w.toInt then -2 else if w.toInt = 4 then (if M.1 k 3 = 0 then 0 else 1) else M.1 k (w.toInt.toNat - 1)
def pre_X10_told (as : List mV) (M : mM) : Prop := ∃ k x, as = [.inr (.inr (10, k)), .inl x]
def fn_X10_told : List mV → mM → Option mV × mM
  | [.inr (.inr (_, k)), .inl x], M => (some (.inl (told M k x)), M)
  | _, M => (none, M)
theorem ok_X10_told (as : List mV) (M : mM) (h : pre_X10_told as M) (_ : ∀ v ∈ as, okV v) : okR (fn_X10_told as M).1 := by
  obtain ⟨k, x, rfl⟩ := h
  first | trivial | exact (by decide +kernel : kof 14 = 8)
theorem len_X10_told (as : List mV) (M : mM) (h : pre_X10_told as M) : (inL as).length ≤ 2 := by
  obtain ⟨k, x, rfl⟩ := h
  exact Nat.le_of_ble_eq_true rfl


theorem dX10_told_0 : decode cX10_told 0 = .ok (.iload_n 1, 1) := by decide +kernel
theorem dX10_told_1 : decode cX10_told 1 = .ok (.tableswitch 113 1 10 #[55, 60, 65, 70, 83, 88, 93, 98, 103, 108], 55) := by decide +kernel
theorem dX10_told_56 : decode cX10_told 56 = .ok (.aload_n 0, 1) := by decide +kernel
theorem dX10_told_57 : decode cX10_told 57 = .ok (.getfield 9, 3) := by decide +kernel
theorem dX10_told_60 : decode cX10_told 60 = .ok (.ireturn, 1) := by decide +kernel
theorem dX10_told_61 : decode cX10_told 61 = .ok (.aload_n 0, 1) := by decide +kernel
theorem dX10_told_62 : decode cX10_told 62 = .ok (.getfield 15, 3) := by decide +kernel
theorem dX10_told_65 : decode cX10_told 65 = .ok (.ireturn, 1) := by decide +kernel
theorem dX10_told_66 : decode cX10_told 66 = .ok (.aload_n 0, 1) := by decide +kernel
theorem dX10_told_67 : decode cX10_told 67 = .ok (.getfield 18, 3) := by decide +kernel
theorem dX10_told_70 : decode cX10_told 70 = .ok (.ireturn, 1) := by decide +kernel
theorem dX10_told_71 : decode cX10_told 71 = .ok (.aload_n 0, 1) := by decide +kernel
theorem dX10_told_72 : decode cX10_told 72 = .ok (.getfield 21, 3) := by decide +kernel
theorem dX10_told_75 : decode cX10_told 75 = .ok (.ifCond .eq 7, 3) := by decide +kernel
theorem dX10_told_78 : decode cX10_told 78 = .ok (.iconst 1, 1) := by decide +kernel
theorem dX10_told_79 : decode cX10_told 79 = .ok (.goto 4, 3) := by decide +kernel
theorem dX10_told_82 : decode cX10_told 82 = .ok (.iconst 0, 1) := by decide +kernel
theorem dX10_told_83 : decode cX10_told 83 = .ok (.ireturn, 1) := by decide +kernel
theorem dX10_told_84 : decode cX10_told 84 = .ok (.aload_n 0, 1) := by decide +kernel
theorem dX10_told_85 : decode cX10_told 85 = .ok (.getfield 25, 3) := by decide +kernel
theorem dX10_told_88 : decode cX10_told 88 = .ok (.ireturn, 1) := by decide +kernel
theorem dX10_told_89 : decode cX10_told 89 = .ok (.aload_n 0, 1) := by decide +kernel
theorem dX10_told_90 : decode cX10_told 90 = .ok (.getfield 28, 3) := by decide +kernel
theorem dX10_told_93 : decode cX10_told 93 = .ok (.ireturn, 1) := by decide +kernel
theorem dX10_told_94 : decode cX10_told 94 = .ok (.aload_n 0, 1) := by decide +kernel
theorem dX10_told_95 : decode cX10_told 95 = .ok (.getfield 31, 3) := by decide +kernel
theorem dX10_told_98 : decode cX10_told 98 = .ok (.ireturn, 1) := by decide +kernel
theorem dX10_told_99 : decode cX10_told 99 = .ok (.aload_n 0, 1) := by decide +kernel
theorem dX10_told_100 : decode cX10_told 100 = .ok (.getfield 34, 3) := by decide +kernel
theorem dX10_told_103 : decode cX10_told 103 = .ok (.ireturn, 1) := by decide +kernel
theorem dX10_told_104 : decode cX10_told 104 = .ok (.aload_n 0, 1) := by decide +kernel
theorem dX10_told_105 : decode cX10_told 105 = .ok (.getfield 37, 3) := by decide +kernel
theorem dX10_told_108 : decode cX10_told 108 = .ok (.ireturn, 1) := by decide +kernel
theorem dX10_told_109 : decode cX10_told 109 = .ok (.aload_n 0, 1) := by decide +kernel
theorem dX10_told_110 : decode cX10_told 110 = .ok (.getfield 40, 3) := by decide +kernel
theorem dX10_told_113 : decode cX10_told 113 = .ok (.ireturn, 1) := by decide +kernel
theorem dX10_told_114 : decode cX10_told 114 = .ok (.bipush (-2), 2) := by decide +kernel
theorem dX10_told_116 : decode cX10_told 116 = .ok (.ireturn, 1) := by decide +kernel
theorem mk_X10_told : MVk yX10_told "FairBlocks$User" cX10_told 2 (Option.some FieldType.int) 1 := ⟨w_408, w_406, w_407, w_6, rfl, by decide +kernel, by decide +kernel, by decide +kernel⟩
def BX10_told_0 (G : Nat → KT) (Q : Option mV → mM → Prop) : KT := (s_iload 1 (s_tsw (1) (10) [s_at G 56 [true, false], s_at G 61 [true, false], s_at G 66 [true, false], s_at G 71 [true, false], s_at G 84 [true, false], s_at G 89 [true, false], s_at G 94 [true, false], s_at G 99 [true, false], s_at G 104 [true, false], s_at G 109 [true, false]] (s_at G 114 [false, false])))
set_option maxRecDepth 4000 in
theorem bsX10_told_0 {p : Program} {l : Launch} {e : Env} {s : State} {m : MethodId} {args : Array Value} {below : List Frame} {meth : Method} {c : Code} {D : va_G} {ca : Nat → ClassId} {ad : Nat → Nat} {A : Nat → Prop} {Q : Option mV → mM → Prop} (hX : CX p s m args meth c 2 cX10_told "FairBlocks$User" D ca ad A) (hr : meth.sig.returnType = (Option.some FieldType.int)) : ∀ lv st M, BX10_told_0 (Gd p l e (rmD 0) s m args below meth c 2 D ca ad A 0 0 (MQ below (QC D ca ad A Q) args s 0 0 A)) Q lv st M → Gd p l e (rmD 0) s m args below meth c 2 D ca ad A 0 0 (MQ below (QC D ca ad A Q) args s 0 0 A) 0 lv st M :=
  (sd_iload_n hX dX10_told_0 rfl (sd_tsw hX dX10_told_1 (ts := [56, 61, 66, 71, 84, 89, 94, 99, 104, 109]) (td := 114) (by decide) (by decide) rfl ⟨sd_at, sd_at, sd_at, sd_at, sd_at, sd_at, sd_at, sd_at, sd_at, sd_at, trivial⟩ sd_at))
def BX10_told_56 (G : Nat → KT) (Q : Option mV → mM → Prop) : KT := (s_aload 0 (s_geti 10 0 (s_iret Q)))
set_option maxRecDepth 4000 in
theorem bsX10_told_56 {p : Program} {l : Launch} {e : Env} {s : State} {m : MethodId} {args : Array Value} {below : List Frame} {meth : Method} {c : Code} {D : va_G} {ca : Nat → ClassId} {ad : Nat → Nat} {A : Nat → Prop} {Q : Option mV → mM → Prop} (hX : CX p s m args meth c 2 cX10_told "FairBlocks$User" D ca ad A) (hr : meth.sig.returnType = (Option.some FieldType.int)) : ∀ lv st M, BX10_told_56 (Gd p l e (rmD 0) s m args below meth c 2 D ca ad A 0 0 (MQ below (QC D ca ad A Q) args s 0 0 A)) Q lv st M → Gd p l e (rmD 0) s m args below meth c 2 D ca ad A 0 0 (MQ below (QC D ca ad A Q) args s 0 0 A) 56 lv st M :=
  (sd_aload_n hX dX10_told_56 rfl (sd_geti hX fl_93 (by decide) dX10_told_57 (sd_iret hX hr dX10_told_60)))
def BX10_told_61 (G : Nat → KT) (Q : Option mV → mM → Prop) : KT := (s_aload 0 (s_geti 10 1 (s_iret Q)))
set_option maxRecDepth 4000 in
theorem bsX10_told_61 {p : Program} {l : Launch} {e : Env} {s : State} {m : MethodId} {args : Array Value} {below : List Frame} {meth : Method} {c : Code} {D : va_G} {ca : Nat → ClassId} {ad : Nat → Nat} {A : Nat → Prop} {Q : Option mV → mM → Prop} (hX : CX p s m args meth c 2 cX10_told "FairBlocks$User" D ca ad A) (hr : meth.sig.returnType = (Option.some FieldType.int)) : ∀ lv st M, BX10_told_61 (Gd p l e (rmD 0) s m args below meth c 2 D ca ad A 0 0 (MQ below (QC D ca ad A Q) args s 0 0 A)) Q lv st M → Gd p l e (rmD 0) s m args below meth c 2 D ca ad A 0 0 (MQ below (QC D ca ad A Q) args s 0 0 A) 61 lv st M :=
  (sd_aload_n hX dX10_told_61 rfl (sd_geti hX fl_95 (by decide) dX10_told_62 (sd_iret hX hr dX10_told_65)))
def BX10_told_66 (G : Nat → KT) (Q : Option mV → mM → Prop) : KT := (s_aload 0 (s_geti 10 2 (s_iret Q)))
set_option maxRecDepth 4000 in
theorem bsX10_told_66 {p : Program} {l : Launch} {e : Env} {s : State} {m : MethodId} {args : Array Value} {below : List Frame} {meth : Method} {c : Code} {D : va_G} {ca : Nat → ClassId} {ad : Nat → Nat} {A : Nat → Prop} {Q : Option mV → mM → Prop} (hX : CX p s m args meth c 2 cX10_told "FairBlocks$User" D ca ad A) (hr : meth.sig.returnType = (Option.some FieldType.int)) : ∀ lv st M, BX10_told_66 (Gd p l e (rmD 0) s m args below meth c 2 D ca ad A 0 0 (MQ below (QC D ca ad A Q) args s 0 0 A)) Q lv st M → Gd p l e (rmD 0) s m args below meth c 2 D ca ad A 0 0 (MQ below (QC D ca ad A Q) args s 0 0 A) 66 lv st M :=
  (sd_aload_n hX dX10_told_66 rfl (sd_geti hX fl_99 (by decide) dX10_told_67 (sd_iret hX hr dX10_told_70)))
def BX10_told_71 (G : Nat → KT) (Q : Option mV → mM → Prop) : KT := (s_aload 0 (s_geti 10 3 (s_if (fun x => x = 0) (s_at G 82 [false, false]) (s_iconst (1) (s_at G 83 [false, false])))))
set_option maxRecDepth 4000 in
theorem bsX10_told_71 {p : Program} {l : Launch} {e : Env} {s : State} {m : MethodId} {args : Array Value} {below : List Frame} {meth : Method} {c : Code} {D : va_G} {ca : Nat → ClassId} {ad : Nat → Nat} {A : Nat → Prop} {Q : Option mV → mM → Prop} (hX : CX p s m args meth c 2 cX10_told "FairBlocks$User" D ca ad A) (hr : meth.sig.returnType = (Option.some FieldType.int)) : ∀ lv st M, BX10_told_71 (Gd p l e (rmD 0) s m args below meth c 2 D ca ad A 0 0 (MQ below (QC D ca ad A Q) args s 0 0 A)) Q lv st M → Gd p l e (rmD 0) s m args below meth c 2 D ca ad A 0 0 (MQ below (QC D ca ad A Q) args s 0 0 A) 71 lv st M :=
  (sd_aload_n hX dX10_told_71 rfl (sd_geti hX fl_100 (by decide) dX10_told_72 (sd_if_eq hX dX10_told_75 (by decide) sd_at (sd_iconst hX dX10_told_78 rfl (sd_goto hX dX10_told_79 (by decide) sd_at)))))
def BX10_told_82 (G : Nat → KT) (Q : Option mV → mM → Prop) : KT := (s_iconst (0) (s_at G 83 [false, false]))
set_option maxRecDepth 4000 in
theorem bsX10_told_82 {p : Program} {l : Launch} {e : Env} {s : State} {m : MethodId} {args : Array Value} {below : List Frame} {meth : Method} {c : Code} {D : va_G} {ca : Nat → ClassId} {ad : Nat → Nat} {A : Nat → Prop} {Q : Option mV → mM → Prop} (hX : CX p s m args meth c 2 cX10_told "FairBlocks$User" D ca ad A) (hr : meth.sig.returnType = (Option.some FieldType.int)) : ∀ lv st M, BX10_told_82 (Gd p l e (rmD 0) s m args below meth c 2 D ca ad A 0 0 (MQ below (QC D ca ad A Q) args s 0 0 A)) Q lv st M → Gd p l e (rmD 0) s m args below meth c 2 D ca ad A 0 0 (MQ below (QC D ca ad A Q) args s 0 0 A) 82 lv st M :=
  (sd_iconst hX dX10_told_82 rfl sd_at)
def BX10_told_83 (G : Nat → KT) (Q : Option mV → mM → Prop) : KT := (s_iret Q)
set_option maxRecDepth 4000 in
theorem bsX10_told_83 {p : Program} {l : Launch} {e : Env} {s : State} {m : MethodId} {args : Array Value} {below : List Frame} {meth : Method} {c : Code} {D : va_G} {ca : Nat → ClassId} {ad : Nat → Nat} {A : Nat → Prop} {Q : Option mV → mM → Prop} (hX : CX p s m args meth c 2 cX10_told "FairBlocks$User" D ca ad A) (hr : meth.sig.returnType = (Option.some FieldType.int)) : ∀ lv st M, BX10_told_83 (Gd p l e (rmD 0) s m args below meth c 2 D ca ad A 0 0 (MQ below (QC D ca ad A Q) args s 0 0 A)) Q lv st M → Gd p l e (rmD 0) s m args below meth c 2 D ca ad A 0 0 (MQ below (QC D ca ad A Q) args s 0 0 A) 83 lv st M :=
  sd_iret hX hr dX10_told_83
def BX10_told_84 (G : Nat → KT) (Q : Option mV → mM → Prop) : KT := (s_aload 0 (s_geti 10 4 (s_iret Q)))
set_option maxRecDepth 4000 in
theorem bsX10_told_84 {p : Program} {l : Launch} {e : Env} {s : State} {m : MethodId} {args : Array Value} {below : List Frame} {meth : Method} {c : Code} {D : va_G} {ca : Nat → ClassId} {ad : Nat → Nat} {A : Nat → Prop} {Q : Option mV → mM → Prop} (hX : CX p s m args meth c 2 cX10_told "FairBlocks$User" D ca ad A) (hr : meth.sig.returnType = (Option.some FieldType.int)) : ∀ lv st M, BX10_told_84 (Gd p l e (rmD 0) s m args below meth c 2 D ca ad A 0 0 (MQ below (QC D ca ad A Q) args s 0 0 A)) Q lv st M → Gd p l e (rmD 0) s m args below meth c 2 D ca ad A 0 0 (MQ below (QC D ca ad A Q) args s 0 0 A) 84 lv st M :=
  (sd_aload_n hX dX10_told_84 rfl (sd_geti hX fl_107 (by decide) dX10_told_85 (sd_iret hX hr dX10_told_88)))
def BX10_told_89 (G : Nat → KT) (Q : Option mV → mM → Prop) : KT := (s_aload 0 (s_geti 10 5 (s_iret Q)))
set_option maxRecDepth 4000 in
theorem bsX10_told_89 {p : Program} {l : Launch} {e : Env} {s : State} {m : MethodId} {args : Array Value} {below : List Frame} {meth : Method} {c : Code} {D : va_G} {ca : Nat → ClassId} {ad : Nat → Nat} {A : Nat → Prop} {Q : Option mV → mM → Prop} (hX : CX p s m args meth c 2 cX10_told "FairBlocks$User" D ca ad A) (hr : meth.sig.returnType = (Option.some FieldType.int)) : ∀ lv st M, BX10_told_89 (Gd p l e (rmD 0) s m args below meth c 2 D ca ad A 0 0 (MQ below (QC D ca ad A Q) args s 0 0 A)) Q lv st M → Gd p l e (rmD 0) s m args below meth c 2 D ca ad A 0 0 (MQ below (QC D ca ad A Q) args s 0 0 A) 89 lv st M :=
  (sd_aload_n hX dX10_told_89 rfl (sd_geti hX fl_109 (by decide) dX10_told_90 (sd_iret hX hr dX10_told_93)))
def BX10_told_94 (G : Nat → KT) (Q : Option mV → mM → Prop) : KT := (s_aload 0 (s_geti 10 6 (s_iret Q)))
set_option maxRecDepth 4000 in
theorem bsX10_told_94 {p : Program} {l : Launch} {e : Env} {s : State} {m : MethodId} {args : Array Value} {below : List Frame} {meth : Method} {c : Code} {D : va_G} {ca : Nat → ClassId} {ad : Nat → Nat} {A : Nat → Prop} {Q : Option mV → mM → Prop} (hX : CX p s m args meth c 2 cX10_told "FairBlocks$User" D ca ad A) (hr : meth.sig.returnType = (Option.some FieldType.int)) : ∀ lv st M, BX10_told_94 (Gd p l e (rmD 0) s m args below meth c 2 D ca ad A 0 0 (MQ below (QC D ca ad A Q) args s 0 0 A)) Q lv st M → Gd p l e (rmD 0) s m args below meth c 2 D ca ad A 0 0 (MQ below (QC D ca ad A Q) args s 0 0 A) 94 lv st M :=
  (sd_aload_n hX dX10_told_94 rfl (sd_geti hX fl_111 (by decide) dX10_told_95 (sd_iret hX hr dX10_told_98)))
def BX10_told_99 (G : Nat → KT) (Q : Option mV → mM → Prop) : KT := (s_aload 0 (s_geti 10 7 (s_iret Q)))
set_option maxRecDepth 4000 in
theorem bsX10_told_99 {p : Program} {l : Launch} {e : Env} {s : State} {m : MethodId} {args : Array Value} {below : List Frame} {meth : Method} {c : Code} {D : va_G} {ca : Nat → ClassId} {ad : Nat → Nat} {A : Nat → Prop} {Q : Option mV → mM → Prop} (hX : CX p s m args meth c 2 cX10_told "FairBlocks$User" D ca ad A) (hr : meth.sig.returnType = (Option.some FieldType.int)) : ∀ lv st M, BX10_told_99 (Gd p l e (rmD 0) s m args below meth c 2 D ca ad A 0 0 (MQ below (QC D ca ad A Q) args s 0 0 A)) Q lv st M → Gd p l e (rmD 0) s m args below meth c 2 D ca ad A 0 0 (MQ below (QC D ca ad A Q) args s 0 0 A) 99 lv st M :=
  (sd_aload_n hX dX10_told_99 rfl (sd_geti hX fl_113 (by decide) dX10_told_100 (sd_iret hX hr dX10_told_103)))
def BX10_told_104 (G : Nat → KT) (Q : Option mV → mM → Prop) : KT := (s_aload 0 (s_geti 10 8 (s_iret Q)))
set_option maxRecDepth 4000 in
theorem bsX10_told_104 {p : Program} {l : Launch} {e : Env} {s : State} {m : MethodId} {args : Array Value} {below : List Frame} {meth : Method} {c : Code} {D : va_G} {ca : Nat → ClassId} {ad : Nat → Nat} {A : Nat → Prop} {Q : Option mV → mM → Prop} (hX : CX p s m args meth c 2 cX10_told "FairBlocks$User" D ca ad A) (hr : meth.sig.returnType = (Option.some FieldType.int)) : ∀ lv st M, BX10_told_104 (Gd p l e (rmD 0) s m args below meth c 2 D ca ad A 0 0 (MQ below (QC D ca ad A Q) args s 0 0 A)) Q lv st M → Gd p l e (rmD 0) s m args below meth c 2 D ca ad A 0 0 (MQ below (QC D ca ad A Q) args s 0 0 A) 104 lv st M :=
  (sd_aload_n hX dX10_told_104 rfl (sd_geti hX fl_118 (by decide) dX10_told_105 (sd_iret hX hr dX10_told_108)))
def BX10_told_109 (G : Nat → KT) (Q : Option mV → mM → Prop) : KT := (s_aload 0 (s_geti 10 9 (s_iret Q)))
set_option maxRecDepth 4000 in
theorem bsX10_told_109 {p : Program} {l : Launch} {e : Env} {s : State} {m : MethodId} {args : Array Value} {below : List Frame} {meth : Method} {c : Code} {D : va_G} {ca : Nat → ClassId} {ad : Nat → Nat} {A : Nat → Prop} {Q : Option mV → mM → Prop} (hX : CX p s m args meth c 2 cX10_told "FairBlocks$User" D ca ad A) (hr : meth.sig.returnType = (Option.some FieldType.int)) : ∀ lv st M, BX10_told_109 (Gd p l e (rmD 0) s m args below meth c 2 D ca ad A 0 0 (MQ below (QC D ca ad A Q) args s 0 0 A)) Q lv st M → Gd p l e (rmD 0) s m args below meth c 2 D ca ad A 0 0 (MQ below (QC D ca ad A Q) args s 0 0 A) 109 lv st M :=
  (sd_aload_n hX dX10_told_109 rfl (sd_geti hX fl_119 (by decide) dX10_told_110 (sd_iret hX hr dX10_told_113)))
def BX10_told_114 (G : Nat → KT) (Q : Option mV → mM → Prop) : KT := (s_iconst (-2) (s_iret Q))
set_option maxRecDepth 4000 in
theorem bsX10_told_114 {p : Program} {l : Launch} {e : Env} {s : State} {m : MethodId} {args : Array Value} {below : List Frame} {meth : Method} {c : Code} {D : va_G} {ca : Nat → ClassId} {ad : Nat → Nat} {A : Nat → Prop} {Q : Option mV → mM → Prop} (hX : CX p s m args meth c 2 cX10_told "FairBlocks$User" D ca ad A) (hr : meth.sig.returnType = (Option.some FieldType.int)) : ∀ lv st M, BX10_told_114 (Gd p l e (rmD 0) s m args below meth c 2 D ca ad A 0 0 (MQ below (QC D ca ad A Q) args s 0 0 A)) Q lv st M → Gd p l e (rmD 0) s m args below meth c 2 D ca ad A 0 0 (MQ below (QC D ca ad A Q) args s 0 0 A) 114 lv st M :=
  (sd_bipush hX dX10_told_114 rfl (sd_iret hX hr dX10_told_116))
set_option maxHeartbeats 400000 in
theorem pf_X10_told (G : Nat → KT) (Q : Option mV → mM → Prop) (h0 : ∀ lv st M, BX10_told_0 G Q lv st M → G 0 lv st M) (h56 : ∀ lv st M, BX10_told_56 G Q lv st M → G 56 lv st M) (h61 : ∀ lv st M, BX10_told_61 G Q lv st M → G 61 lv st M) (h66 : ∀ lv st M, BX10_told_66 G Q lv st M → G 66 lv st M) (h71 : ∀ lv st M, BX10_told_71 G Q lv st M → G 71 lv st M) (h82 : ∀ lv st M, BX10_told_82 G Q lv st M → G 82 lv st M) (h83 : ∀ lv st M, BX10_told_83 G Q lv st M → G 83 lv st M) (h84 : ∀ lv st M, BX10_told_84 G Q lv st M → G 84 lv st M) (h89 : ∀ lv st M, BX10_told_89 G Q lv st M → G 89 lv st M) (h94 : ∀ lv st M, BX10_told_94 G Q lv st M → G 94 lv st M) (h99 : ∀ lv st M, BX10_told_99 G Q lv st M → G 99 lv st M) (h104 : ∀ lv st M, BX10_told_104 G Q lv st M → G 104 lv st M) (h109 : ∀ lv st M, BX10_told_109 G Q lv st M → G 109 lv st M) (h114 : ∀ lv st M, BX10_told_114 G Q lv st M → G 114 lv st M) (as : List mV) (M : mM) (ho : ∀ v ∈ as, okV v) (hp : pre_X10_told as M) (hQ : Q (fn_X10_told as M).1 (fn_X10_told as M).2) : G 0 (inL as ++ List.replicate (2 - (inL as).length) none) [] M := by
  obtain ⟨k, x, rfl⟩ := hp
  simp only [fn_X10_told, told] at hQ
  repeat' (first | (first | (apply h0; simp only [BX10_told_0, s_mth, s_mab, s_at, s_iconst, s_lconst, s_iload, s_lload, s_aload, s_istore, s_lstore, s_astore, s_iinc, s_bin, s_binG, s_un, s_lbin, s_lbinG, s_lsh, s_lcmp, s_i2l, s_l2i, s_dup, s_dup2, s_pop, s_if, s_icmp, s_geti, s_getl, s_getr, s_puti, s_putz, s_putl, s_iald, s_zald, s_iast, s_zast, s_aaldS, s_aaldU, s_gets, s_tald, s_tsw, tsw, s_iret, s_zret, s_lret, s_aret, s_vret, s_callV, s_callS, c1, nl1, keepL, csum, pushR, inL, List.getD_cons_zero, List.getD_cons_succ, List.set_cons_zero, List.set_cons_succ, List.cons_append, List.nil_append, List.append_nil, List.replicate, List.length_cons, List.length_nil, List.take_succ_cons, List.take_zero, List.drop_succ_cons, List.drop_zero, List.reverse_cons, List.reverse_nil, true_and, and_true, forall_const, not_true_eq_false, not_false_eq_true, false_implies, true_implies, implies_true, one0, m10, Nat.reduceAdd, Nat.reduceSub, Nat.reduceLeDiff, Nat.zero_add, Nat.add_zero]) | (apply h56; simp only [BX10_told_56, s_mth, s_mab, s_at, s_iconst, s_lconst, s_iload, s_lload, s_aload, s_istore, s_lstore, s_astore, s_iinc, s_bin, s_binG, s_un, s_lbin, s_lbinG, s_lsh, s_lcmp, s_i2l, s_l2i, s_dup, s_dup2, s_pop, s_if, s_icmp, s_geti, s_getl, s_getr, s_puti, s_putz, s_putl, s_iald, s_zald, s_iast, s_zast, s_aaldS, s_aaldU, s_gets, s_tald, s_tsw, tsw, s_iret, s_zret, s_lret, s_aret, s_vret, s_callV, s_callS, c1, nl1, keepL, csum, pushR, inL, List.getD_cons_zero, List.getD_cons_succ, List.set_cons_zero, List.set_cons_succ, List.cons_append, List.nil_append, List.append_nil, List.replicate, List.length_cons, List.length_nil, List.take_succ_cons, List.take_zero, List.drop_succ_cons, List.drop_zero, List.reverse_cons, List.reverse_nil, true_and, and_true, forall_const, not_true_eq_false, not_false_eq_true, false_implies, true_implies, implies_true, one0, m10, Nat.reduceAdd, Nat.reduceSub, Nat.reduceLeDiff, Nat.zero_add, Nat.add_zero]) | (apply h61; simp only [BX10_told_61, s_mth, s_mab, s_at, s_iconst, s_lconst, s_iload, s_lload, s_aload, s_istore, s_lstore, s_astore, s_iinc, s_bin, s_binG, s_un, s_lbin, s_lbinG, s_lsh, s_lcmp, s_i2l, s_l2i, s_dup, s_dup2, s_pop, s_if, s_icmp, s_geti, s_getl, s_getr, s_puti, s_putz, s_putl, s_iald, s_zald, s_iast, s_zast, s_aaldS, s_aaldU, s_gets, s_tald, s_tsw, tsw, s_iret, s_zret, s_lret, s_aret, s_vret, s_callV, s_callS, c1, nl1, keepL, csum, pushR, inL, List.getD_cons_zero, List.getD_cons_succ, List.set_cons_zero, List.set_cons_succ, List.cons_append, List.nil_append, List.append_nil, List.replicate, List.length_cons, List.length_nil, List.take_succ_cons, List.take_zero, List.drop_succ_cons, List.drop_zero, List.reverse_cons, List.reverse_nil, true_and, and_true, forall_const, not_true_eq_false, not_false_eq_true, false_implies, true_implies, implies_true, one0, m10, Nat.reduceAdd, Nat.reduceSub, Nat.reduceLeDiff, Nat.zero_add, Nat.add_zero]) | (apply h66; simp only [BX10_told_66, s_mth, s_mab, s_at, s_iconst, s_lconst, s_iload, s_lload, s_aload, s_istore, s_lstore, s_astore, s_iinc, s_bin, s_binG, s_un, s_lbin, s_lbinG, s_lsh, s_lcmp, s_i2l, s_l2i, s_dup, s_dup2, s_pop, s_if, s_icmp, s_geti, s_getl, s_getr, s_puti, s_putz, s_putl, s_iald, s_zald, s_iast, s_zast, s_aaldS, s_aaldU, s_gets, s_tald, s_tsw, tsw, s_iret, s_zret, s_lret, s_aret, s_vret, s_callV, s_callS, c1, nl1, keepL, csum, pushR, inL, List.getD_cons_zero, List.getD_cons_succ, List.set_cons_zero, List.set_cons_succ, List.cons_append, List.nil_append, List.append_nil, List.replicate, List.length_cons, List.length_nil, List.take_succ_cons, List.take_zero, List.drop_succ_cons, List.drop_zero, List.reverse_cons, List.reverse_nil, true_and, and_true, forall_const, not_true_eq_false, not_false_eq_true, false_implies, true_implies, implies_true, one0, m10, Nat.reduceAdd, Nat.reduceSub, Nat.reduceLeDiff, Nat.zero_add, Nat.add_zero]) | (apply h71; simp only [BX10_told_71, s_mth, s_mab, s_at, s_iconst, s_lconst, s_iload, s_lload, s_aload, s_istore, s_lstore, s_astore, s_iinc, s_bin, s_binG, s_un, s_lbin, s_lbinG, s_lsh, s_lcmp, s_i2l, s_l2i, s_dup, s_dup2, s_pop, s_if, s_icmp, s_geti, s_getl, s_getr, s_puti, s_putz, s_putl, s_iald, s_zald, s_iast, s_zast, s_aaldS, s_aaldU, s_gets, s_tald, s_tsw, tsw, s_iret, s_zret, s_lret, s_aret, s_vret, s_callV, s_callS, c1, nl1, keepL, csum, pushR, inL, List.getD_cons_zero, List.getD_cons_succ, List.set_cons_zero, List.set_cons_succ, List.cons_append, List.nil_append, List.append_nil, List.replicate, List.length_cons, List.length_nil, List.take_succ_cons, List.take_zero, List.drop_succ_cons, List.drop_zero, List.reverse_cons, List.reverse_nil, true_and, and_true, forall_const, not_true_eq_false, not_false_eq_true, false_implies, true_implies, implies_true, one0, m10, Nat.reduceAdd, Nat.reduceSub, Nat.reduceLeDiff, Nat.zero_add, Nat.add_zero]) | (apply h82; simp only [BX10_told_82, s_mth, s_mab, s_at, s_iconst, s_lconst, s_iload, s_lload, s_aload, s_istore, s_lstore, s_astore, s_iinc, s_bin, s_binG, s_un, s_lbin, s_lbinG, s_lsh, s_lcmp, s_i2l, s_l2i, s_dup, s_dup2, s_pop, s_if, s_icmp, s_geti, s_getl, s_getr, s_puti, s_putz, s_putl, s_iald, s_zald, s_iast, s_zast, s_aaldS, s_aaldU, s_gets, s_tald, s_tsw, tsw, s_iret, s_zret, s_lret, s_aret, s_vret, s_callV, s_callS, c1, nl1, keepL, csum, pushR, inL, List.getD_cons_zero, List.getD_cons_succ, List.set_cons_zero, List.set_cons_succ, List.cons_append, List.nil_append, List.append_nil, List.replicate, List.length_cons, List.length_nil, List.take_succ_cons, List.take_zero, List.drop_succ_cons, List.drop_zero, List.reverse_cons, List.reverse_nil, true_and, and_true, forall_const, not_true_eq_false, not_false_eq_true, false_implies, true_implies, implies_true, one0, m10, Nat.reduceAdd, Nat.reduceSub, Nat.reduceLeDiff, Nat.zero_add, Nat.add_zero]) | (apply h83; simp only [BX10_told_83, s_mth, s_mab, s_at, s_iconst, s_lconst, s_iload, s_lload, s_aload, s_istore, s_lstore, s_astore, s_iinc, s_bin, s_binG, s_un, s_lbin, s_lbinG, s_lsh, s_lcmp, s_i2l, s_l2i, s_dup, s_dup2, s_pop, s_if, s_icmp, s_geti, s_getl, s_getr, s_puti, s_putz, s_putl, s_iald, s_zald, s_iast, s_zast, s_aaldS, s_aaldU, s_gets, s_tald, s_tsw, tsw, s_iret, s_zret, s_lret, s_aret, s_vret, s_callV, s_callS, c1, nl1, keepL, csum, pushR, inL, List.getD_cons_zero, List.getD_cons_succ, List.set_cons_zero, List.set_cons_succ, List.cons_append, List.nil_append, List.append_nil, List.replicate, List.length_cons, List.length_nil, List.take_succ_cons, List.take_zero, List.drop_succ_cons, List.drop_zero, List.reverse_cons, List.reverse_nil, true_and, and_true, forall_const, not_true_eq_false, not_false_eq_true, false_implies, true_implies, implies_true, one0, m10, Nat.reduceAdd, Nat.reduceSub, Nat.reduceLeDiff, Nat.zero_add, Nat.add_zero]) | (apply h84; simp only [BX10_told_84, s_mth, s_mab, s_at, s_iconst, s_lconst, s_iload, s_lload, s_aload, s_istore, s_lstore, s_astore, s_iinc, s_bin, s_binG, s_un, s_lbin, s_lbinG, s_lsh, s_lcmp, s_i2l, s_l2i, s_dup, s_dup2, s_pop, s_if, s_icmp, s_geti, s_getl, s_getr, s_puti, s_putz, s_putl, s_iald, s_zald, s_iast, s_zast, s_aaldS, s_aaldU, s_gets, s_tald, s_tsw, tsw, s_iret, s_zret, s_lret, s_aret, s_vret, s_callV, s_callS, c1, nl1, keepL, csum, pushR, inL, List.getD_cons_zero, List.getD_cons_succ, List.set_cons_zero, List.set_cons_succ, List.cons_append, List.nil_append, List.append_nil, List.replicate, List.length_cons, List.length_nil, List.take_succ_cons, List.take_zero, List.drop_succ_cons, List.drop_zero, List.reverse_cons, List.reverse_nil, true_and, and_true, forall_const, not_true_eq_false, not_false_eq_true, false_implies, true_implies, implies_true, one0, m10, Nat.reduceAdd, Nat.reduceSub, Nat.reduceLeDiff, Nat.zero_add, Nat.add_zero]) | (apply h89; simp only [BX10_told_89, s_mth, s_mab, s_at, s_iconst, s_lconst, s_iload, s_lload, s_aload, s_istore, s_lstore, s_astore, s_iinc, s_bin, s_binG, s_un, s_lbin, s_lbinG, s_lsh, s_lcmp, s_i2l, s_l2i, s_dup, s_dup2, s_pop, s_if, s_icmp, s_geti, s_getl, s_getr, s_puti, s_putz, s_putl, s_iald, s_zald, s_iast, s_zast, s_aaldS, s_aaldU, s_gets, s_tald, s_tsw, tsw, s_iret, s_zret, s_lret, s_aret, s_vret, s_callV, s_callS, c1, nl1, keepL, csum, pushR, inL, List.getD_cons_zero, List.getD_cons_succ, List.set_cons_zero, List.set_cons_succ, List.cons_append, List.nil_append, List.append_nil, List.replicate, List.length_cons, List.length_nil, List.take_succ_cons, List.take_zero, List.drop_succ_cons, List.drop_zero, List.reverse_cons, List.reverse_nil, true_and, and_true, forall_const, not_true_eq_false, not_false_eq_true, false_implies, true_implies, implies_true, one0, m10, Nat.reduceAdd, Nat.reduceSub, Nat.reduceLeDiff, Nat.zero_add, Nat.add_zero]) | (apply h94; simp only [BX10_told_94, s_mth, s_mab, s_at, s_iconst, s_lconst, s_iload, s_lload, s_aload, s_istore, s_lstore, s_astore, s_iinc, s_bin, s_binG, s_un, s_lbin, s_lbinG, s_lsh, s_lcmp, s_i2l, s_l2i, s_dup, s_dup2, s_pop, s_if, s_icmp, s_geti, s_getl, s_getr, s_puti, s_putz, s_putl, s_iald, s_zald, s_iast, s_zast, s_aaldS, s_aaldU, s_gets, s_tald, s_tsw, tsw, s_iret, s_zret, s_lret, s_aret, s_vret, s_callV, s_callS, c1, nl1, keepL, csum, pushR, inL, List.getD_cons_zero, List.getD_cons_succ, List.set_cons_zero, List.set_cons_succ, List.cons_append, List.nil_append, List.append_nil, List.replicate, List.length_cons, List.length_nil, List.take_succ_cons, List.take_zero, List.drop_succ_cons, List.drop_zero, List.reverse_cons, List.reverse_nil, true_and, and_true, forall_const, not_true_eq_false, not_false_eq_true, false_implies, true_implies, implies_true, one0, m10, Nat.reduceAdd, Nat.reduceSub, Nat.reduceLeDiff, Nat.zero_add, Nat.add_zero]) | (apply h99; simp only [BX10_told_99, s_mth, s_mab, s_at, s_iconst, s_lconst, s_iload, s_lload, s_aload, s_istore, s_lstore, s_astore, s_iinc, s_bin, s_binG, s_un, s_lbin, s_lbinG, s_lsh, s_lcmp, s_i2l, s_l2i, s_dup, s_dup2, s_pop, s_if, s_icmp, s_geti, s_getl, s_getr, s_puti, s_putz, s_putl, s_iald, s_zald, s_iast, s_zast, s_aaldS, s_aaldU, s_gets, s_tald, s_tsw, tsw, s_iret, s_zret, s_lret, s_aret, s_vret, s_callV, s_callS, c1, nl1, keepL, csum, pushR, inL, List.getD_cons_zero, List.getD_cons_succ, List.set_cons_zero, List.set_cons_succ, List.cons_append, List.nil_append, List.append_nil, List.replicate, List.length_cons, List.length_nil, List.take_succ_cons, List.take_zero, List.drop_succ_cons, List.drop_zero, List.reverse_cons, List.reverse_nil, true_and, and_true, forall_const, not_true_eq_false, not_false_eq_true, false_implies, true_implies, implies_true, one0, m10, Nat.reduceAdd, Nat.reduceSub, Nat.reduceLeDiff, Nat.zero_add, Nat.add_zero]) | (apply h104; simp only [BX10_told_104, s_mth, s_mab, s_at, s_iconst, s_lconst, s_iload, s_lload, s_aload, s_istore, s_lstore, s_astore, s_iinc, s_bin, s_binG, s_un, s_lbin, s_lbinG, s_lsh, s_lcmp, s_i2l, s_l2i, s_dup, s_dup2, s_pop, s_if, s_icmp, s_geti, s_getl, s_getr, s_puti, s_putz, s_putl, s_iald, s_zald, s_iast, s_zast, s_aaldS, s_aaldU, s_gets, s_tald, s_tsw, tsw, s_iret, s_zret, s_lret, s_aret, s_vret, s_callV, s_callS, c1, nl1, keepL, csum, pushR, inL, List.getD_cons_zero, List.getD_cons_succ, List.set_cons_zero, List.set_cons_succ, List.cons_append, List.nil_append, List.append_nil, List.replicate, List.length_cons, List.length_nil, List.take_succ_cons, List.take_zero, List.drop_succ_cons, List.drop_zero, List.reverse_cons, List.reverse_nil, true_and, and_true, forall_const, not_true_eq_false, not_false_eq_true, false_implies, true_implies, implies_true, one0, m10, Nat.reduceAdd, Nat.reduceSub, Nat.reduceLeDiff, Nat.zero_add, Nat.add_zero]) | (apply h109; simp only [BX10_told_109, s_mth, s_mab, s_at, s_iconst, s_lconst, s_iload, s_lload, s_aload, s_istore, s_lstore, s_astore, s_iinc, s_bin, s_binG, s_un, s_lbin, s_lbinG, s_lsh, s_lcmp, s_i2l, s_l2i, s_dup, s_dup2, s_pop, s_if, s_icmp, s_geti, s_getl, s_getr, s_puti, s_putz, s_putl, s_iald, s_zald, s_iast, s_zast, s_aaldS, s_aaldU, s_gets, s_tald, s_tsw, tsw, s_iret, s_zret, s_lret, s_aret, s_vret, s_callV, s_callS, c1, nl1, keepL, csum, pushR, inL, List.getD_cons_zero, List.getD_cons_succ, List.set_cons_zero, List.set_cons_succ, List.cons_append, List.nil_append, List.append_nil, List.replicate, List.length_cons, List.length_nil, List.take_succ_cons, List.take_zero, List.drop_succ_cons, List.drop_zero, List.reverse_cons, List.reverse_nil, true_and, and_true, forall_const, not_true_eq_false, not_false_eq_true, false_implies, true_implies, implies_true, one0, m10, Nat.reduceAdd, Nat.reduceSub, Nat.reduceLeDiff, Nat.zero_add, Nat.add_zero]) | (apply h114; simp only [BX10_told_114, s_mth, s_mab, s_at, s_iconst, s_lconst, s_iload, s_lload, s_aload, s_istore, s_lstore, s_astore, s_iinc, s_bin, s_binG, s_un, s_lbin, s_lbinG, s_lsh, s_lcmp, s_i2l, s_l2i, s_dup, s_dup2, s_pop, s_if, s_icmp, s_geti, s_getl, s_getr, s_puti, s_putz, s_putl, s_iald, s_zald, s_iast, s_zast, s_aaldS, s_aaldU, s_gets, s_tald, s_tsw, tsw, s_iret, s_zret, s_lret, s_aret, s_vret, s_callV, s_callS, c1, nl1, keepL, csum, pushR, inL, List.getD_cons_zero, List.getD_cons_succ, List.set_cons_zero, List.set_cons_succ, List.cons_append, List.nil_append, List.append_nil, List.replicate, List.length_cons, List.length_nil, List.take_succ_cons, List.take_zero, List.drop_succ_cons, List.drop_zero, List.reverse_cons, List.reverse_nil, true_and, and_true, forall_const, not_true_eq_false, not_false_eq_true, false_implies, true_implies, implies_true, one0, m10, Nat.reduceAdd, Nat.reduceSub, Nat.reduceLeDiff, Nat.zero_add, Nat.add_zero])) | refine ⟨?_, ?_⟩ | intro hc)
  all_goals clear h0 h56 h61 h66 h71 h82 h83 h84 h89 h94 h99 h104 h109 h114
  all_goals (first | exact hQ | (simp only [*, if_true, if_false] at hQ; exact hQ) | (simp [*] at hQ; simpa using hQ) | (exfalso; simp_all; done) | (simp_all; done))
theorem ct_X10_told (l : Launch) : Con l yX10_told cX10_told 2 (Option.some FieldType.int) 0 pre_X10_told fn_X10_told := con_of (by decide +kernel) ok_X10_told len_X10_told (fun p e s m args below meth c D ca ad A as M hX hr hp ho => pf_X10_told _ _ (bsX10_told_0 hX hr) (bsX10_told_56 hX hr) (bsX10_told_61 hX hr) (bsX10_told_66 hX hr) (bsX10_told_71 hX hr) (bsX10_told_82 hX hr) (bsX10_told_83 hX hr) (bsX10_told_84 hX hr) (bsX10_told_89 hX hr) (bsX10_told_94 hX hr) (bsX10_told_99 hX hr) (bsX10_told_104 hX hr) (bsX10_told_109 hX hr) (bsX10_told_114 hX hr) as M ho hp ⟨rfl, rfl⟩)
def chg (M : mM) (k : Nat) (w v : Int32) : Int32 × mM := if w = 0 then (M.1 k 0, mset M k 0 v) else if w = 1 then (M.1 k 1, mset M k 1 v) else (M.1 k 2, mset M k 2 v)
def pre_X10_change (as : List mV) (M : mM) : Prop := ∃ k x v, as = [.inr (.inr (10, k)), .inl x, .inl v]
def fn_X10_change : List mV → mM → Option mV × mM
  | [.inr (.inr (_, k)), .inl x, .inl v], M => (some (.inl (chg M k x v).1), (chg M k x v).2)
  | _, M => (none, M)
theorem ok_X10_change (as : List mV) (M : mM) (h : pre_X10_change as M) (_ : ∀ v ∈ as, okV v) : okR (fn_X10_change as M).1 := by
  obtain ⟨k, x, v, rfl⟩ := h
  first | trivial | exact (by decide +kernel : kof 14 = 8)
theorem len_X10_change (as : List mV) (M : mM) (h : pre_X10_change as M) : (inL as).length ≤ 4 := by
  obtain ⟨k, x, v, rfl⟩ := h
  exact Nat.le_of_ble_eq_true rfl


theorem dX10_change_0 : decode cX10_change 0 = .ok (.iload_n 1, 1) := by decide +kernel
theorem dX10_change_1 : decode cX10_change 1 = .ok (.ifCond .ne 16, 3) := by decide +kernel
theorem dX10_change_4 : decode cX10_change 4 = .ok (.aload_n 0, 1) := by decide +kernel
theorem dX10_change_5 : decode cX10_change 5 = .ok (.getfield 9, 3) := by decide +kernel
theorem dX10_change_8 : decode cX10_change 8 = .ok (.istore_n 3, 1) := by decide +kernel
theorem dX10_change_9 : decode cX10_change 9 = .ok (.aload_n 0, 1) := by decide +kernel
theorem dX10_change_10 : decode cX10_change 10 = .ok (.iload_n 2, 1) := by decide +kernel
theorem dX10_change_11 : decode cX10_change 11 = .ok (.putfield 9, 3) := by decide +kernel
theorem dX10_change_14 : decode cX10_change 14 = .ok (.goto 31, 3) := by decide +kernel
theorem dX10_change_17 : decode cX10_change 17 = .ok (.iload_n 1, 1) := by decide +kernel
theorem dX10_change_18 : decode cX10_change 18 = .ok (.iconst 1, 1) := by decide +kernel
theorem dX10_change_19 : decode cX10_change 19 = .ok (.if_icmp .ne 16, 3) := by decide +kernel
theorem dX10_change_22 : decode cX10_change 22 = .ok (.aload_n 0, 1) := by decide +kernel
theorem dX10_change_23 : decode cX10_change 23 = .ok (.getfield 15, 3) := by decide +kernel
theorem dX10_change_26 : decode cX10_change 26 = .ok (.istore_n 3, 1) := by decide +kernel
theorem dX10_change_27 : decode cX10_change 27 = .ok (.aload_n 0, 1) := by decide +kernel
theorem dX10_change_28 : decode cX10_change 28 = .ok (.iload_n 2, 1) := by decide +kernel
theorem dX10_change_29 : decode cX10_change 29 = .ok (.putfield 15, 3) := by decide +kernel
theorem dX10_change_32 : decode cX10_change 32 = .ok (.goto 13, 3) := by decide +kernel
theorem dX10_change_35 : decode cX10_change 35 = .ok (.aload_n 0, 1) := by decide +kernel
theorem dX10_change_36 : decode cX10_change 36 = .ok (.getfield 18, 3) := by decide +kernel
theorem dX10_change_39 : decode cX10_change 39 = .ok (.istore_n 3, 1) := by decide +kernel
theorem dX10_change_40 : decode cX10_change 40 = .ok (.aload_n 0, 1) := by decide +kernel
theorem dX10_change_41 : decode cX10_change 41 = .ok (.iload_n 2, 1) := by decide +kernel
theorem dX10_change_42 : decode cX10_change 42 = .ok (.putfield 18, 3) := by decide +kernel
theorem dX10_change_45 : decode cX10_change 45 = .ok (.iload_n 3, 1) := by decide +kernel
theorem dX10_change_46 : decode cX10_change 46 = .ok (.ireturn, 1) := by decide +kernel
theorem mk_X10_change : MVk yX10_change "FairBlocks$User" cX10_change 4 (Option.some FieldType.int) 2 := ⟨w_489, w_487, w_488, w_6, rfl, by decide +kernel, by decide +kernel, by decide +kernel⟩
def BX10_change_0 (G : Nat → KT) (Q : Option mV → mM → Prop) : KT := (s_iload 1 (s_if (fun x => x = 0) ((s_aload 0 (s_geti 10 0 (s_istore 3 (s_aload 0 (s_iload 2 (s_puti 10 0 (s_at G 45 [false, false, false, true])))))))) (s_at G 17 [true, true, true, false])))
set_option maxRecDepth 4000 in
theorem bsX10_change_0 {p : Program} {l : Launch} {e : Env} {s : State} {m : MethodId} {args : Array Value} {below : List Frame} {meth : Method} {c : Code} {D : va_G} {ca : Nat → ClassId} {ad : Nat → Nat} {A : Nat → Prop} {Q : Option mV → mM → Prop} (hX : CX p s m args meth c 4 cX10_change "FairBlocks$User" D ca ad A) (hr : meth.sig.returnType = (Option.some FieldType.int)) : ∀ lv st M, BX10_change_0 (Gd p l e (rmD 0) s m args below meth c 4 D ca ad A 0 0 (MQ below (QC D ca ad A Q) args s 0 0 A)) Q lv st M → Gd p l e (rmD 0) s m args below meth c 4 D ca ad A 0 0 (MQ below (QC D ca ad A Q) args s 0 0 A) 0 lv st M :=
  (sd_iload_n hX dX10_change_0 rfl (sd_if_ne hX dX10_change_1 (by decide) sd_at (sd_aload_n hX dX10_change_4 rfl (sd_geti hX fl_93 (by decide) dX10_change_5 (sd_istore_n hX (by decide) dX10_change_8 rfl (sd_aload_n hX dX10_change_9 rfl (sd_iload_n hX dX10_change_10 rfl (sd_puti hX fp_93 dX10_change_11 (sd_goto hX dX10_change_14 (by decide) sd_at)))))))))
def BX10_change_17 (G : Nat → KT) (Q : Option mV → mM → Prop) : KT := (s_iload 1 (s_iconst (1) (s_icmp (fun x y => x = y) ((s_aload 0 (s_geti 10 1 (s_istore 3 (s_aload 0 (s_iload 2 (s_puti 10 1 (s_at G 45 [false, false, false, true])))))))) (s_at G 35 [true, false, true, false]))))
set_option maxRecDepth 4000 in
theorem bsX10_change_17 {p : Program} {l : Launch} {e : Env} {s : State} {m : MethodId} {args : Array Value} {below : List Frame} {meth : Method} {c : Code} {D : va_G} {ca : Nat → ClassId} {ad : Nat → Nat} {A : Nat → Prop} {Q : Option mV → mM → Prop} (hX : CX p s m args meth c 4 cX10_change "FairBlocks$User" D ca ad A) (hr : meth.sig.returnType = (Option.some FieldType.int)) : ∀ lv st M, BX10_change_17 (Gd p l e (rmD 0) s m args below meth c 4 D ca ad A 0 0 (MQ below (QC D ca ad A Q) args s 0 0 A)) Q lv st M → Gd p l e (rmD 0) s m args below meth c 4 D ca ad A 0 0 (MQ below (QC D ca ad A Q) args s 0 0 A) 17 lv st M :=
  (sd_iload_n hX dX10_change_17 rfl (sd_iconst hX dX10_change_18 rfl (sd_icmp_ne hX dX10_change_19 (by decide) sd_at (sd_aload_n hX dX10_change_22 rfl (sd_geti hX fl_95 (by decide) dX10_change_23 (sd_istore_n hX (by decide) dX10_change_26 rfl (sd_aload_n hX dX10_change_27 rfl (sd_iload_n hX dX10_change_28 rfl (sd_puti hX fp_95 dX10_change_29 (sd_goto hX dX10_change_32 (by decide) sd_at))))))))))
def BX10_change_35 (G : Nat → KT) (Q : Option mV → mM → Prop) : KT := (s_aload 0 (s_geti 10 2 (s_istore 3 (s_aload 0 (s_iload 2 (s_puti 10 2 (s_at G 45 [false, false, false, true])))))))
set_option maxRecDepth 4000 in
theorem bsX10_change_35 {p : Program} {l : Launch} {e : Env} {s : State} {m : MethodId} {args : Array Value} {below : List Frame} {meth : Method} {c : Code} {D : va_G} {ca : Nat → ClassId} {ad : Nat → Nat} {A : Nat → Prop} {Q : Option mV → mM → Prop} (hX : CX p s m args meth c 4 cX10_change "FairBlocks$User" D ca ad A) (hr : meth.sig.returnType = (Option.some FieldType.int)) : ∀ lv st M, BX10_change_35 (Gd p l e (rmD 0) s m args below meth c 4 D ca ad A 0 0 (MQ below (QC D ca ad A Q) args s 0 0 A)) Q lv st M → Gd p l e (rmD 0) s m args below meth c 4 D ca ad A 0 0 (MQ below (QC D ca ad A Q) args s 0 0 A) 35 lv st M :=
  (sd_aload_n hX dX10_change_35 rfl (sd_geti hX fl_99 (by decide) dX10_change_36 (sd_istore_n hX (by decide) dX10_change_39 rfl (sd_aload_n hX dX10_change_40 rfl (sd_iload_n hX dX10_change_41 rfl (sd_puti hX fp_99 dX10_change_42 sd_at))))))
def BX10_change_45 (G : Nat → KT) (Q : Option mV → mM → Prop) : KT := (s_iload 3 (s_iret Q))
set_option maxRecDepth 4000 in
theorem bsX10_change_45 {p : Program} {l : Launch} {e : Env} {s : State} {m : MethodId} {args : Array Value} {below : List Frame} {meth : Method} {c : Code} {D : va_G} {ca : Nat → ClassId} {ad : Nat → Nat} {A : Nat → Prop} {Q : Option mV → mM → Prop} (hX : CX p s m args meth c 4 cX10_change "FairBlocks$User" D ca ad A) (hr : meth.sig.returnType = (Option.some FieldType.int)) : ∀ lv st M, BX10_change_45 (Gd p l e (rmD 0) s m args below meth c 4 D ca ad A 0 0 (MQ below (QC D ca ad A Q) args s 0 0 A)) Q lv st M → Gd p l e (rmD 0) s m args below meth c 4 D ca ad A 0 0 (MQ below (QC D ca ad A Q) args s 0 0 A) 45 lv st M :=
  (sd_iload_n hX dX10_change_45 rfl (sd_iret hX hr dX10_change_46))
set_option maxHeartbeats 400000 in
theorem pf_X10_change (G : Nat → KT) (Q : Option mV → mM → Prop) (h0 : ∀ lv st M, BX10_change_0 G Q lv st M → G 0 lv st M) (h17 : ∀ lv st M, BX10_change_17 G Q lv st M → G 17 lv st M) (h35 : ∀ lv st M, BX10_change_35 G Q lv st M → G 35 lv st M) (h45 : ∀ lv st M, BX10_change_45 G Q lv st M → G 45 lv st M) (as : List mV) (M : mM) (ho : ∀ v ∈ as, okV v) (hp : pre_X10_change as M) (hQ : Q (fn_X10_change as M).1 (fn_X10_change as M).2) : G 0 (inL as ++ List.replicate (4 - (inL as).length) none) [] M := by
  obtain ⟨k, x, v, rfl⟩ := hp
  simp only [fn_X10_change, chg] at hQ
  repeat' (first | (first | (apply h0; simp only [BX10_change_0, s_mth, s_mab, s_at, s_iconst, s_lconst, s_iload, s_lload, s_aload, s_istore, s_lstore, s_astore, s_iinc, s_bin, s_binG, s_un, s_lbin, s_lbinG, s_lsh, s_lcmp, s_i2l, s_l2i, s_dup, s_dup2, s_pop, s_if, s_icmp, s_geti, s_getl, s_getr, s_puti, s_putz, s_putl, s_iald, s_zald, s_iast, s_zast, s_aaldS, s_aaldU, s_gets, s_tald, s_tsw, tsw, s_iret, s_zret, s_lret, s_aret, s_vret, s_callV, s_callS, c1, nl1, keepL, csum, pushR, inL, List.getD_cons_zero, List.getD_cons_succ, List.set_cons_zero, List.set_cons_succ, List.cons_append, List.nil_append, List.append_nil, List.replicate, List.length_cons, List.length_nil, List.take_succ_cons, List.take_zero, List.drop_succ_cons, List.drop_zero, List.reverse_cons, List.reverse_nil, true_and, and_true, forall_const, not_true_eq_false, not_false_eq_true, false_implies, true_implies, implies_true, one0, m10, Nat.reduceAdd, Nat.reduceSub, Nat.reduceLeDiff, Nat.zero_add, Nat.add_zero]) | (apply h17; simp only [BX10_change_17, s_mth, s_mab, s_at, s_iconst, s_lconst, s_iload, s_lload, s_aload, s_istore, s_lstore, s_astore, s_iinc, s_bin, s_binG, s_un, s_lbin, s_lbinG, s_lsh, s_lcmp, s_i2l, s_l2i, s_dup, s_dup2, s_pop, s_if, s_icmp, s_geti, s_getl, s_getr, s_puti, s_putz, s_putl, s_iald, s_zald, s_iast, s_zast, s_aaldS, s_aaldU, s_gets, s_tald, s_tsw, tsw, s_iret, s_zret, s_lret, s_aret, s_vret, s_callV, s_callS, c1, nl1, keepL, csum, pushR, inL, List.getD_cons_zero, List.getD_cons_succ, List.set_cons_zero, List.set_cons_succ, List.cons_append, List.nil_append, List.append_nil, List.replicate, List.length_cons, List.length_nil, List.take_succ_cons, List.take_zero, List.drop_succ_cons, List.drop_zero, List.reverse_cons, List.reverse_nil, true_and, and_true, forall_const, not_true_eq_false, not_false_eq_true, false_implies, true_implies, implies_true, one0, m10, Nat.reduceAdd, Nat.reduceSub, Nat.reduceLeDiff, Nat.zero_add, Nat.add_zero]) | (apply h35; simp only [BX10_change_35, s_mth, s_mab, s_at, s_iconst, s_lconst, s_iload, s_lload, s_aload, s_istore, s_lstore, s_astore, s_iinc, s_bin, s_binG, s_un, s_lbin, s_lbinG, s_lsh, s_lcmp, s_i2l, s_l2i, s_dup, s_dup2, s_pop, s_if, s_icmp, s_geti, s_getl, s_getr, s_puti, s_putz, s_putl, s_iald, s_zald, s_iast, s_zast, s_aaldS, s_aaldU, s_gets, s_tald, s_tsw, tsw, s_iret, s_zret, s_lret, s_aret, s_vret, s_callV, s_callS, c1, nl1, keepL, csum, pushR, inL, List.getD_cons_zero, List.getD_cons_succ, List.set_cons_zero, List.set_cons_succ, List.cons_append, List.nil_append, List.append_nil, List.replicate, List.length_cons, List.length_nil, List.take_succ_cons, List.take_zero, List.drop_succ_cons, List.drop_zero, List.reverse_cons, List.reverse_nil, true_and, and_true, forall_const, not_true_eq_false, not_false_eq_true, false_implies, true_implies, implies_true, one0, m10, Nat.reduceAdd, Nat.reduceSub, Nat.reduceLeDiff, Nat.zero_add, Nat.add_zero]) | (apply h45; simp only [BX10_change_45, s_mth, s_mab, s_at, s_iconst, s_lconst, s_iload, s_lload, s_aload, s_istore, s_lstore, s_astore, s_iinc, s_bin, s_binG, s_un, s_lbin, s_lbinG, s_lsh, s_lcmp, s_i2l, s_l2i, s_dup, s_dup2, s_pop, s_if, s_icmp, s_geti, s_getl, s_getr, s_puti, s_putz, s_putl, s_iald, s_zald, s_iast, s_zast, s_aaldS, s_aaldU, s_gets, s_tald, s_tsw, tsw, s_iret, s_zret, s_lret, s_aret, s_vret, s_callV, s_callS, c1, nl1, keepL, csum, pushR, inL, List.getD_cons_zero, List.getD_cons_succ, List.set_cons_zero, List.set_cons_succ, List.cons_append, List.nil_append, List.append_nil, List.replicate, List.length_cons, List.length_nil, List.take_succ_cons, List.take_zero, List.drop_succ_cons, List.drop_zero, List.reverse_cons, List.reverse_nil, true_and, and_true, forall_const, not_true_eq_false, not_false_eq_true, false_implies, true_implies, implies_true, one0, m10, Nat.reduceAdd, Nat.reduceSub, Nat.reduceLeDiff, Nat.zero_add, Nat.add_zero])) | refine ⟨?_, ?_⟩ | intro hc)
  all_goals clear h0 h17 h35 h45
  all_goals (simp only [*, if_true, if_false] at hQ; exact hQ)
theorem ct_X10_change (l : Launch) : Con l yX10_change cX10_change 4 (Option.some FieldType.int) 0 pre_X10_change fn_X10_change := con_of (by decide +kernel) ok_X10_change len_X10_change (fun p e s m args below meth c D ca ad A as M hX hr hp ho => pf_X10_change _ _ (bsX10_change_0 hX hr) (bsX10_change_17 hX hr) (bsX10_change_35 hX hr) (bsX10_change_45 hX hr) as M ho hp ⟨rfl, rfl⟩)
def sendA (M : mM) (k : Nat) (x : Int32) : Int32 := mn x (if M.1 k 5 ≤ 0 then M.1 k 4 else M.1 k 5)
def sendM (M : mM) (k : Nat) (x : Int32) : mM := if M.1 k 5 ≤ 0 then mset M k 4 (M.1 k 4 - sendA M k x) else mset M k 5 (M.1 k 5 - sendA M k x)
def send2 (M : mM) (k : Nat) (a : Int32) : Int32 × mM := if M.1 k 2 ≤ 0 then (a, mset M k 9 (M.1 k 9 + a)) else if rm (M.1 k 8) (M.1 k 2) = 0 then (0, mset M k 5 (M.1 k 5 + a)) else (a, mset M k 9 (M.1 k 9 + a))
def send (M : mM) (k : Nat) (x : Int32) : Int32 × mM := send2 (mset (sendM M k x) k 8 ((sendM M k x).1 k 8 + 1)) k (sendA M k x)
def pre_X10_send (as : List mV) (M : mM) : Prop := ∃ k x, as = [.inr (.inr (10, k)), .inl x]
def fn_X10_send : List mV → mM → Option mV × mM
  | [.inr (.inr (_, k)), .inl x], M => (some (.inl (send M k x).1), (send M k x).2)
  | _, M => (none, M)
theorem ok_X10_send (as : List mV) (M : mM) (h : pre_X10_send as M) (_ : ∀ v ∈ as, okV v) : okR (fn_X10_send as M).1 := by
  obtain ⟨k, x, rfl⟩ := h
  first | trivial | exact (by decide +kernel : kof 14 = 8)
theorem len_X10_send (as : List mV) (M : mM) (h : pre_X10_send as M) : (inL as).length ≤ 4 := by
  obtain ⟨k, x, rfl⟩ := h
  exact Nat.le_of_ble_eq_true rfl


theorem dX10_send_0 : decode cX10_send 0 = .ok (.aload_n 0, 1) := by decide +kernel
theorem dX10_send_1 : decode cX10_send 1 = .ok (.getfield 28, 3) := by decide +kernel
theorem dX10_send_4 : decode cX10_send 4 = .ok (.ifCond .le 7, 3) := by decide +kernel
theorem dX10_send_7 : decode cX10_send 7 = .ok (.iconst 1, 1) := by decide +kernel
theorem dX10_send_8 : decode cX10_send 8 = .ok (.goto 4, 3) := by decide +kernel
theorem dX10_send_11 : decode cX10_send 11 = .ok (.iconst 0, 1) := by decide +kernel
theorem dX10_send_12 : decode cX10_send 12 = .ok (.istore_n 2, 1) := by decide +kernel
theorem dX10_send_13 : decode cX10_send 13 = .ok (.iload_n 1, 1) := by decide +kernel
theorem dX10_send_14 : decode cX10_send 14 = .ok (.iload_n 2, 1) := by decide +kernel
theorem dX10_send_15 : decode cX10_send 15 = .ok (.ifCond .eq 10, 3) := by decide +kernel
theorem dX10_send_18 : decode cX10_send 18 = .ok (.aload_n 0, 1) := by decide +kernel
theorem dX10_send_19 : decode cX10_send 19 = .ok (.getfield 28, 3) := by decide +kernel
theorem dX10_send_22 : decode cX10_send 22 = .ok (.goto 7, 3) := by decide +kernel
theorem dX10_send_25 : decode cX10_send 25 = .ok (.aload_n 0, 1) := by decide +kernel
theorem dX10_send_26 : decode cX10_send 26 = .ok (.getfield 25, 3) := by decide +kernel
theorem dX10_send_29 : decode cX10_send 29 = .ok (.invokestatic 43, 3) := by decide +kernel
theorem dX10_send_32 : decode cX10_send 32 = .ok (.istore_n 3, 1) := by decide +kernel
theorem dX10_send_33 : decode cX10_send 33 = .ok (.iload_n 2, 1) := by decide +kernel
theorem dX10_send_34 : decode cX10_send 34 = .ok (.ifCond .eq 16, 3) := by decide +kernel
theorem dX10_send_37 : decode cX10_send 37 = .ok (.aload_n 0, 1) := by decide +kernel
theorem dX10_send_38 : decode cX10_send 38 = .ok (.dup, 1) := by decide +kernel
theorem dX10_send_39 : decode cX10_send 39 = .ok (.getfield 28, 3) := by decide +kernel
theorem dX10_send_42 : decode cX10_send 42 = .ok (.iload_n 3, 1) := by decide +kernel
theorem dX10_send_43 : decode cX10_send 43 = .ok (.isub, 1) := by decide +kernel
theorem dX10_send_44 : decode cX10_send 44 = .ok (.putfield 28, 3) := by decide +kernel
theorem dX10_send_47 : decode cX10_send 47 = .ok (.goto 13, 3) := by decide +kernel
theorem dX10_send_50 : decode cX10_send 50 = .ok (.aload_n 0, 1) := by decide +kernel
theorem dX10_send_51 : decode cX10_send 51 = .ok (.dup, 1) := by decide +kernel
theorem dX10_send_52 : decode cX10_send 52 = .ok (.getfield 25, 3) := by decide +kernel
theorem dX10_send_55 : decode cX10_send 55 = .ok (.iload_n 3, 1) := by decide +kernel
theorem dX10_send_56 : decode cX10_send 56 = .ok (.isub, 1) := by decide +kernel
theorem dX10_send_57 : decode cX10_send 57 = .ok (.putfield 25, 3) := by decide +kernel
theorem dX10_send_60 : decode cX10_send 60 = .ok (.aload_n 0, 1) := by decide +kernel
theorem dX10_send_61 : decode cX10_send 61 = .ok (.dup, 1) := by decide +kernel
theorem dX10_send_62 : decode cX10_send 62 = .ok (.getfield 37, 3) := by decide +kernel
theorem dX10_send_65 : decode cX10_send 65 = .ok (.iconst 1, 1) := by decide +kernel
theorem dX10_send_66 : decode cX10_send 66 = .ok (.iadd, 1) := by decide +kernel
theorem dX10_send_67 : decode cX10_send 67 = .ok (.putfield 37, 3) := by decide +kernel
theorem dX10_send_70 : decode cX10_send 70 = .ok (.aload_n 0, 1) := by decide +kernel
theorem dX10_send_71 : decode cX10_send 71 = .ok (.getfield 18, 3) := by decide +kernel
theorem dX10_send_74 : decode cX10_send 74 = .ok (.ifCond .le 27, 3) := by decide +kernel
theorem dX10_send_77 : decode cX10_send 77 = .ok (.aload_n 0, 1) := by decide +kernel
theorem dX10_send_78 : decode cX10_send 78 = .ok (.getfield 37, 3) := by decide +kernel
theorem dX10_send_81 : decode cX10_send 81 = .ok (.aload_n 0, 1) := by decide +kernel
theorem dX10_send_82 : decode cX10_send 82 = .ok (.getfield 18, 3) := by decide +kernel
theorem dX10_send_85 : decode cX10_send 85 = .ok (.irem, 1) := by decide +kernel
theorem dX10_send_86 : decode cX10_send 86 = .ok (.ifCond .ne 15, 3) := by decide +kernel
theorem dX10_send_89 : decode cX10_send 89 = .ok (.aload_n 0, 1) := by decide +kernel
theorem dX10_send_90 : decode cX10_send 90 = .ok (.dup, 1) := by decide +kernel
theorem dX10_send_91 : decode cX10_send 91 = .ok (.getfield 28, 3) := by decide +kernel
theorem dX10_send_94 : decode cX10_send 94 = .ok (.iload_n 3, 1) := by decide +kernel
theorem dX10_send_95 : decode cX10_send 95 = .ok (.iadd, 1) := by decide +kernel
theorem dX10_send_96 : decode cX10_send 96 = .ok (.putfield 28, 3) := by decide +kernel
theorem dX10_send_99 : decode cX10_send 99 = .ok (.iconst 0, 1) := by decide +kernel
theorem dX10_send_100 : decode cX10_send 100 = .ok (.ireturn, 1) := by decide +kernel
theorem dX10_send_101 : decode cX10_send 101 = .ok (.aload_n 0, 1) := by decide +kernel
theorem dX10_send_102 : decode cX10_send 102 = .ok (.dup, 1) := by decide +kernel
theorem dX10_send_103 : decode cX10_send 103 = .ok (.getfield 40, 3) := by decide +kernel
theorem dX10_send_106 : decode cX10_send 106 = .ok (.iload_n 3, 1) := by decide +kernel
theorem dX10_send_107 : decode cX10_send 107 = .ok (.iadd, 1) := by decide +kernel
theorem dX10_send_108 : decode cX10_send 108 = .ok (.putfield 40, 3) := by decide +kernel
theorem dX10_send_111 : decode cX10_send 111 = .ok (.iload_n 3, 1) := by decide +kernel
theorem dX10_send_112 : decode cX10_send 112 = .ok (.ireturn, 1) := by decide +kernel
theorem mk_X10_send : MVk yX10_send "FairBlocks$User" cX10_send 4 (Option.some FieldType.int) 1 := ⟨w_457, w_455, w_456, w_6, rfl, by decide +kernel, by decide +kernel, by decide +kernel⟩
def BX10_send_0 (G : Nat → KT) (Q : Option mV → mM → Prop) : KT := (s_aload 0 (s_geti 10 5 (s_if (fun x => x ≤ 0) (s_at G 11 [true, true, false, false]) (s_iconst (1) (s_at G 12 [true, true, false, false])))))
set_option maxRecDepth 4000 in
theorem bsX10_send_0 {p : Program} {l : Launch} {e : Env} {s : State} {m : MethodId} {args : Array Value} {below : List Frame} {meth : Method} {c : Code} {D : va_G} {ca : Nat → ClassId} {ad : Nat → Nat} {A : Nat → Prop} {Q : Option mV → mM → Prop} (hX : CX p s m args meth c 4 cX10_send "FairBlocks$User" D ca ad A) (hr : meth.sig.returnType = (Option.some FieldType.int)) : ∀ lv st M, BX10_send_0 (Gd p l e (rmD 1) s m args below meth c 4 D ca ad A 0 0 (MQ below (QC D ca ad A Q) args s 0 0 A)) Q lv st M → Gd p l e (rmD 1) s m args below meth c 4 D ca ad A 0 0 (MQ below (QC D ca ad A Q) args s 0 0 A) 0 lv st M :=
  (sd_aload_n hX dX10_send_0 rfl (sd_geti hX fl_109 (by decide) dX10_send_1 (sd_if_le hX dX10_send_4 (by decide) sd_at (sd_iconst hX dX10_send_7 rfl (sd_goto hX dX10_send_8 (by decide) sd_at)))))
def BX10_send_11 (G : Nat → KT) (Q : Option mV → mM → Prop) : KT := (s_iconst (0) (s_at G 12 [true, true, false, false]))
set_option maxRecDepth 4000 in
theorem bsX10_send_11 {p : Program} {l : Launch} {e : Env} {s : State} {m : MethodId} {args : Array Value} {below : List Frame} {meth : Method} {c : Code} {D : va_G} {ca : Nat → ClassId} {ad : Nat → Nat} {A : Nat → Prop} {Q : Option mV → mM → Prop} (hX : CX p s m args meth c 4 cX10_send "FairBlocks$User" D ca ad A) (hr : meth.sig.returnType = (Option.some FieldType.int)) : ∀ lv st M, BX10_send_11 (Gd p l e (rmD 1) s m args below meth c 4 D ca ad A 0 0 (MQ below (QC D ca ad A Q) args s 0 0 A)) Q lv st M → Gd p l e (rmD 1) s m args below meth c 4 D ca ad A 0 0 (MQ below (QC D ca ad A Q) args s 0 0 A) 11 lv st M :=
  (sd_iconst hX dX10_send_11 rfl sd_at)
def BX10_send_12 (G : Nat → KT) (Q : Option mV → mM → Prop) : KT := (s_istore 2 (s_iload 1 (s_iload 2 (s_if (fun x => x = 0) (s_at G 25 [true, false, true, false]) (s_aload 0 (s_geti 10 5 (s_at G 29 [true, false, true, false])))))))
set_option maxRecDepth 4000 in
theorem bsX10_send_12 {p : Program} {l : Launch} {e : Env} {s : State} {m : MethodId} {args : Array Value} {below : List Frame} {meth : Method} {c : Code} {D : va_G} {ca : Nat → ClassId} {ad : Nat → Nat} {A : Nat → Prop} {Q : Option mV → mM → Prop} (hX : CX p s m args meth c 4 cX10_send "FairBlocks$User" D ca ad A) (hr : meth.sig.returnType = (Option.some FieldType.int)) : ∀ lv st M, BX10_send_12 (Gd p l e (rmD 1) s m args below meth c 4 D ca ad A 0 0 (MQ below (QC D ca ad A Q) args s 0 0 A)) Q lv st M → Gd p l e (rmD 1) s m args below meth c 4 D ca ad A 0 0 (MQ below (QC D ca ad A Q) args s 0 0 A) 12 lv st M :=
  (sd_istore_n hX (by decide) dX10_send_12 rfl (sd_iload_n hX dX10_send_13 rfl (sd_iload_n hX dX10_send_14 rfl (sd_if_eq hX dX10_send_15 (by decide) sd_at (sd_aload_n hX dX10_send_18 rfl (sd_geti hX fl_109 (by decide) dX10_send_19 (sd_goto hX dX10_send_22 (by decide) sd_at)))))))
def BX10_send_25 (G : Nat → KT) (Q : Option mV → mM → Prop) : KT := (s_aload 0 (s_geti 10 4 (s_at G 29 [true, false, true, false])))
set_option maxRecDepth 4000 in
theorem bsX10_send_25 {p : Program} {l : Launch} {e : Env} {s : State} {m : MethodId} {args : Array Value} {below : List Frame} {meth : Method} {c : Code} {D : va_G} {ca : Nat → ClassId} {ad : Nat → Nat} {A : Nat → Prop} {Q : Option mV → mM → Prop} (hX : CX p s m args meth c 4 cX10_send "FairBlocks$User" D ca ad A) (hr : meth.sig.returnType = (Option.some FieldType.int)) : ∀ lv st M, BX10_send_25 (Gd p l e (rmD 1) s m args below meth c 4 D ca ad A 0 0 (MQ below (QC D ca ad A Q) args s 0 0 A)) Q lv st M → Gd p l e (rmD 1) s m args below meth c 4 D ca ad A 0 0 (MQ below (QC D ca ad A Q) args s 0 0 A) 25 lv st M :=
  (sd_aload_n hX dX10_send_25 rfl (sd_geti hX fl_107 (by decide) dX10_send_26 sd_at))
def BX10_send_29 (G : Nat → KT) (Q : Option mV → mM → Prop) : KT := (s_mth mn (s_istore 3 (s_iload 2 (s_if (fun x => x = 0) (s_at G 50 [true, false, false, true]) (s_aload 0 (s_dup (s_geti 10 5 (s_iload 3 (s_bin (fun x y => x - y) (s_puti 10 5 (s_at G 60 [true, false, false, true])))))))))))
set_option maxRecDepth 4000 in
theorem bsX10_send_29 {p : Program} {l : Launch} {e : Env} {s : State} {m : MethodId} {args : Array Value} {below : List Frame} {meth : Method} {c : Code} {D : va_G} {ca : Nat → ClassId} {ad : Nat → Nat} {A : Nat → Prop} {Q : Option mV → mM → Prop} (hX : CX p s m args meth c 4 cX10_send "FairBlocks$User" D ca ad A) (hr : meth.sig.returnType = (Option.some FieldType.int)) : ∀ lv st M, BX10_send_29 (Gd p l e (rmD 1) s m args below meth c 4 D ca ad A 0 0 (MQ below (QC D ca ad A Q) args s 0 0 A)) Q lv st M → Gd p l e (rmD 1) s m args below meth c 4 D ca ad A 0 0 (MQ below (QC D ca ad A Q) args s 0 0 A) 29 lv st M :=
  (sd_mth hX (Or.inl ⟨rfl, rfl, rfl⟩) w_458 w_459 w_14 wm_min ⟨⟨by decide, by decide⟩, by decide, by decide⟩ dX10_send_29 (sd_istore_n hX (by decide) dX10_send_32 rfl (sd_iload_n hX dX10_send_33 rfl (sd_if_eq hX dX10_send_34 (by decide) sd_at (sd_aload_n hX dX10_send_37 rfl (sd_dup hX dX10_send_38 (sd_geti hX fl_109 (by decide) dX10_send_39 (sd_iload_n hX dX10_send_42 rfl (sd_isub hX dX10_send_43 (sd_puti hX fp_109 dX10_send_44 (sd_goto hX dX10_send_47 (by decide) sd_at)))))))))))
def BX10_send_50 (G : Nat → KT) (Q : Option mV → mM → Prop) : KT := (s_aload 0 (s_dup (s_geti 10 4 (s_iload 3 (s_bin (fun x y => x - y) (s_puti 10 4 (s_at G 60 [true, false, false, true])))))))
set_option maxRecDepth 4000 in
theorem bsX10_send_50 {p : Program} {l : Launch} {e : Env} {s : State} {m : MethodId} {args : Array Value} {below : List Frame} {meth : Method} {c : Code} {D : va_G} {ca : Nat → ClassId} {ad : Nat → Nat} {A : Nat → Prop} {Q : Option mV → mM → Prop} (hX : CX p s m args meth c 4 cX10_send "FairBlocks$User" D ca ad A) (hr : meth.sig.returnType = (Option.some FieldType.int)) : ∀ lv st M, BX10_send_50 (Gd p l e (rmD 1) s m args below meth c 4 D ca ad A 0 0 (MQ below (QC D ca ad A Q) args s 0 0 A)) Q lv st M → Gd p l e (rmD 1) s m args below meth c 4 D ca ad A 0 0 (MQ below (QC D ca ad A Q) args s 0 0 A) 50 lv st M :=
  (sd_aload_n hX dX10_send_50 rfl (sd_dup hX dX10_send_51 (sd_geti hX fl_107 (by decide) dX10_send_52 (sd_iload_n hX dX10_send_55 rfl (sd_isub hX dX10_send_56 (sd_puti hX fp_107 dX10_send_57 sd_at))))))
def BX10_send_60 (G : Nat → KT) (Q : Option mV → mM → Prop) : KT := (s_aload 0 (s_dup (s_geti 10 8 (s_iconst (1) (s_bin (fun x y => x + y) (s_puti 10 8 (s_aload 0 (s_geti 10 2 (s_if (fun x => x ≤ 0) (s_at G 101 [true, false, false, true]) (s_aload 0 (s_geti 10 8 (s_aload 0 (s_geti 10 2 (s_binG (fun x y => x - x / y * y) (s_if (fun x => x = 0) ((s_aload 0 (s_dup (s_geti 10 5 (s_iload 3 (s_bin (fun x y => x + y) (s_puti 10 5 (s_iconst (0) (s_iret Q))))))))) (s_at G 101 [true, false, false, true]))))))))))))))))
set_option maxRecDepth 4000 in
theorem bsX10_send_60 {p : Program} {l : Launch} {e : Env} {s : State} {m : MethodId} {args : Array Value} {below : List Frame} {meth : Method} {c : Code} {D : va_G} {ca : Nat → ClassId} {ad : Nat → Nat} {A : Nat → Prop} {Q : Option mV → mM → Prop} (hX : CX p s m args meth c 4 cX10_send "FairBlocks$User" D ca ad A) (hr : meth.sig.returnType = (Option.some FieldType.int)) : ∀ lv st M, BX10_send_60 (Gd p l e (rmD 1) s m args below meth c 4 D ca ad A 0 0 (MQ below (QC D ca ad A Q) args s 0 0 A)) Q lv st M → Gd p l e (rmD 1) s m args below meth c 4 D ca ad A 0 0 (MQ below (QC D ca ad A Q) args s 0 0 A) 60 lv st M :=
  (sd_aload_n hX dX10_send_60 rfl (sd_dup hX dX10_send_61 (sd_geti hX fl_118 (by decide) dX10_send_62 (sd_iconst hX dX10_send_65 rfl (sd_iadd hX dX10_send_66 (sd_puti hX fp_118 dX10_send_67 (sd_aload_n hX dX10_send_70 rfl (sd_geti hX fl_99 (by decide) dX10_send_71 (sd_if_le hX dX10_send_74 (by decide) sd_at (sd_aload_n hX dX10_send_77 rfl (sd_geti hX fl_118 (by decide) dX10_send_78 (sd_aload_n hX dX10_send_81 rfl (sd_geti hX fl_99 (by decide) dX10_send_82 (sd_irem hX dX10_send_85 (sd_if_ne hX dX10_send_86 (by decide) sd_at (sd_aload_n hX dX10_send_89 rfl (sd_dup hX dX10_send_90 (sd_geti hX fl_109 (by decide) dX10_send_91 (sd_iload_n hX dX10_send_94 rfl (sd_iadd hX dX10_send_95 (sd_puti hX fp_109 dX10_send_96 (sd_iconst hX dX10_send_99 rfl (sd_iret hX hr dX10_send_100)))))))))))))))))))))))
def BX10_send_101 (G : Nat → KT) (Q : Option mV → mM → Prop) : KT := (s_aload 0 (s_dup (s_geti 10 9 (s_iload 3 (s_bin (fun x y => x + y) (s_puti 10 9 (s_iload 3 (s_iret Q))))))))
set_option maxRecDepth 4000 in
theorem bsX10_send_101 {p : Program} {l : Launch} {e : Env} {s : State} {m : MethodId} {args : Array Value} {below : List Frame} {meth : Method} {c : Code} {D : va_G} {ca : Nat → ClassId} {ad : Nat → Nat} {A : Nat → Prop} {Q : Option mV → mM → Prop} (hX : CX p s m args meth c 4 cX10_send "FairBlocks$User" D ca ad A) (hr : meth.sig.returnType = (Option.some FieldType.int)) : ∀ lv st M, BX10_send_101 (Gd p l e (rmD 1) s m args below meth c 4 D ca ad A 0 0 (MQ below (QC D ca ad A Q) args s 0 0 A)) Q lv st M → Gd p l e (rmD 1) s m args below meth c 4 D ca ad A 0 0 (MQ below (QC D ca ad A Q) args s 0 0 A) 101 lv st M :=
  (sd_aload_n hX dX10_send_101 rfl (sd_dup hX dX10_send_102 (sd_geti hX fl_119 (by decide) dX10_send_103 (sd_iload_n hX dX10_send_106 rfl (sd_iadd hX dX10_send_107 (sd_puti hX fp_119 dX10_send_108 (sd_iload_n hX dX10_send_111 rfl (sd_iret hX hr dX10_send_112))))))))
set_option maxHeartbeats 400000 in
theorem pf_X10_send (G : Nat → KT) (Q : Option mV → mM → Prop) (h0 : ∀ lv st M, BX10_send_0 G Q lv st M → G 0 lv st M) (h11 : ∀ lv st M, BX10_send_11 G Q lv st M → G 11 lv st M) (h12 : ∀ lv st M, BX10_send_12 G Q lv st M → G 12 lv st M) (h25 : ∀ lv st M, BX10_send_25 G Q lv st M → G 25 lv st M) (h29 : ∀ lv st M, BX10_send_29 G Q lv st M → G 29 lv st M) (h50 : ∀ lv st M, BX10_send_50 G Q lv st M → G 50 lv st M) (h60 : ∀ lv st M, BX10_send_60 G Q lv st M → G 60 lv st M) (h101 : ∀ lv st M, BX10_send_101 G Q lv st M → G 101 lv st M) (as : List mV) (M : mM) (ho : ∀ v ∈ as, okV v) (hp : pre_X10_send as M) (hQ : Q (fn_X10_send as M).1 (fn_X10_send as M).2) : G 0 (inL as ++ List.replicate (4 - (inL as).length) none) [] M := by
  obtain ⟨k, x, rfl⟩ := hp
  have L : ∀ (M : mM) (a : Int32), Q (some (.inl (send2 (mset M k 8 (M.1 k 8 + 1)) k a).1)) (send2 (mset M k 8 (M.1 k 8 + 1)) k a).2 → G 60 [some (.inr (.inr (10, k))), none, none, some (.inl a)] [] M := by
    intro M a hq
    simp only [send2, rm] at hq
    repeat' (first | (first | (apply h0; simp only [BX10_send_0, s_mth, s_mab, s_at, s_iconst, s_lconst, s_iload, s_lload, s_aload, s_istore, s_lstore, s_astore, s_iinc, s_bin, s_binG, s_un, s_lbin, s_lbinG, s_lsh, s_lcmp, s_i2l, s_l2i, s_dup, s_dup2, s_pop, s_if, s_icmp, s_geti, s_getl, s_getr, s_puti, s_putz, s_putl, s_iald, s_zald, s_iast, s_zast, s_aaldS, s_aaldU, s_gets, s_tald, s_tsw, tsw, s_iret, s_zret, s_lret, s_aret, s_vret, s_callV, s_callS, c1, nl1, keepL, csum, pushR, inL, List.getD_cons_zero, List.getD_cons_succ, List.set_cons_zero, List.set_cons_succ, List.cons_append, List.nil_append, List.append_nil, List.replicate, List.length_cons, List.length_nil, List.take_succ_cons, List.take_zero, List.drop_succ_cons, List.drop_zero, List.reverse_cons, List.reverse_nil, true_and, and_true, forall_const, not_true_eq_false, not_false_eq_true, false_implies, true_implies, implies_true, one0, m10, Nat.reduceAdd, Nat.reduceSub, Nat.reduceLeDiff, Nat.zero_add, Nat.add_zero]) | (apply h11; simp only [BX10_send_11, s_mth, s_mab, s_at, s_iconst, s_lconst, s_iload, s_lload, s_aload, s_istore, s_lstore, s_astore, s_iinc, s_bin, s_binG, s_un, s_lbin, s_lbinG, s_lsh, s_lcmp, s_i2l, s_l2i, s_dup, s_dup2, s_pop, s_if, s_icmp, s_geti, s_getl, s_getr, s_puti, s_putz, s_putl, s_iald, s_zald, s_iast, s_zast, s_aaldS, s_aaldU, s_gets, s_tald, s_tsw, tsw, s_iret, s_zret, s_lret, s_aret, s_vret, s_callV, s_callS, c1, nl1, keepL, csum, pushR, inL, List.getD_cons_zero, List.getD_cons_succ, List.set_cons_zero, List.set_cons_succ, List.cons_append, List.nil_append, List.append_nil, List.replicate, List.length_cons, List.length_nil, List.take_succ_cons, List.take_zero, List.drop_succ_cons, List.drop_zero, List.reverse_cons, List.reverse_nil, true_and, and_true, forall_const, not_true_eq_false, not_false_eq_true, false_implies, true_implies, implies_true, one0, m10, Nat.reduceAdd, Nat.reduceSub, Nat.reduceLeDiff, Nat.zero_add, Nat.add_zero]) | (apply h12; simp only [BX10_send_12, s_mth, s_mab, s_at, s_iconst, s_lconst, s_iload, s_lload, s_aload, s_istore, s_lstore, s_astore, s_iinc, s_bin, s_binG, s_un, s_lbin, s_lbinG, s_lsh, s_lcmp, s_i2l, s_l2i, s_dup, s_dup2, s_pop, s_if, s_icmp, s_geti, s_getl, s_getr, s_puti, s_putz, s_putl, s_iald, s_zald, s_iast, s_zast, s_aaldS, s_aaldU, s_gets, s_tald, s_tsw, tsw, s_iret, s_zret, s_lret, s_aret, s_vret, s_callV, s_callS, c1, nl1, keepL, csum, pushR, inL, List.getD_cons_zero, List.getD_cons_succ, List.set_cons_zero, List.set_cons_succ, List.cons_append, List.nil_append, List.append_nil, List.replicate, List.length_cons, List.length_nil, List.take_succ_cons, List.take_zero, List.drop_succ_cons, List.drop_zero, List.reverse_cons, List.reverse_nil, true_and, and_true, forall_const, not_true_eq_false, not_false_eq_true, false_implies, true_implies, implies_true, one0, m10, Nat.reduceAdd, Nat.reduceSub, Nat.reduceLeDiff, Nat.zero_add, Nat.add_zero]) | (apply h25; simp only [BX10_send_25, s_mth, s_mab, s_at, s_iconst, s_lconst, s_iload, s_lload, s_aload, s_istore, s_lstore, s_astore, s_iinc, s_bin, s_binG, s_un, s_lbin, s_lbinG, s_lsh, s_lcmp, s_i2l, s_l2i, s_dup, s_dup2, s_pop, s_if, s_icmp, s_geti, s_getl, s_getr, s_puti, s_putz, s_putl, s_iald, s_zald, s_iast, s_zast, s_aaldS, s_aaldU, s_gets, s_tald, s_tsw, tsw, s_iret, s_zret, s_lret, s_aret, s_vret, s_callV, s_callS, c1, nl1, keepL, csum, pushR, inL, List.getD_cons_zero, List.getD_cons_succ, List.set_cons_zero, List.set_cons_succ, List.cons_append, List.nil_append, List.append_nil, List.replicate, List.length_cons, List.length_nil, List.take_succ_cons, List.take_zero, List.drop_succ_cons, List.drop_zero, List.reverse_cons, List.reverse_nil, true_and, and_true, forall_const, not_true_eq_false, not_false_eq_true, false_implies, true_implies, implies_true, one0, m10, Nat.reduceAdd, Nat.reduceSub, Nat.reduceLeDiff, Nat.zero_add, Nat.add_zero]) | (apply h29; simp only [BX10_send_29, s_mth, s_mab, s_at, s_iconst, s_lconst, s_iload, s_lload, s_aload, s_istore, s_lstore, s_astore, s_iinc, s_bin, s_binG, s_un, s_lbin, s_lbinG, s_lsh, s_lcmp, s_i2l, s_l2i, s_dup, s_dup2, s_pop, s_if, s_icmp, s_geti, s_getl, s_getr, s_puti, s_putz, s_putl, s_iald, s_zald, s_iast, s_zast, s_aaldS, s_aaldU, s_gets, s_tald, s_tsw, tsw, s_iret, s_zret, s_lret, s_aret, s_vret, s_callV, s_callS, c1, nl1, keepL, csum, pushR, inL, List.getD_cons_zero, List.getD_cons_succ, List.set_cons_zero, List.set_cons_succ, List.cons_append, List.nil_append, List.append_nil, List.replicate, List.length_cons, List.length_nil, List.take_succ_cons, List.take_zero, List.drop_succ_cons, List.drop_zero, List.reverse_cons, List.reverse_nil, true_and, and_true, forall_const, not_true_eq_false, not_false_eq_true, false_implies, true_implies, implies_true, one0, m10, Nat.reduceAdd, Nat.reduceSub, Nat.reduceLeDiff, Nat.zero_add, Nat.add_zero]) | (apply h50; simp only [BX10_send_50, s_mth, s_mab, s_at, s_iconst, s_lconst, s_iload, s_lload, s_aload, s_istore, s_lstore, s_astore, s_iinc, s_bin, s_binG, s_un, s_lbin, s_lbinG, s_lsh, s_lcmp, s_i2l, s_l2i, s_dup, s_dup2, s_pop, s_if, s_icmp, s_geti, s_getl, s_getr, s_puti, s_putz, s_putl, s_iald, s_zald, s_iast, s_zast, s_aaldS, s_aaldU, s_gets, s_tald, s_tsw, tsw, s_iret, s_zret, s_lret, s_aret, s_vret, s_callV, s_callS, c1, nl1, keepL, csum, pushR, inL, List.getD_cons_zero, List.getD_cons_succ, List.set_cons_zero, List.set_cons_succ, List.cons_append, List.nil_append, List.append_nil, List.replicate, List.length_cons, List.length_nil, List.take_succ_cons, List.take_zero, List.drop_succ_cons, List.drop_zero, List.reverse_cons, List.reverse_nil, true_and, and_true, forall_const, not_true_eq_false, not_false_eq_true, false_implies, true_implies, implies_true, one0, m10, Nat.reduceAdd, Nat.reduceSub, Nat.reduceLeDiff, Nat.zero_add, Nat.add_zero]) | (apply h60; simp only [BX10_send_60, s_mth, s_mab, s_at, s_iconst, s_lconst, s_iload, s_lload, s_aload, s_istore, s_lstore, s_astore, s_iinc, s_bin, s_binG, s_un, s_lbin, s_lbinG, s_lsh, s_lcmp, s_i2l, s_l2i, s_dup, s_dup2, s_pop, s_if, s_icmp, s_geti, s_getl, s_getr, s_puti, s_putz, s_putl, s_iald, s_zald, s_iast, s_zast, s_aaldS, s_aaldU, s_gets, s_tald, s_tsw, tsw, s_iret, s_zret, s_lret, s_aret, s_vret, s_callV, s_callS, c1, nl1, keepL, csum, pushR, inL, List.getD_cons_zero, List.getD_cons_succ, List.set_cons_zero, List.set_cons_succ, List.cons_append, List.nil_append, List.append_nil, List.replicate, List.length_cons, List.length_nil, List.take_succ_cons, List.take_zero, List.drop_succ_cons, List.drop_zero, List.reverse_cons, List.reverse_nil, true_and, and_true, forall_const, not_true_eq_false, not_false_eq_true, false_implies, true_implies, implies_true, one0, m10, Nat.reduceAdd, Nat.reduceSub, Nat.reduceLeDiff, Nat.zero_add, Nat.add_zero]) | (apply h101; simp only [BX10_send_101, s_mth, s_mab, s_at, s_iconst, s_lconst, s_iload, s_lload, s_aload, s_istore, s_lstore, s_astore, s_iinc, s_bin, s_binG, s_un, s_lbin, s_lbinG, s_lsh, s_lcmp, s_i2l, s_l2i, s_dup, s_dup2, s_pop, s_if, s_icmp, s_geti, s_getl, s_getr, s_puti, s_putz, s_putl, s_iald, s_zald, s_iast, s_zast, s_aaldS, s_aaldU, s_gets, s_tald, s_tsw, tsw, s_iret, s_zret, s_lret, s_aret, s_vret, s_callV, s_callS, c1, nl1, keepL, csum, pushR, inL, List.getD_cons_zero, List.getD_cons_succ, List.set_cons_zero, List.set_cons_succ, List.cons_append, List.nil_append, List.append_nil, List.replicate, List.length_cons, List.length_nil, List.take_succ_cons, List.take_zero, List.drop_succ_cons, List.drop_zero, List.reverse_cons, List.reverse_nil, true_and, and_true, forall_const, not_true_eq_false, not_false_eq_true, false_implies, true_implies, implies_true, one0, m10, Nat.reduceAdd, Nat.reduceSub, Nat.reduceLeDiff, Nat.zero_add, Nat.add_zero])) | refine ⟨?_, ?_⟩ | intro hc)
    all_goals clear h0 h11 h12 h25 h29 h50 h60 h101
    all_goals (first | (simp only [*, if_true, if_false] at hq; exact hq) | (exfalso; simp_all; done))
  simp only [fn_X10_send, send] at hQ
  by_cases h5 : M.1 k 5 ≤ 0
  · simp only [sendM, sendA, if_pos h5] at hQ
    (apply h0; simp only [BX10_send_0, s_mth, s_mab, s_at, s_iconst, s_lconst, s_iload, s_lload, s_aload, s_istore, s_lstore, s_astore, s_iinc, s_bin, s_binG, s_un, s_lbin, s_lbinG, s_lsh, s_lcmp, s_i2l, s_l2i, s_dup, s_dup2, s_pop, s_if, s_icmp, s_geti, s_getl, s_getr, s_puti, s_putz, s_putl, s_iald, s_zald, s_iast, s_zast, s_aaldS, s_aaldU, s_gets, s_tald, s_tsw, tsw, s_iret, s_zret, s_lret, s_aret, s_vret, s_callV, s_callS, c1, nl1, keepL, csum, pushR, inL, List.getD_cons_zero, List.getD_cons_succ, List.set_cons_zero, List.set_cons_succ, List.cons_append, List.nil_append, List.append_nil, List.replicate, List.length_cons, List.length_nil, List.take_succ_cons, List.take_zero, List.drop_succ_cons, List.drop_zero, List.reverse_cons, List.reverse_nil, true_and, and_true, forall_const, not_true_eq_false, not_false_eq_true, false_implies, true_implies, implies_true, one0, m10, Nat.reduceAdd, Nat.reduceSub, Nat.reduceLeDiff, Nat.zero_add, Nat.add_zero])
    refine ⟨fun _ => ?_, fun h => absurd h5 h⟩
    (apply h11; simp only [BX10_send_11, s_mth, s_mab, s_at, s_iconst, s_lconst, s_iload, s_lload, s_aload, s_istore, s_lstore, s_astore, s_iinc, s_bin, s_binG, s_un, s_lbin, s_lbinG, s_lsh, s_lcmp, s_i2l, s_l2i, s_dup, s_dup2, s_pop, s_if, s_icmp, s_geti, s_getl, s_getr, s_puti, s_putz, s_putl, s_iald, s_zald, s_iast, s_zast, s_aaldS, s_aaldU, s_gets, s_tald, s_tsw, tsw, s_iret, s_zret, s_lret, s_aret, s_vret, s_callV, s_callS, c1, nl1, keepL, csum, pushR, inL, List.getD_cons_zero, List.getD_cons_succ, List.set_cons_zero, List.set_cons_succ, List.cons_append, List.nil_append, List.append_nil, List.replicate, List.length_cons, List.length_nil, List.take_succ_cons, List.take_zero, List.drop_succ_cons, List.drop_zero, List.reverse_cons, List.reverse_nil, true_and, and_true, forall_const, not_true_eq_false, not_false_eq_true, false_implies, true_implies, implies_true, one0, m10, Nat.reduceAdd, Nat.reduceSub, Nat.reduceLeDiff, Nat.zero_add, Nat.add_zero])
    (apply h12; simp only [BX10_send_12, s_mth, s_mab, s_at, s_iconst, s_lconst, s_iload, s_lload, s_aload, s_istore, s_lstore, s_astore, s_iinc, s_bin, s_binG, s_un, s_lbin, s_lbinG, s_lsh, s_lcmp, s_i2l, s_l2i, s_dup, s_dup2, s_pop, s_if, s_icmp, s_geti, s_getl, s_getr, s_puti, s_putz, s_putl, s_iald, s_zald, s_iast, s_zast, s_aaldS, s_aaldU, s_gets, s_tald, s_tsw, tsw, s_iret, s_zret, s_lret, s_aret, s_vret, s_callV, s_callS, c1, nl1, keepL, csum, pushR, inL, List.getD_cons_zero, List.getD_cons_succ, List.set_cons_zero, List.set_cons_succ, List.cons_append, List.nil_append, List.append_nil, List.replicate, List.length_cons, List.length_nil, List.take_succ_cons, List.take_zero, List.drop_succ_cons, List.drop_zero, List.reverse_cons, List.reverse_nil, true_and, and_true, forall_const, not_true_eq_false, not_false_eq_true, false_implies, true_implies, implies_true, one0, m10, Nat.reduceAdd, Nat.reduceSub, Nat.reduceLeDiff, Nat.zero_add, Nat.add_zero])
    (apply h25; simp only [BX10_send_25, s_mth, s_mab, s_at, s_iconst, s_lconst, s_iload, s_lload, s_aload, s_istore, s_lstore, s_astore, s_iinc, s_bin, s_binG, s_un, s_lbin, s_lbinG, s_lsh, s_lcmp, s_i2l, s_l2i, s_dup, s_dup2, s_pop, s_if, s_icmp, s_geti, s_getl, s_getr, s_puti, s_putz, s_putl, s_iald, s_zald, s_iast, s_zast, s_aaldS, s_aaldU, s_gets, s_tald, s_tsw, tsw, s_iret, s_zret, s_lret, s_aret, s_vret, s_callV, s_callS, c1, nl1, keepL, csum, pushR, inL, List.getD_cons_zero, List.getD_cons_succ, List.set_cons_zero, List.set_cons_succ, List.cons_append, List.nil_append, List.append_nil, List.replicate, List.length_cons, List.length_nil, List.take_succ_cons, List.take_zero, List.drop_succ_cons, List.drop_zero, List.reverse_cons, List.reverse_nil, true_and, and_true, forall_const, not_true_eq_false, not_false_eq_true, false_implies, true_implies, implies_true, one0, m10, Nat.reduceAdd, Nat.reduceSub, Nat.reduceLeDiff, Nat.zero_add, Nat.add_zero])
    (apply h29; simp only [BX10_send_29, s_mth, s_mab, s_at, s_iconst, s_lconst, s_iload, s_lload, s_aload, s_istore, s_lstore, s_astore, s_iinc, s_bin, s_binG, s_un, s_lbin, s_lbinG, s_lsh, s_lcmp, s_i2l, s_l2i, s_dup, s_dup2, s_pop, s_if, s_icmp, s_geti, s_getl, s_getr, s_puti, s_putz, s_putl, s_iald, s_zald, s_iast, s_zast, s_aaldS, s_aaldU, s_gets, s_tald, s_tsw, tsw, s_iret, s_zret, s_lret, s_aret, s_vret, s_callV, s_callS, c1, nl1, keepL, csum, pushR, inL, List.getD_cons_zero, List.getD_cons_succ, List.set_cons_zero, List.set_cons_succ, List.cons_append, List.nil_append, List.append_nil, List.replicate, List.length_cons, List.length_nil, List.take_succ_cons, List.take_zero, List.drop_succ_cons, List.drop_zero, List.reverse_cons, List.reverse_nil, true_and, and_true, forall_const, not_true_eq_false, not_false_eq_true, false_implies, true_implies, implies_true, one0, m10, Nat.reduceAdd, Nat.reduceSub, Nat.reduceLeDiff, Nat.zero_add, Nat.add_zero])
    (apply h50; simp only [BX10_send_50, s_mth, s_mab, s_at, s_iconst, s_lconst, s_iload, s_lload, s_aload, s_istore, s_lstore, s_astore, s_iinc, s_bin, s_binG, s_un, s_lbin, s_lbinG, s_lsh, s_lcmp, s_i2l, s_l2i, s_dup, s_dup2, s_pop, s_if, s_icmp, s_geti, s_getl, s_getr, s_puti, s_putz, s_putl, s_iald, s_zald, s_iast, s_zast, s_aaldS, s_aaldU, s_gets, s_tald, s_tsw, tsw, s_iret, s_zret, s_lret, s_aret, s_vret, s_callV, s_callS, c1, nl1, keepL, csum, pushR, inL, List.getD_cons_zero, List.getD_cons_succ, List.set_cons_zero, List.set_cons_succ, List.cons_append, List.nil_append, List.append_nil, List.replicate, List.length_cons, List.length_nil, List.take_succ_cons, List.take_zero, List.drop_succ_cons, List.drop_zero, List.reverse_cons, List.reverse_nil, true_and, and_true, forall_const, not_true_eq_false, not_false_eq_true, false_implies, true_implies, implies_true, one0, m10, Nat.reduceAdd, Nat.reduceSub, Nat.reduceLeDiff, Nat.zero_add, Nat.add_zero])
    exact L _ _ hQ
  · simp only [sendM, sendA, if_neg h5] at hQ
    (apply h0; simp only [BX10_send_0, s_mth, s_mab, s_at, s_iconst, s_lconst, s_iload, s_lload, s_aload, s_istore, s_lstore, s_astore, s_iinc, s_bin, s_binG, s_un, s_lbin, s_lbinG, s_lsh, s_lcmp, s_i2l, s_l2i, s_dup, s_dup2, s_pop, s_if, s_icmp, s_geti, s_getl, s_getr, s_puti, s_putz, s_putl, s_iald, s_zald, s_iast, s_zast, s_aaldS, s_aaldU, s_gets, s_tald, s_tsw, tsw, s_iret, s_zret, s_lret, s_aret, s_vret, s_callV, s_callS, c1, nl1, keepL, csum, pushR, inL, List.getD_cons_zero, List.getD_cons_succ, List.set_cons_zero, List.set_cons_succ, List.cons_append, List.nil_append, List.append_nil, List.replicate, List.length_cons, List.length_nil, List.take_succ_cons, List.take_zero, List.drop_succ_cons, List.drop_zero, List.reverse_cons, List.reverse_nil, true_and, and_true, forall_const, not_true_eq_false, not_false_eq_true, false_implies, true_implies, implies_true, one0, m10, Nat.reduceAdd, Nat.reduceSub, Nat.reduceLeDiff, Nat.zero_add, Nat.add_zero])
    refine ⟨fun h => absurd h h5, fun h => ?_⟩
    (apply h12; simp only [BX10_send_12, s_mth, s_mab, s_at, s_iconst, s_lconst, s_iload, s_lload, s_aload, s_istore, s_lstore, s_astore, s_iinc, s_bin, s_binG, s_un, s_lbin, s_lbinG, s_lsh, s_lcmp, s_i2l, s_l2i, s_dup, s_dup2, s_pop, s_if, s_icmp, s_geti, s_getl, s_getr, s_puti, s_putz, s_putl, s_iald, s_zald, s_iast, s_zast, s_aaldS, s_aaldU, s_gets, s_tald, s_tsw, tsw, s_iret, s_zret, s_lret, s_aret, s_vret, s_callV, s_callS, c1, nl1, keepL, csum, pushR, inL, List.getD_cons_zero, List.getD_cons_succ, List.set_cons_zero, List.set_cons_succ, List.cons_append, List.nil_append, List.append_nil, List.replicate, List.length_cons, List.length_nil, List.take_succ_cons, List.take_zero, List.drop_succ_cons, List.drop_zero, List.reverse_cons, List.reverse_nil, true_and, and_true, forall_const, not_true_eq_false, not_false_eq_true, false_implies, true_implies, implies_true, one0, m10, Nat.reduceAdd, Nat.reduceSub, Nat.reduceLeDiff, Nat.zero_add, Nat.add_zero])
    (apply h29; simp only [BX10_send_29, s_mth, s_mab, s_at, s_iconst, s_lconst, s_iload, s_lload, s_aload, s_istore, s_lstore, s_astore, s_iinc, s_bin, s_binG, s_un, s_lbin, s_lbinG, s_lsh, s_lcmp, s_i2l, s_l2i, s_dup, s_dup2, s_pop, s_if, s_icmp, s_geti, s_getl, s_getr, s_puti, s_putz, s_putl, s_iald, s_zald, s_iast, s_zast, s_aaldS, s_aaldU, s_gets, s_tald, s_tsw, tsw, s_iret, s_zret, s_lret, s_aret, s_vret, s_callV, s_callS, c1, nl1, keepL, csum, pushR, inL, List.getD_cons_zero, List.getD_cons_succ, List.set_cons_zero, List.set_cons_succ, List.cons_append, List.nil_append, List.append_nil, List.replicate, List.length_cons, List.length_nil, List.take_succ_cons, List.take_zero, List.drop_succ_cons, List.drop_zero, List.reverse_cons, List.reverse_nil, true_and, and_true, forall_const, not_true_eq_false, not_false_eq_true, false_implies, true_implies, implies_true, one0, m10, Nat.reduceAdd, Nat.reduceSub, Nat.reduceLeDiff, Nat.zero_add, Nat.add_zero])
    exact L _ _ hQ
theorem ct_X10_send (l : Launch) : Con l yX10_send cX10_send 4 (Option.some FieldType.int) 1 pre_X10_send fn_X10_send := con_of (by decide +kernel) ok_X10_send len_X10_send (fun p e s m args below meth c D ca ad A as M hX hr hp ho => pf_X10_send _ _ (bsX10_send_0 hX hr) (bsX10_send_11 hX hr) (bsX10_send_12 hX hr) (bsX10_send_25 hX hr) (bsX10_send_29 hX hr) (bsX10_send_50 hX hr) (bsX10_send_60 hX hr) (bsX10_send_101 hX hr) as M ho hp ⟨rfl, rfl⟩)
end
section
/-! Standing, Plan, Acts, Bench, Text -/
theorem lnU {k : Nat} (h : kof k = 8) : ln (k + 1) = 5 := by
  have g : ∀ k, k < 178 → kof k = 8 → ln (k + 1) = 5 := by decide +kernel
  exact g k (kof_lt (by omega)) h
theorem k5 {k : Nat} (h : kof k = 5) : k = 4 := by
  have g : ∀ k, k < 178 → kof k = 5 → k = 4 := by decide +kernel
  exact g k (kof_lt (by omega)) h
theorem k0 {k : Nat} (h : kof k = 0) : k = 26 := by
  have g : ∀ k, k < 178 → kof k = 0 → k = 26 := by decide +kernel
  exact g k (kof_lt (by omega)) h
theorem k9 {k : Nat} (h : kof k = 9) : k = 1 := by
  have g : ∀ k, k < 178 → kof k = 9 → k = 1 := by decide +kernel
  exact g k (kof_lt (by omega)) h
theorem kU {k i : Nat} (h : kof k = 8) (hi : i < 5) : kof (k + 1 + 1 + i) = 10 := by
  have hlt := kof_lt (k := k) (by omega)
  exact okU (k + 1) (kof_lt (by rw [okA k hlt h]; decide)) (okA k hlt h) i (by rw [lnU h]; exact hi)
def OF (M : mM) : Prop := ∀ k, kof k = 10 → M.1 k 3 = 0 ∨ M.1 k 3 = 1
theorem cpU_get {M : mM} {k o a b : Nat} : (cpU M k o).1 a b = if a = k ∧ b < 10 then M.1 o b else M.1 a b := by
  by_cases ha : a = k
  · subst ha
    by_cases hb : b < 10
    · have : b = 0 ∨ b = 1 ∨ b = 2 ∨ b = 3 ∨ b = 4 ∨ b = 5 ∨ b = 6 ∨ b = 7 ∨ b = 8 ∨ b = 9 := by omega
      rcases this with rfl | rfl | rfl | rfl | rfl | rfl | rfl | rfl | rfl | rfl <;> simp [cpU, mset_get]
    · have h0 : b ≠ 0 := by omega
      have h1 : b ≠ 1 := by omega
      have h2 : b ≠ 2 := by omega
      have h3 : b ≠ 3 := by omega
      have h4 : b ≠ 4 := by omega
      have h5 : b ≠ 5 := by omega
      have h6 : b ≠ 6 := by omega
      have h7 : b ≠ 7 := by omega
      have h8 : b ≠ 8 := by omega
      have h9 : b ≠ 9 := by omega
      simp [cpU, mset_get, *]
  · simp [cpU, mset_get, ha]
theorem cpU_2 {M : mM} {k o : Nat} : (cpU M k o).2 = M.2 := rfl
theorem OF_cpU {M : mM} {k o : Nat} (h : OF M) (ho : kof o = 10) : OF (cpU M k o) := by
  intro a ha
  rw [cpU_get]
  split
  · exact h o ho
  · exact h a ha
def cpL (M : mM) (k o n i : Nat) : mM := itr (fun i M => cpU M (k + 1 + 1 + i) (o + 1 + 1 + i)) i n M
def stc (M : mM) (k o : Nat) : mM := mset (mset (cpL M k o 5 0) k 1 ((cpL M k o 5 0).1 o 1)) k 2 ((cpL M k o 5 0).1 o 2)
def pre_X8_copyFrom (as : List mV) (M : mM) : Prop := ∃ k o, as = [.inr (.inr (8, k)), .inr (.inr (8, o))] ∧ OF M
def fn_X8_copyFrom : List mV → mM → Option mV × mM
  | [.inr (.inr (_, k)), .inr (.inr (_, o))], M => (none, stc M k o)
  | _, M => (none, M)
theorem ok_X8_copyFrom (as : List mV) (M : mM) (h : pre_X8_copyFrom as M) (_ : ∀ v ∈ as, okV v) : okR (fn_X8_copyFrom as M).1 := by
  obtain ⟨k, o, rfl, -⟩ := h
  first | trivial | exact (by decide +kernel : kof 14 = 8)
theorem len_X8_copyFrom (as : List mV) (M : mM) (h : pre_X8_copyFrom as M) : (inL as).length ≤ 3 := by
  obtain ⟨k, o, rfl, -⟩ := h
  exact Nat.le_of_ble_eq_true rfl

theorem fl_142 : FLk "FairBlocks$Standing" 11 8 0 19 := ⟨RX8, TX8, 3, rfl, inX8, by decide, w_142, by decide, rfl⟩
theorem fl_150 : FLk "FairBlocks$Standing" 17 8 1 0 := ⟨RX8, TX8, 3, rfl, inX8, by decide, w_150, by decide, rfl⟩
theorem fl_154 : FLk "FairBlocks$Standing" 21 8 2 0 := ⟨RX8, TX8, 3, rfl, inX8, by decide, w_154, by decide, rfl⟩
theorem fp_150 : FPk "FairBlocks$Standing" 17 8 1 0 .int := ⟨RX8, TX8, 3, tyX8, rfl, inX8, by decide, w_150, by decide, rfl, tyX8_ok, nmX8, rfl, rfl⟩
theorem fp_154 : FPk "FairBlocks$Standing" 21 8 2 0 .int := ⟨RX8, TX8, 3, tyX8, rfl, inX8, by decide, w_154, by decide, rfl, tyX8_ok, nmX8, rfl, rfl⟩
theorem dX8_copyFrom_0 : decode cX8_copyFrom 0 = .ok (.iconst 0, 1) := by decide +kernel
theorem dX8_copyFrom_1 : decode cX8_copyFrom 1 = .ok (.istore_n 2, 1) := by decide +kernel
theorem dX8_copyFrom_2 : decode cX8_copyFrom 2 = .ok (.iload_n 2, 1) := by decide +kernel
theorem dX8_copyFrom_3 : decode cX8_copyFrom 3 = .ok (.iconst 5, 1) := by decide +kernel
theorem dX8_copyFrom_4 : decode cX8_copyFrom 4 = .ok (.if_icmp .ge 24, 3) := by decide +kernel
theorem dX8_copyFrom_7 : decode cX8_copyFrom 7 = .ok (.aload_n 0, 1) := by decide +kernel
theorem dX8_copyFrom_8 : decode cX8_copyFrom 8 = .ok (.getfield 11, 3) := by decide +kernel
theorem dX8_copyFrom_11 : decode cX8_copyFrom 11 = .ok (.iload_n 2, 1) := by decide +kernel
theorem dX8_copyFrom_12 : decode cX8_copyFrom 12 = .ok (.aaload, 1) := by decide +kernel
theorem dX8_copyFrom_13 : decode cX8_copyFrom 13 = .ok (.aload_n 1, 1) := by decide +kernel
theorem dX8_copyFrom_14 : decode cX8_copyFrom 14 = .ok (.getfield 11, 3) := by decide +kernel
theorem dX8_copyFrom_17 : decode cX8_copyFrom 17 = .ok (.iload_n 2, 1) := by decide +kernel
theorem dX8_copyFrom_18 : decode cX8_copyFrom 18 = .ok (.aaload, 1) := by decide +kernel
theorem dX8_copyFrom_19 : decode cX8_copyFrom 19 = .ok (.invokevirtual 25, 3) := by decide +kernel
theorem dX8_copyFrom_22 : decode cX8_copyFrom 22 = .ok (.iinc 2 1, 3) := by decide +kernel
theorem dX8_copyFrom_25 : decode cX8_copyFrom 25 = .ok (.goto (-23), 3) := by decide +kernel
theorem dX8_copyFrom_28 : decode cX8_copyFrom 28 = .ok (.aload_n 0, 1) := by decide +kernel
theorem dX8_copyFrom_29 : decode cX8_copyFrom 29 = .ok (.aload_n 1, 1) := by decide +kernel
theorem dX8_copyFrom_30 : decode cX8_copyFrom 30 = .ok (.getfield 17, 3) := by decide +kernel
theorem dX8_copyFrom_33 : decode cX8_copyFrom 33 = .ok (.putfield 17, 3) := by decide +kernel
theorem dX8_copyFrom_36 : decode cX8_copyFrom 36 = .ok (.aload_n 0, 1) := by decide +kernel
theorem dX8_copyFrom_37 : decode cX8_copyFrom 37 = .ok (.aload_n 1, 1) := by decide +kernel
theorem dX8_copyFrom_38 : decode cX8_copyFrom 38 = .ok (.getfield 21, 3) := by decide +kernel
theorem dX8_copyFrom_41 : decode cX8_copyFrom 41 = .ok (.putfield 21, 3) := by decide +kernel
theorem dX8_copyFrom_44 : decode cX8_copyFrom 44 = .ok (.return_, 1) := by decide +kernel
theorem mk_X8_copyFrom : MVk yX8_copyFrom "FairBlocks$Standing" cX8_copyFrom 3 (Option.none : Option FieldType) 1 := ⟨w_420, w_418, w_419, w_5, rfl, by decide +kernel, by decide +kernel, by decide +kernel⟩
def BX8_copyFrom_0 (G : Nat → KT) (Q : Option mV → mM → Prop) : KT := (s_iconst (0) (s_istore 2 (s_at G 2 [true, true, true])))
set_option maxRecDepth 4000 in
theorem bsX8_copyFrom_0 {p : Program} {l : Launch} {e : Env} {s : State} {m : MethodId} {args : Array Value} {below : List Frame} {meth : Method} {c : Code} {D : va_G} {ca : Nat → ClassId} {ad : Nat → Nat} {A : Nat → Prop} {Q : Option mV → mM → Prop} (hX : CX p s m args meth c 3 cX8_copyFrom "FairBlocks$Standing" D ca ad A) (hr : meth.sig.returnType = (Option.none : Option FieldType)) : ∀ lv st M, BX8_copyFrom_0 (Gd p l e (rmD 1) s m args below meth c 3 D ca ad A 0 0 (MQ below (QC D ca ad A Q) args s 0 0 A)) Q lv st M → Gd p l e (rmD 1) s m args below meth c 3 D ca ad A 0 0 (MQ below (QC D ca ad A Q) args s 0 0 A) 0 lv st M :=
  (sd_iconst hX dX8_copyFrom_0 rfl (sd_istore_n hX (by decide) dX8_copyFrom_1 rfl sd_at))
def BX8_copyFrom_2 (G : Nat → KT) (Q : Option mV → mM → Prop) : KT := (s_iload 2 (s_iconst (5) (s_icmp (fun x y => y ≤ x) (s_at G 28 [true, true, false]) (s_aload 0 (s_getr 8 16 (fun k => k + 1) (s_iload 2 (s_aaldU (s_aload 1 (s_getr 8 16 (fun k => k + 1) (s_iload 2 (s_aaldU (s_callV 10 1 pre_X10_copyFrom fn_X10_copyFrom (s_iinc 2 (1) (s_at G 2 [true, true, true]))))))))))))))
set_option maxRecDepth 4000 in
theorem bsX8_copyFrom_2 {p : Program} {l : Launch} {e : Env} {s : State} {m : MethodId} {args : Array Value} {below : List Frame} {meth : Method} {c : Code} {D : va_G} {ca : Nat → ClassId} {ad : Nat → Nat} {A : Nat → Prop} {Q : Option mV → mM → Prop} (hX : CX p s m args meth c 3 cX8_copyFrom "FairBlocks$Standing" D ca ad A) (hr : meth.sig.returnType = (Option.none : Option FieldType)) : ∀ lv st M, BX8_copyFrom_2 (Gd p l e (rmD 1) s m args below meth c 3 D ca ad A 0 0 (MQ below (QC D ca ad A Q) args s 0 0 A)) Q lv st M → Gd p l e (rmD 1) s m args below meth c 3 D ca ad A 0 0 (MQ below (QC D ca ad A Q) args s 0 0 A) 2 lv st M :=
  (sd_iload_n hX dX8_copyFrom_2 rfl (sd_iconst hX dX8_copyFrom_3 rfl (sd_icmp_ge hX dX8_copyFrom_4 (by decide) sd_at (sd_aload_n hX dX8_copyFrom_7 rfl (sd_getr hX fl_142 (fun _ => rfl) okA dX8_copyFrom_8 (sd_iload_n hX dX8_copyFrom_11 rfl (sd_aaldU hX dX8_copyFrom_12 (sd_aload_n hX dX8_copyFrom_13 rfl (sd_getr hX fl_142 (fun _ => rfl) okA dX8_copyFrom_14 (sd_iload_n hX dX8_copyFrom_17 rfl (sd_aaldU hX dX8_copyFrom_18 (sd_callV hX (kd := 10) rfl (by decide) (ct_X10_copyFrom l) mk_X10_copyFrom w_421 ⟨⟨by decide, by decide⟩, by decide, by decide⟩ dX8_copyFrom_19 (sd_iinc hX (by decide) dX8_copyFrom_22 rfl (sd_goto hX dX8_copyFrom_25 (by decide) sd_at))))))))))))))
def BX8_copyFrom_28 (G : Nat → KT) (Q : Option mV → mM → Prop) : KT := (s_aload 0 (s_aload 1 (s_geti 8 1 (s_puti 8 1 (s_aload 0 (s_aload 1 (s_geti 8 2 (s_puti 8 2 (s_vret Q)))))))))
set_option maxRecDepth 4000 in
theorem bsX8_copyFrom_28 {p : Program} {l : Launch} {e : Env} {s : State} {m : MethodId} {args : Array Value} {below : List Frame} {meth : Method} {c : Code} {D : va_G} {ca : Nat → ClassId} {ad : Nat → Nat} {A : Nat → Prop} {Q : Option mV → mM → Prop} (hX : CX p s m args meth c 3 cX8_copyFrom "FairBlocks$Standing" D ca ad A) (hr : meth.sig.returnType = (Option.none : Option FieldType)) : ∀ lv st M, BX8_copyFrom_28 (Gd p l e (rmD 1) s m args below meth c 3 D ca ad A 0 0 (MQ below (QC D ca ad A Q) args s 0 0 A)) Q lv st M → Gd p l e (rmD 1) s m args below meth c 3 D ca ad A 0 0 (MQ below (QC D ca ad A Q) args s 0 0 A) 28 lv st M :=
  (sd_aload_n hX dX8_copyFrom_28 rfl (sd_aload_n hX dX8_copyFrom_29 rfl (sd_geti hX fl_150 (by decide) dX8_copyFrom_30 (sd_puti hX fp_150 dX8_copyFrom_33 (sd_aload_n hX dX8_copyFrom_36 rfl (sd_aload_n hX dX8_copyFrom_37 rfl (sd_geti hX fl_154 (by decide) dX8_copyFrom_38 (sd_puti hX fp_154 dX8_copyFrom_41 (sd_vret hX hr dX8_copyFrom_44)))))))))
set_option maxHeartbeats 400000 in
theorem pf_X8_copyFrom (G : Nat → KT) (Q : Option mV → mM → Prop) (h0 : ∀ lv st M, BX8_copyFrom_0 G Q lv st M → G 0 lv st M) (h2 : ∀ lv st M, BX8_copyFrom_2 G Q lv st M → G 2 lv st M) (h28 : ∀ lv st M, BX8_copyFrom_28 G Q lv st M → G 28 lv st M) (as : List mV) (M : mM) (ho : ∀ v ∈ as, okV v) (hp : pre_X8_copyFrom as M) (hQ : Q (fn_X8_copyFrom as M).1 (fn_X8_copyFrom as M).2) : G 0 (inL as ++ List.replicate (3 - (inL as).length) none) [] M := by
  obtain ⟨k, o, rfl, hOF⟩ := hp
  have hk : kof k = 8 := ho (.inr (.inr (8, k))) (by simp)
  have hko : kof o = 8 := ho (.inr (.inr (8, o))) (by simp)
  have hl1 := lnU hk
  have hl2 := lnU hko
  have loop : ∀ (n i : Nat) (M : mM), i + n = 5 → OF M → Q none (mset (mset (cpL M k o n i) k 1 ((cpL M k o n i).1 o 1)) k 2 ((cpL M k o n i).1 o 2)) → G 2 [some (.inr (.inr (8, k))), some (.inr (.inr (8, o))), some (.inl (nI i))] [] M := by
    intro n
    induction n with
    | zero =>
      intro i M hi hF hq
      obtain rfl : i = 5 := by omega
      (apply h2; simp only [BX8_copyFrom_2, s_mth, s_mab, s_at, s_iconst, s_lconst, s_iload, s_lload, s_aload, s_istore, s_lstore, s_astore, s_iinc, s_bin, s_binG, s_un, s_lbin, s_lbinG, s_lsh, s_lcmp, s_i2l, s_l2i, s_dup, s_dup2, s_pop, s_if, s_icmp, s_geti, s_getl, s_getr, s_puti, s_putz, s_putl, s_iald, s_zald, s_iast, s_zast, s_aaldS, s_aaldU, s_gets, s_tald, s_tsw, tsw, s_iret, s_zret, s_lret, s_aret, s_vret, s_callV, s_callS, c1, nl1, keepL, csum, pushR, inL, List.getD_cons_zero, List.getD_cons_succ, List.set_cons_zero, List.set_cons_succ, List.cons_append, List.nil_append, List.append_nil, List.replicate, List.length_cons, List.length_nil, List.take_succ_cons, List.take_zero, List.drop_succ_cons, List.drop_zero, List.reverse_cons, List.reverse_nil, true_and, and_true, forall_const, not_true_eq_false, not_false_eq_true, false_implies, true_implies, implies_true, one0, m10, Nat.reduceAdd, Nat.reduceSub, Nat.reduceLeDiff, Nat.zero_add, Nat.add_zero, fn_X10_copyFrom])
      refine ⟨fun _ => ?_, fun h => absurd (nI_le (Nat.le_refl 5) (by decide)) h⟩
      (apply h28; simp only [BX8_copyFrom_28, s_mth, s_mab, s_at, s_iconst, s_lconst, s_iload, s_lload, s_aload, s_istore, s_lstore, s_astore, s_iinc, s_bin, s_binG, s_un, s_lbin, s_lbinG, s_lsh, s_lcmp, s_i2l, s_l2i, s_dup, s_dup2, s_pop, s_if, s_icmp, s_geti, s_getl, s_getr, s_puti, s_putz, s_putl, s_iald, s_zald, s_iast, s_zast, s_aaldS, s_aaldU, s_gets, s_tald, s_tsw, tsw, s_iret, s_zret, s_lret, s_aret, s_vret, s_callV, s_callS, c1, nl1, keepL, csum, pushR, inL, List.getD_cons_zero, List.getD_cons_succ, List.set_cons_zero, List.set_cons_succ, List.cons_append, List.nil_append, List.append_nil, List.replicate, List.length_cons, List.length_nil, List.take_succ_cons, List.take_zero, List.drop_succ_cons, List.drop_zero, List.reverse_cons, List.reverse_nil, true_and, and_true, forall_const, not_true_eq_false, not_false_eq_true, false_implies, true_implies, implies_true, one0, m10, Nat.reduceAdd, Nat.reduceSub, Nat.reduceLeDiff, Nat.zero_add, Nat.add_zero, fn_X10_copyFrom])
      simp [mset_get]
      exact hq
    | succ n ih =>
      intro i M hi hF hq
      (apply h2; simp only [BX8_copyFrom_2, s_mth, s_mab, s_at, s_iconst, s_lconst, s_iload, s_lload, s_aload, s_istore, s_lstore, s_astore, s_iinc, s_bin, s_binG, s_un, s_lbin, s_lbinG, s_lsh, s_lcmp, s_i2l, s_l2i, s_dup, s_dup2, s_pop, s_if, s_icmp, s_geti, s_getl, s_getr, s_puti, s_putz, s_putl, s_iald, s_zald, s_iast, s_zast, s_aaldS, s_aaldU, s_gets, s_tald, s_tsw, tsw, s_iret, s_zret, s_lret, s_aret, s_vret, s_callV, s_callS, c1, nl1, keepL, csum, pushR, inL, List.getD_cons_zero, List.getD_cons_succ, List.set_cons_zero, List.set_cons_succ, List.cons_append, List.nil_append, List.append_nil, List.replicate, List.length_cons, List.length_nil, List.take_succ_cons, List.take_zero, List.drop_succ_cons, List.drop_zero, List.reverse_cons, List.reverse_nil, true_and, and_true, forall_const, not_true_eq_false, not_false_eq_true, false_implies, true_implies, implies_true, one0, m10, Nat.reduceAdd, Nat.reduceSub, Nat.reduceLeDiff, Nat.zero_add, Nat.add_zero, fn_X10_copyFrom])
      refine ⟨fun h => absurd h (nI_ge (b := 5) (by omega) (by decide)), fun _ => ?_⟩
      rw [nI_clamp (by omega : i < 2 ^ 31), nI_1, hl1, hl2]
      refine ⟨vp_in_nI (by omega) (by decide), vp_in_nI (by omega) (by decide), ⟨_, _, rfl, hF _ (kU hko (by omega))⟩, ?_⟩
      exact ih (i + 1) _ (by omega) (OF_cpU hF (kU hko (by omega))) hq
  (apply h0; simp only [BX8_copyFrom_0, s_mth, s_mab, s_at, s_iconst, s_lconst, s_iload, s_lload, s_aload, s_istore, s_lstore, s_astore, s_iinc, s_bin, s_binG, s_un, s_lbin, s_lbinG, s_lsh, s_lcmp, s_i2l, s_l2i, s_dup, s_dup2, s_pop, s_if, s_icmp, s_geti, s_getl, s_getr, s_puti, s_putz, s_putl, s_iald, s_zald, s_iast, s_zast, s_aaldS, s_aaldU, s_gets, s_tald, s_tsw, tsw, s_iret, s_zret, s_lret, s_aret, s_vret, s_callV, s_callS, c1, nl1, keepL, csum, pushR, inL, List.getD_cons_zero, List.getD_cons_succ, List.set_cons_zero, List.set_cons_succ, List.cons_append, List.nil_append, List.append_nil, List.replicate, List.length_cons, List.length_nil, List.take_succ_cons, List.take_zero, List.drop_succ_cons, List.drop_zero, List.reverse_cons, List.reverse_nil, true_and, and_true, forall_const, not_true_eq_false, not_false_eq_true, false_implies, true_implies, implies_true, one0, m10, Nat.reduceAdd, Nat.reduceSub, Nat.reduceLeDiff, Nat.zero_add, Nat.add_zero, fn_X10_copyFrom])
  exact loop 5 0 M rfl hOF hQ
theorem ct_X8_copyFrom (l : Launch) : Con l yX8_copyFrom cX8_copyFrom 3 (Option.none : Option FieldType) 1 pre_X8_copyFrom fn_X8_copyFrom := con_of (by decide +kernel) ok_X8_copyFrom len_X8_copyFrom (fun p e s m args below meth c D ca ad A as M hX hr hp ho => pf_X8_copyFrom _ _ (bsX8_copyFrom_0 hX hr) (bsX8_copyFrom_2 hX hr) (bsX8_copyFrom_28 hX hr) as M ho hp ⟨rfl, rfl⟩)
def offS (M : mM) (k i : Nat) (b : Int32) : Int32 := b ||| (if M.1 (k + 1 + 1 + i) 3 = 0 then (0 : Int32) else (1 : Int32) <<< (nI i &&& 31))
def pre_X8_offBits (as : List mV) (M : mM) : Prop := ∃ k x, as = [.inr (.inr (8, k)), .inl x] ∧ ∃ n, n ≤ 5 ∧ x = nI n
def fn_X8_offBits : List mV → mM → Option mV × mM
  | [.inr (.inr (_, k)), .inl x], M => (some (.inl (itr (offS M k) 0 x.toNatClampNeg 0)), M)
  | _, M => (none, M)
theorem ok_X8_offBits (as : List mV) (M : mM) (h : pre_X8_offBits as M) (_ : ∀ v ∈ as, okV v) : okR (fn_X8_offBits as M).1 := by
  obtain ⟨k, x, rfl, -⟩ := h
  first | trivial | exact (by decide +kernel : kof 14 = 8)
theorem len_X8_offBits (as : List mV) (M : mM) (h : pre_X8_offBits as M) : (inL as).length ≤ 4 := by
  obtain ⟨k, x, rfl, -⟩ := h
  exact Nat.le_of_ble_eq_true rfl

theorem fl_101 : FLk "FairBlocks$Standing" 29 10 3 1 := ⟨RX10, TX10, 10, rfl, inX10, by decide, w_101, by decide, rfl⟩
theorem dX8_offBits_0 : decode cX8_offBits 0 = .ok (.iconst 0, 1) := by decide +kernel
theorem dX8_offBits_1 : decode cX8_offBits 1 = .ok (.istore_n 2, 1) := by decide +kernel
theorem dX8_offBits_2 : decode cX8_offBits 2 = .ok (.iconst 0, 1) := by decide +kernel
theorem dX8_offBits_3 : decode cX8_offBits 3 = .ok (.istore_n 3, 1) := by decide +kernel
theorem dX8_offBits_4 : decode cX8_offBits 4 = .ok (.iload_n 3, 1) := by decide +kernel
theorem dX8_offBits_5 : decode cX8_offBits 5 = .ok (.iload_n 1, 1) := by decide +kernel
theorem dX8_offBits_6 : decode cX8_offBits 6 = .ok (.if_icmp .ge 36, 3) := by decide +kernel
theorem dX8_offBits_9 : decode cX8_offBits 9 = .ok (.iload_n 3, 1) := by decide +kernel
theorem dX8_offBits_10 : decode cX8_offBits 10 = .ok (.iconst 5, 1) := by decide +kernel
theorem dX8_offBits_11 : decode cX8_offBits 11 = .ok (.if_icmp .ge 31, 3) := by decide +kernel
theorem dX8_offBits_14 : decode cX8_offBits 14 = .ok (.iload_n 2, 1) := by decide +kernel
theorem dX8_offBits_15 : decode cX8_offBits 15 = .ok (.aload_n 0, 1) := by decide +kernel
theorem dX8_offBits_16 : decode cX8_offBits 16 = .ok (.getfield 11, 3) := by decide +kernel
theorem dX8_offBits_19 : decode cX8_offBits 19 = .ok (.iload_n 3, 1) := by decide +kernel
theorem dX8_offBits_20 : decode cX8_offBits 20 = .ok (.aaload, 1) := by decide +kernel
theorem dX8_offBits_21 : decode cX8_offBits 21 = .ok (.getfield 29, 3) := by decide +kernel
theorem dX8_offBits_24 : decode cX8_offBits 24 = .ok (.ifCond .eq 9, 3) := by decide +kernel
theorem dX8_offBits_27 : decode cX8_offBits 27 = .ok (.iconst 1, 1) := by decide +kernel
theorem dX8_offBits_28 : decode cX8_offBits 28 = .ok (.iload_n 3, 1) := by decide +kernel
theorem dX8_offBits_29 : decode cX8_offBits 29 = .ok (.ishl, 1) := by decide +kernel
theorem dX8_offBits_30 : decode cX8_offBits 30 = .ok (.goto 4, 3) := by decide +kernel
theorem dX8_offBits_33 : decode cX8_offBits 33 = .ok (.iconst 0, 1) := by decide +kernel
theorem dX8_offBits_34 : decode cX8_offBits 34 = .ok (.ior, 1) := by decide +kernel
theorem dX8_offBits_35 : decode cX8_offBits 35 = .ok (.istore_n 2, 1) := by decide +kernel
theorem dX8_offBits_36 : decode cX8_offBits 36 = .ok (.iinc 3 1, 3) := by decide +kernel
theorem dX8_offBits_39 : decode cX8_offBits 39 = .ok (.goto (-35), 3) := by decide +kernel
theorem dX8_offBits_42 : decode cX8_offBits 42 = .ok (.iload_n 2, 1) := by decide +kernel
theorem dX8_offBits_43 : decode cX8_offBits 43 = .ok (.ireturn, 1) := by decide +kernel
theorem mk_X8_offBits : MVk yX8_offBits "FairBlocks$Standing" cX8_offBits 4 (Option.some FieldType.int) 1 := ⟨w_640, w_638, w_639, w_5, rfl, by decide +kernel, by decide +kernel, by decide +kernel⟩
def BX8_offBits_0 (G : Nat → KT) (Q : Option mV → mM → Prop) : KT := (s_iconst (0) (s_istore 2 (s_iconst (0) (s_istore 3 (s_at G 4 [true, true, true, true])))))
set_option maxRecDepth 4000 in
theorem bsX8_offBits_0 {p : Program} {l : Launch} {e : Env} {s : State} {m : MethodId} {args : Array Value} {below : List Frame} {meth : Method} {c : Code} {D : va_G} {ca : Nat → ClassId} {ad : Nat → Nat} {A : Nat → Prop} {Q : Option mV → mM → Prop} (hX : CX p s m args meth c 4 cX8_offBits "FairBlocks$Standing" D ca ad A) (hr : meth.sig.returnType = (Option.some FieldType.int)) : ∀ lv st M, BX8_offBits_0 (Gd p l e (rmD 0) s m args below meth c 4 D ca ad A 0 0 (MQ below (QC D ca ad A Q) args s 0 0 A)) Q lv st M → Gd p l e (rmD 0) s m args below meth c 4 D ca ad A 0 0 (MQ below (QC D ca ad A Q) args s 0 0 A) 0 lv st M :=
  (sd_iconst hX dX8_offBits_0 rfl (sd_istore_n hX (by decide) dX8_offBits_1 rfl (sd_iconst hX dX8_offBits_2 rfl (sd_istore_n hX (by decide) dX8_offBits_3 rfl sd_at))))
def BX8_offBits_4 (G : Nat → KT) (Q : Option mV → mM → Prop) : KT := (s_iload 3 (s_iload 1 (s_icmp (fun x y => y ≤ x) (s_at G 42 [false, false, true, false]) (s_iload 3 (s_iconst (5) (s_icmp (fun x y => y ≤ x) (s_at G 42 [false, false, true, false]) (s_iload 2 (s_aload 0 (s_getr 8 16 (fun k => k + 1) (s_iload 3 (s_aaldU (s_geti 10 3 (s_if (fun x => x = 0) (s_at G 33 [true, true, false, true]) (s_iconst (1) (s_iload 3 (s_bin (fun x y => x <<< (y &&& 31)) (s_at G 34 [true, true, false, true])))))))))))))))))
set_option maxRecDepth 4000 in
theorem bsX8_offBits_4 {p : Program} {l : Launch} {e : Env} {s : State} {m : MethodId} {args : Array Value} {below : List Frame} {meth : Method} {c : Code} {D : va_G} {ca : Nat → ClassId} {ad : Nat → Nat} {A : Nat → Prop} {Q : Option mV → mM → Prop} (hX : CX p s m args meth c 4 cX8_offBits "FairBlocks$Standing" D ca ad A) (hr : meth.sig.returnType = (Option.some FieldType.int)) : ∀ lv st M, BX8_offBits_4 (Gd p l e (rmD 0) s m args below meth c 4 D ca ad A 0 0 (MQ below (QC D ca ad A Q) args s 0 0 A)) Q lv st M → Gd p l e (rmD 0) s m args below meth c 4 D ca ad A 0 0 (MQ below (QC D ca ad A Q) args s 0 0 A) 4 lv st M :=
  (sd_iload_n hX dX8_offBits_4 rfl (sd_iload_n hX dX8_offBits_5 rfl (sd_icmp_ge hX dX8_offBits_6 (by decide) sd_at (sd_iload_n hX dX8_offBits_9 rfl (sd_iconst hX dX8_offBits_10 rfl (sd_icmp_ge hX dX8_offBits_11 (by decide) sd_at (sd_iload_n hX dX8_offBits_14 rfl (sd_aload_n hX dX8_offBits_15 rfl (sd_getr hX fl_142 (fun _ => rfl) okA dX8_offBits_16 (sd_iload_n hX dX8_offBits_19 rfl (sd_aaldU hX dX8_offBits_20 (sd_geti hX fl_101 (by decide) dX8_offBits_21 (sd_if_eq hX dX8_offBits_24 (by decide) sd_at (sd_iconst hX dX8_offBits_27 rfl (sd_iload_n hX dX8_offBits_28 rfl (sd_ishl hX dX8_offBits_29 (sd_goto hX dX8_offBits_30 (by decide) sd_at)))))))))))))))))
def BX8_offBits_33 (G : Nat → KT) (Q : Option mV → mM → Prop) : KT := (s_iconst (0) (s_at G 34 [true, true, false, true]))
set_option maxRecDepth 4000 in
theorem bsX8_offBits_33 {p : Program} {l : Launch} {e : Env} {s : State} {m : MethodId} {args : Array Value} {below : List Frame} {meth : Method} {c : Code} {D : va_G} {ca : Nat → ClassId} {ad : Nat → Nat} {A : Nat → Prop} {Q : Option mV → mM → Prop} (hX : CX p s m args meth c 4 cX8_offBits "FairBlocks$Standing" D ca ad A) (hr : meth.sig.returnType = (Option.some FieldType.int)) : ∀ lv st M, BX8_offBits_33 (Gd p l e (rmD 0) s m args below meth c 4 D ca ad A 0 0 (MQ below (QC D ca ad A Q) args s 0 0 A)) Q lv st M → Gd p l e (rmD 0) s m args below meth c 4 D ca ad A 0 0 (MQ below (QC D ca ad A Q) args s 0 0 A) 33 lv st M :=
  (sd_iconst hX dX8_offBits_33 rfl sd_at)
def BX8_offBits_34 (G : Nat → KT) (Q : Option mV → mM → Prop) : KT := (s_bin (fun x y => x ||| y) (s_istore 2 (s_iinc 3 (1) (s_at G 4 [true, true, true, true]))))
set_option maxRecDepth 4000 in
theorem bsX8_offBits_34 {p : Program} {l : Launch} {e : Env} {s : State} {m : MethodId} {args : Array Value} {below : List Frame} {meth : Method} {c : Code} {D : va_G} {ca : Nat → ClassId} {ad : Nat → Nat} {A : Nat → Prop} {Q : Option mV → mM → Prop} (hX : CX p s m args meth c 4 cX8_offBits "FairBlocks$Standing" D ca ad A) (hr : meth.sig.returnType = (Option.some FieldType.int)) : ∀ lv st M, BX8_offBits_34 (Gd p l e (rmD 0) s m args below meth c 4 D ca ad A 0 0 (MQ below (QC D ca ad A Q) args s 0 0 A)) Q lv st M → Gd p l e (rmD 0) s m args below meth c 4 D ca ad A 0 0 (MQ below (QC D ca ad A Q) args s 0 0 A) 34 lv st M :=
  (sd_ior hX dX8_offBits_34 (sd_istore_n hX (by decide) dX8_offBits_35 rfl (sd_iinc hX (by decide) dX8_offBits_36 rfl (sd_goto hX dX8_offBits_39 (by decide) sd_at))))
def BX8_offBits_42 (G : Nat → KT) (Q : Option mV → mM → Prop) : KT := (s_iload 2 (s_iret Q))
set_option maxRecDepth 4000 in
theorem bsX8_offBits_42 {p : Program} {l : Launch} {e : Env} {s : State} {m : MethodId} {args : Array Value} {below : List Frame} {meth : Method} {c : Code} {D : va_G} {ca : Nat → ClassId} {ad : Nat → Nat} {A : Nat → Prop} {Q : Option mV → mM → Prop} (hX : CX p s m args meth c 4 cX8_offBits "FairBlocks$Standing" D ca ad A) (hr : meth.sig.returnType = (Option.some FieldType.int)) : ∀ lv st M, BX8_offBits_42 (Gd p l e (rmD 0) s m args below meth c 4 D ca ad A 0 0 (MQ below (QC D ca ad A Q) args s 0 0 A)) Q lv st M → Gd p l e (rmD 0) s m args below meth c 4 D ca ad A 0 0 (MQ below (QC D ca ad A Q) args s 0 0 A) 42 lv st M :=
  (sd_iload_n hX dX8_offBits_42 rfl (sd_iret hX hr dX8_offBits_43))
set_option maxHeartbeats 400000 in
theorem pf_X8_offBits (G : Nat → KT) (Q : Option mV → mM → Prop) (h0 : ∀ lv st M, BX8_offBits_0 G Q lv st M → G 0 lv st M) (h4 : ∀ lv st M, BX8_offBits_4 G Q lv st M → G 4 lv st M) (h33 : ∀ lv st M, BX8_offBits_33 G Q lv st M → G 33 lv st M) (h34 : ∀ lv st M, BX8_offBits_34 G Q lv st M → G 34 lv st M) (h42 : ∀ lv st M, BX8_offBits_42 G Q lv st M → G 42 lv st M) (as : List mV) (M : mM) (ho : ∀ v ∈ as, okV v) (hp : pre_X8_offBits as M) (hQ : Q (fn_X8_offBits as M).1 (fn_X8_offBits as M).2) : G 0 (inL as ++ List.replicate (4 - (inL as).length) none) [] M := by
  obtain ⟨k, x, rfl, N, hN, rfl⟩ := hp
  have hk : kof k = 8 := ho (.inr (.inr (8, k))) (by simp)
  have hl1 := lnU hk
  simp only [fn_X8_offBits, nI_clamp (by omega : N < 2 ^ 31)] at hQ
  have loop : ∀ (n i : Nat) (b : Int32), i + n = N → Q (some (.inl (itr (offS M k) i n b))) M → G 4 [some (.inr (.inr (8, k))), some (.inl (nI N)), some (.inl b), some (.inl (nI i))] [] M := by
    intro n
    induction n with
    | zero =>
      intro i b hi hq
      obtain rfl : i = N := by omega
      (apply h4; simp only [BX8_offBits_4, s_mth, s_mab, s_at, s_iconst, s_lconst, s_iload, s_lload, s_aload, s_istore, s_lstore, s_astore, s_iinc, s_bin, s_binG, s_un, s_lbin, s_lbinG, s_lsh, s_lcmp, s_i2l, s_l2i, s_dup, s_dup2, s_pop, s_if, s_icmp, s_geti, s_getl, s_getr, s_puti, s_putz, s_putl, s_iald, s_zald, s_iast, s_zast, s_aaldS, s_aaldU, s_gets, s_tald, s_tsw, tsw, s_iret, s_zret, s_lret, s_aret, s_vret, s_callV, s_callS, c1, nl1, keepL, csum, pushR, inL, List.getD_cons_zero, List.getD_cons_succ, List.set_cons_zero, List.set_cons_succ, List.cons_append, List.nil_append, List.append_nil, List.replicate, List.length_cons, List.length_nil, List.take_succ_cons, List.take_zero, List.drop_succ_cons, List.drop_zero, List.reverse_cons, List.reverse_nil, true_and, and_true, forall_const, not_true_eq_false, not_false_eq_true, false_implies, true_implies, implies_true, one0, m10, Nat.reduceAdd, Nat.reduceSub, Nat.reduceLeDiff, Nat.zero_add, Nat.add_zero])
      refine ⟨fun _ => ?_, fun h => absurd (nI_le (Nat.le_refl i) (by omega)) h⟩
      (apply h42; simp only [BX8_offBits_42, s_mth, s_mab, s_at, s_iconst, s_lconst, s_iload, s_lload, s_aload, s_istore, s_lstore, s_astore, s_iinc, s_bin, s_binG, s_un, s_lbin, s_lbinG, s_lsh, s_lcmp, s_i2l, s_l2i, s_dup, s_dup2, s_pop, s_if, s_icmp, s_geti, s_getl, s_getr, s_puti, s_putz, s_putl, s_iald, s_zald, s_iast, s_zast, s_aaldS, s_aaldU, s_gets, s_tald, s_tsw, tsw, s_iret, s_zret, s_lret, s_aret, s_vret, s_callV, s_callS, c1, nl1, keepL, csum, pushR, inL, List.getD_cons_zero, List.getD_cons_succ, List.set_cons_zero, List.set_cons_succ, List.cons_append, List.nil_append, List.append_nil, List.replicate, List.length_cons, List.length_nil, List.take_succ_cons, List.take_zero, List.drop_succ_cons, List.drop_zero, List.reverse_cons, List.reverse_nil, true_and, and_true, forall_const, not_true_eq_false, not_false_eq_true, false_implies, true_implies, implies_true, one0, m10, Nat.reduceAdd, Nat.reduceSub, Nat.reduceLeDiff, Nat.zero_add, Nat.add_zero])
      exact hq
    | succ n ih =>
      intro i b hi hq
      (apply h4; simp only [BX8_offBits_4, s_mth, s_mab, s_at, s_iconst, s_lconst, s_iload, s_lload, s_aload, s_istore, s_lstore, s_astore, s_iinc, s_bin, s_binG, s_un, s_lbin, s_lbinG, s_lsh, s_lcmp, s_i2l, s_l2i, s_dup, s_dup2, s_pop, s_if, s_icmp, s_geti, s_getl, s_getr, s_puti, s_putz, s_putl, s_iald, s_zald, s_iast, s_zast, s_aaldS, s_aaldU, s_gets, s_tald, s_tsw, tsw, s_iret, s_zret, s_lret, s_aret, s_vret, s_callV, s_callS, c1, nl1, keepL, csum, pushR, inL, List.getD_cons_zero, List.getD_cons_succ, List.set_cons_zero, List.set_cons_succ, List.cons_append, List.nil_append, List.append_nil, List.replicate, List.length_cons, List.length_nil, List.take_succ_cons, List.take_zero, List.drop_succ_cons, List.drop_zero, List.reverse_cons, List.reverse_nil, true_and, and_true, forall_const, not_true_eq_false, not_false_eq_true, false_implies, true_implies, implies_true, one0, m10, Nat.reduceAdd, Nat.reduceSub, Nat.reduceLeDiff, Nat.zero_add, Nat.add_zero])
      refine ⟨fun h => absurd h (nI_ge (by omega) (by omega)), fun _ => ⟨fun h => absurd h (nI_ge (b := 5) (by omega) (by decide)), fun _ => ?_⟩⟩
      rw [nI_clamp (by omega : i < 2 ^ 31), hl1]
      refine ⟨vp_in_nI (by omega) (by decide), fun h => ?_, fun h => ?_⟩
      · (apply h33; simp only [BX8_offBits_33, s_mth, s_mab, s_at, s_iconst, s_lconst, s_iload, s_lload, s_aload, s_istore, s_lstore, s_astore, s_iinc, s_bin, s_binG, s_un, s_lbin, s_lbinG, s_lsh, s_lcmp, s_i2l, s_l2i, s_dup, s_dup2, s_pop, s_if, s_icmp, s_geti, s_getl, s_getr, s_puti, s_putz, s_putl, s_iald, s_zald, s_iast, s_zast, s_aaldS, s_aaldU, s_gets, s_tald, s_tsw, tsw, s_iret, s_zret, s_lret, s_aret, s_vret, s_callV, s_callS, c1, nl1, keepL, csum, pushR, inL, List.getD_cons_zero, List.getD_cons_succ, List.set_cons_zero, List.set_cons_succ, List.cons_append, List.nil_append, List.append_nil, List.replicate, List.length_cons, List.length_nil, List.take_succ_cons, List.take_zero, List.drop_succ_cons, List.drop_zero, List.reverse_cons, List.reverse_nil, true_and, and_true, forall_const, not_true_eq_false, not_false_eq_true, false_implies, true_implies, implies_true, one0, m10, Nat.reduceAdd, Nat.reduceSub, Nat.reduceLeDiff, Nat.zero_add, Nat.add_zero])
        (apply h34; simp only [BX8_offBits_34, s_mth, s_mab, s_at, s_iconst, s_lconst, s_iload, s_lload, s_aload, s_istore, s_lstore, s_astore, s_iinc, s_bin, s_binG, s_un, s_lbin, s_lbinG, s_lsh, s_lcmp, s_i2l, s_l2i, s_dup, s_dup2, s_pop, s_if, s_icmp, s_geti, s_getl, s_getr, s_puti, s_putz, s_putl, s_iald, s_zald, s_iast, s_zast, s_aaldS, s_aaldU, s_gets, s_tald, s_tsw, tsw, s_iret, s_zret, s_lret, s_aret, s_vret, s_callV, s_callS, c1, nl1, keepL, csum, pushR, inL, List.getD_cons_zero, List.getD_cons_succ, List.set_cons_zero, List.set_cons_succ, List.cons_append, List.nil_append, List.append_nil, List.replicate, List.length_cons, List.length_nil, List.take_succ_cons, List.take_zero, List.drop_succ_cons, List.drop_zero, List.reverse_cons, List.reverse_nil, true_and, and_true, forall_const, not_true_eq_false, not_false_eq_true, false_implies, true_implies, implies_true, one0, m10, Nat.reduceAdd, Nat.reduceSub, Nat.reduceLeDiff, Nat.zero_add, Nat.add_zero])
        rw [nI_1]
        refine ih (i + 1) _ (by omega) ?_
        simpa only [itr, offS, if_pos h] using hq
      · (apply h34; simp only [BX8_offBits_34, s_mth, s_mab, s_at, s_iconst, s_lconst, s_iload, s_lload, s_aload, s_istore, s_lstore, s_astore, s_iinc, s_bin, s_binG, s_un, s_lbin, s_lbinG, s_lsh, s_lcmp, s_i2l, s_l2i, s_dup, s_dup2, s_pop, s_if, s_icmp, s_geti, s_getl, s_getr, s_puti, s_putz, s_putl, s_iald, s_zald, s_iast, s_zast, s_aaldS, s_aaldU, s_gets, s_tald, s_tsw, tsw, s_iret, s_zret, s_lret, s_aret, s_vret, s_callV, s_callS, c1, nl1, keepL, csum, pushR, inL, List.getD_cons_zero, List.getD_cons_succ, List.set_cons_zero, List.set_cons_succ, List.cons_append, List.nil_append, List.append_nil, List.replicate, List.length_cons, List.length_nil, List.take_succ_cons, List.take_zero, List.drop_succ_cons, List.drop_zero, List.reverse_cons, List.reverse_nil, true_and, and_true, forall_const, not_true_eq_false, not_false_eq_true, false_implies, true_implies, implies_true, one0, m10, Nat.reduceAdd, Nat.reduceSub, Nat.reduceLeDiff, Nat.zero_add, Nat.add_zero])
        rw [nI_1]
        refine ih (i + 1) _ (by omega) ?_
        simpa only [itr, offS, if_neg h] using hq
  (apply h0; simp only [BX8_offBits_0, s_mth, s_mab, s_at, s_iconst, s_lconst, s_iload, s_lload, s_aload, s_istore, s_lstore, s_astore, s_iinc, s_bin, s_binG, s_un, s_lbin, s_lbinG, s_lsh, s_lcmp, s_i2l, s_l2i, s_dup, s_dup2, s_pop, s_if, s_icmp, s_geti, s_getl, s_getr, s_puti, s_putz, s_putl, s_iald, s_zald, s_iast, s_zast, s_aaldS, s_aaldU, s_gets, s_tald, s_tsw, tsw, s_iret, s_zret, s_lret, s_aret, s_vret, s_callV, s_callS, c1, nl1, keepL, csum, pushR, inL, List.getD_cons_zero, List.getD_cons_succ, List.set_cons_zero, List.set_cons_succ, List.cons_append, List.nil_append, List.append_nil, List.replicate, List.length_cons, List.length_nil, List.take_succ_cons, List.take_zero, List.drop_succ_cons, List.drop_zero, List.reverse_cons, List.reverse_nil, true_and, and_true, forall_const, not_true_eq_false, not_false_eq_true, false_implies, true_implies, implies_true, one0, m10, Nat.reduceAdd, Nat.reduceSub, Nat.reduceLeDiff, Nat.zero_add, Nat.add_zero])
  exact loop N 0 0 (by omega) hQ
theorem ct_X8_offBits (l : Launch) : Con l yX8_offBits cX8_offBits 4 (Option.some FieldType.int) 0 pre_X8_offBits fn_X8_offBits := con_of (by decide +kernel) ok_X8_offBits len_X8_offBits (fun p e s m args below meth c D ca ad A as M hX hr hp ho => pf_X8_offBits _ _ (bsX8_offBits_0 hX hr) (bsX8_offBits_4 hX hr) (bsX8_offBits_33 hX hr) (bsX8_offBits_34 hX hr) (bsX8_offBits_42 hX hr) as M ho hp ⟨rfl, rfl⟩)
def waiS (M : mM) (k i : Nat) (b : Int32) : Int32 := b ||| (if M.1 (k + 1 + 1 + i) 4 + M.1 (k + 1 + 1 + i) 5 ≤ 0 then (0 : Int32) else (1 : Int32) <<< (nI i &&& 31))
def pre_X8_waitingBits (as : List mV) (M : mM) : Prop := ∃ k x, as = [.inr (.inr (8, k)), .inl x] ∧ ∃ n, n ≤ 5 ∧ x = nI n
def fn_X8_waitingBits : List mV → mM → Option mV × mM
  | [.inr (.inr (_, k)), .inl x], M => (some (.inl (itr (waiS M k) 0 x.toNatClampNeg 0)), M)
  | _, M => (none, M)
theorem ok_X8_waitingBits (as : List mV) (M : mM) (h : pre_X8_waitingBits as M) (_ : ∀ v ∈ as, okV v) : okR (fn_X8_waitingBits as M).1 := by
  obtain ⟨k, x, rfl, -⟩ := h
  first | trivial | exact (by decide +kernel : kof 14 = 8)
theorem len_X8_waitingBits (as : List mV) (M : mM) (h : pre_X8_waitingBits as M) : (inL as).length ≤ 4 := by
  obtain ⟨k, x, rfl, -⟩ := h
  exact Nat.le_of_ble_eq_true rfl


theorem dX8_waitingBits_0 : decode cX8_waitingBits 0 = .ok (.iconst 0, 1) := by decide +kernel
theorem dX8_waitingBits_1 : decode cX8_waitingBits 1 = .ok (.istore_n 2, 1) := by decide +kernel
theorem dX8_waitingBits_2 : decode cX8_waitingBits 2 = .ok (.iconst 0, 1) := by decide +kernel
theorem dX8_waitingBits_3 : decode cX8_waitingBits 3 = .ok (.istore_n 3, 1) := by decide +kernel
theorem dX8_waitingBits_4 : decode cX8_waitingBits 4 = .ok (.iload_n 3, 1) := by decide +kernel
theorem dX8_waitingBits_5 : decode cX8_waitingBits 5 = .ok (.iload_n 1, 1) := by decide +kernel
theorem dX8_waitingBits_6 : decode cX8_waitingBits 6 = .ok (.if_icmp .ge 36, 3) := by decide +kernel
theorem dX8_waitingBits_9 : decode cX8_waitingBits 9 = .ok (.iload_n 3, 1) := by decide +kernel
theorem dX8_waitingBits_10 : decode cX8_waitingBits 10 = .ok (.iconst 5, 1) := by decide +kernel
theorem dX8_waitingBits_11 : decode cX8_waitingBits 11 = .ok (.if_icmp .ge 31, 3) := by decide +kernel
theorem dX8_waitingBits_14 : decode cX8_waitingBits 14 = .ok (.iload_n 2, 1) := by decide +kernel
theorem dX8_waitingBits_15 : decode cX8_waitingBits 15 = .ok (.aload_n 0, 1) := by decide +kernel
theorem dX8_waitingBits_16 : decode cX8_waitingBits 16 = .ok (.getfield 11, 3) := by decide +kernel
theorem dX8_waitingBits_19 : decode cX8_waitingBits 19 = .ok (.iload_n 3, 1) := by decide +kernel
theorem dX8_waitingBits_20 : decode cX8_waitingBits 20 = .ok (.aaload, 1) := by decide +kernel
theorem dX8_waitingBits_21 : decode cX8_waitingBits 21 = .ok (.invokevirtual 33, 3) := by decide +kernel
theorem dX8_waitingBits_24 : decode cX8_waitingBits 24 = .ok (.ifCond .le 9, 3) := by decide +kernel
theorem dX8_waitingBits_27 : decode cX8_waitingBits 27 = .ok (.iconst 1, 1) := by decide +kernel
theorem dX8_waitingBits_28 : decode cX8_waitingBits 28 = .ok (.iload_n 3, 1) := by decide +kernel
theorem dX8_waitingBits_29 : decode cX8_waitingBits 29 = .ok (.ishl, 1) := by decide +kernel
theorem dX8_waitingBits_30 : decode cX8_waitingBits 30 = .ok (.goto 4, 3) := by decide +kernel
theorem dX8_waitingBits_33 : decode cX8_waitingBits 33 = .ok (.iconst 0, 1) := by decide +kernel
theorem dX8_waitingBits_34 : decode cX8_waitingBits 34 = .ok (.ior, 1) := by decide +kernel
theorem dX8_waitingBits_35 : decode cX8_waitingBits 35 = .ok (.istore_n 2, 1) := by decide +kernel
theorem dX8_waitingBits_36 : decode cX8_waitingBits 36 = .ok (.iinc 3 1, 3) := by decide +kernel
theorem dX8_waitingBits_39 : decode cX8_waitingBits 39 = .ok (.goto (-35), 3) := by decide +kernel
theorem dX8_waitingBits_42 : decode cX8_waitingBits 42 = .ok (.iload_n 2, 1) := by decide +kernel
theorem dX8_waitingBits_43 : decode cX8_waitingBits 43 = .ok (.ireturn, 1) := by decide +kernel
theorem mk_X8_waitingBits : MVk yX8_waitingBits "FairBlocks$Standing" cX8_waitingBits 4 (Option.some FieldType.int) 1 := ⟨w_713, w_711, w_712, w_5, rfl, by decide +kernel, by decide +kernel, by decide +kernel⟩
def BX8_waitingBits_0 (G : Nat → KT) (Q : Option mV → mM → Prop) : KT := (s_iconst (0) (s_istore 2 (s_iconst (0) (s_istore 3 (s_at G 4 [true, true, true, true])))))
set_option maxRecDepth 4000 in
theorem bsX8_waitingBits_0 {p : Program} {l : Launch} {e : Env} {s : State} {m : MethodId} {args : Array Value} {below : List Frame} {meth : Method} {c : Code} {D : va_G} {ca : Nat → ClassId} {ad : Nat → Nat} {A : Nat → Prop} {Q : Option mV → mM → Prop} (hX : CX p s m args meth c 4 cX8_waitingBits "FairBlocks$Standing" D ca ad A) (hr : meth.sig.returnType = (Option.some FieldType.int)) : ∀ lv st M, BX8_waitingBits_0 (Gd p l e (rmD 1) s m args below meth c 4 D ca ad A 0 0 (MQ below (QC D ca ad A Q) args s 0 0 A)) Q lv st M → Gd p l e (rmD 1) s m args below meth c 4 D ca ad A 0 0 (MQ below (QC D ca ad A Q) args s 0 0 A) 0 lv st M :=
  (sd_iconst hX dX8_waitingBits_0 rfl (sd_istore_n hX (by decide) dX8_waitingBits_1 rfl (sd_iconst hX dX8_waitingBits_2 rfl (sd_istore_n hX (by decide) dX8_waitingBits_3 rfl sd_at))))
def BX8_waitingBits_4 (G : Nat → KT) (Q : Option mV → mM → Prop) : KT := (s_iload 3 (s_iload 1 (s_icmp (fun x y => y ≤ x) (s_at G 42 [false, false, true, false]) (s_iload 3 (s_iconst (5) (s_icmp (fun x y => y ≤ x) (s_at G 42 [false, false, true, false]) (s_iload 2 (s_aload 0 (s_getr 8 16 (fun k => k + 1) (s_iload 3 (s_aaldU (s_callV 10 0 pre_X10_waiting fn_X10_waiting (s_if (fun x => x ≤ 0) (s_at G 33 [true, true, false, true]) (s_iconst (1) (s_iload 3 (s_bin (fun x y => x <<< (y &&& 31)) (s_at G 34 [true, true, false, true])))))))))))))))))
set_option maxRecDepth 4000 in
theorem bsX8_waitingBits_4 {p : Program} {l : Launch} {e : Env} {s : State} {m : MethodId} {args : Array Value} {below : List Frame} {meth : Method} {c : Code} {D : va_G} {ca : Nat → ClassId} {ad : Nat → Nat} {A : Nat → Prop} {Q : Option mV → mM → Prop} (hX : CX p s m args meth c 4 cX8_waitingBits "FairBlocks$Standing" D ca ad A) (hr : meth.sig.returnType = (Option.some FieldType.int)) : ∀ lv st M, BX8_waitingBits_4 (Gd p l e (rmD 1) s m args below meth c 4 D ca ad A 0 0 (MQ below (QC D ca ad A Q) args s 0 0 A)) Q lv st M → Gd p l e (rmD 1) s m args below meth c 4 D ca ad A 0 0 (MQ below (QC D ca ad A Q) args s 0 0 A) 4 lv st M :=
  (sd_iload_n hX dX8_waitingBits_4 rfl (sd_iload_n hX dX8_waitingBits_5 rfl (sd_icmp_ge hX dX8_waitingBits_6 (by decide) sd_at (sd_iload_n hX dX8_waitingBits_9 rfl (sd_iconst hX dX8_waitingBits_10 rfl (sd_icmp_ge hX dX8_waitingBits_11 (by decide) sd_at (sd_iload_n hX dX8_waitingBits_14 rfl (sd_aload_n hX dX8_waitingBits_15 rfl (sd_getr hX fl_142 (fun _ => rfl) okA dX8_waitingBits_16 (sd_iload_n hX dX8_waitingBits_19 rfl (sd_aaldU hX dX8_waitingBits_20 (sd_callV hX (kd := 10) rfl (by decide) (ct_X10_waiting l) mk_X10_waiting w_714 ⟨⟨by decide, by decide⟩, by decide, by decide⟩ dX8_waitingBits_21 (sd_if_le hX dX8_waitingBits_24 (by decide) sd_at (sd_iconst hX dX8_waitingBits_27 rfl (sd_iload_n hX dX8_waitingBits_28 rfl (sd_ishl hX dX8_waitingBits_29 (sd_goto hX dX8_waitingBits_30 (by decide) sd_at)))))))))))))))))
def BX8_waitingBits_33 (G : Nat → KT) (Q : Option mV → mM → Prop) : KT := (s_iconst (0) (s_at G 34 [true, true, false, true]))
set_option maxRecDepth 4000 in
theorem bsX8_waitingBits_33 {p : Program} {l : Launch} {e : Env} {s : State} {m : MethodId} {args : Array Value} {below : List Frame} {meth : Method} {c : Code} {D : va_G} {ca : Nat → ClassId} {ad : Nat → Nat} {A : Nat → Prop} {Q : Option mV → mM → Prop} (hX : CX p s m args meth c 4 cX8_waitingBits "FairBlocks$Standing" D ca ad A) (hr : meth.sig.returnType = (Option.some FieldType.int)) : ∀ lv st M, BX8_waitingBits_33 (Gd p l e (rmD 1) s m args below meth c 4 D ca ad A 0 0 (MQ below (QC D ca ad A Q) args s 0 0 A)) Q lv st M → Gd p l e (rmD 1) s m args below meth c 4 D ca ad A 0 0 (MQ below (QC D ca ad A Q) args s 0 0 A) 33 lv st M :=
  (sd_iconst hX dX8_waitingBits_33 rfl sd_at)
def BX8_waitingBits_34 (G : Nat → KT) (Q : Option mV → mM → Prop) : KT := (s_bin (fun x y => x ||| y) (s_istore 2 (s_iinc 3 (1) (s_at G 4 [true, true, true, true]))))
set_option maxRecDepth 4000 in
theorem bsX8_waitingBits_34 {p : Program} {l : Launch} {e : Env} {s : State} {m : MethodId} {args : Array Value} {below : List Frame} {meth : Method} {c : Code} {D : va_G} {ca : Nat → ClassId} {ad : Nat → Nat} {A : Nat → Prop} {Q : Option mV → mM → Prop} (hX : CX p s m args meth c 4 cX8_waitingBits "FairBlocks$Standing" D ca ad A) (hr : meth.sig.returnType = (Option.some FieldType.int)) : ∀ lv st M, BX8_waitingBits_34 (Gd p l e (rmD 1) s m args below meth c 4 D ca ad A 0 0 (MQ below (QC D ca ad A Q) args s 0 0 A)) Q lv st M → Gd p l e (rmD 1) s m args below meth c 4 D ca ad A 0 0 (MQ below (QC D ca ad A Q) args s 0 0 A) 34 lv st M :=
  (sd_ior hX dX8_waitingBits_34 (sd_istore_n hX (by decide) dX8_waitingBits_35 rfl (sd_iinc hX (by decide) dX8_waitingBits_36 rfl (sd_goto hX dX8_waitingBits_39 (by decide) sd_at))))
def BX8_waitingBits_42 (G : Nat → KT) (Q : Option mV → mM → Prop) : KT := (s_iload 2 (s_iret Q))
set_option maxRecDepth 4000 in
theorem bsX8_waitingBits_42 {p : Program} {l : Launch} {e : Env} {s : State} {m : MethodId} {args : Array Value} {below : List Frame} {meth : Method} {c : Code} {D : va_G} {ca : Nat → ClassId} {ad : Nat → Nat} {A : Nat → Prop} {Q : Option mV → mM → Prop} (hX : CX p s m args meth c 4 cX8_waitingBits "FairBlocks$Standing" D ca ad A) (hr : meth.sig.returnType = (Option.some FieldType.int)) : ∀ lv st M, BX8_waitingBits_42 (Gd p l e (rmD 1) s m args below meth c 4 D ca ad A 0 0 (MQ below (QC D ca ad A Q) args s 0 0 A)) Q lv st M → Gd p l e (rmD 1) s m args below meth c 4 D ca ad A 0 0 (MQ below (QC D ca ad A Q) args s 0 0 A) 42 lv st M :=
  (sd_iload_n hX dX8_waitingBits_42 rfl (sd_iret hX hr dX8_waitingBits_43))
set_option maxHeartbeats 400000 in
theorem pf_X8_waitingBits (G : Nat → KT) (Q : Option mV → mM → Prop) (h0 : ∀ lv st M, BX8_waitingBits_0 G Q lv st M → G 0 lv st M) (h4 : ∀ lv st M, BX8_waitingBits_4 G Q lv st M → G 4 lv st M) (h33 : ∀ lv st M, BX8_waitingBits_33 G Q lv st M → G 33 lv st M) (h34 : ∀ lv st M, BX8_waitingBits_34 G Q lv st M → G 34 lv st M) (h42 : ∀ lv st M, BX8_waitingBits_42 G Q lv st M → G 42 lv st M) (as : List mV) (M : mM) (ho : ∀ v ∈ as, okV v) (hp : pre_X8_waitingBits as M) (hQ : Q (fn_X8_waitingBits as M).1 (fn_X8_waitingBits as M).2) : G 0 (inL as ++ List.replicate (4 - (inL as).length) none) [] M := by
  obtain ⟨k, x, rfl, N, hN, rfl⟩ := hp
  have hk : kof k = 8 := ho (.inr (.inr (8, k))) (by simp)
  have hl1 := lnU hk
  simp only [fn_X8_waitingBits, nI_clamp (by omega : N < 2 ^ 31)] at hQ
  have loop : ∀ (n i : Nat) (b : Int32), i + n = N → Q (some (.inl (itr (waiS M k) i n b))) M → G 4 [some (.inr (.inr (8, k))), some (.inl (nI N)), some (.inl b), some (.inl (nI i))] [] M := by
    intro n
    induction n with
    | zero =>
      intro i b hi hq
      obtain rfl : i = N := by omega
      (apply h4; simp only [BX8_waitingBits_4, s_mth, s_mab, s_at, s_iconst, s_lconst, s_iload, s_lload, s_aload, s_istore, s_lstore, s_astore, s_iinc, s_bin, s_binG, s_un, s_lbin, s_lbinG, s_lsh, s_lcmp, s_i2l, s_l2i, s_dup, s_dup2, s_pop, s_if, s_icmp, s_geti, s_getl, s_getr, s_puti, s_putz, s_putl, s_iald, s_zald, s_iast, s_zast, s_aaldS, s_aaldU, s_gets, s_tald, s_tsw, tsw, s_iret, s_zret, s_lret, s_aret, s_vret, s_callV, s_callS, c1, nl1, keepL, csum, pushR, inL, List.getD_cons_zero, List.getD_cons_succ, List.set_cons_zero, List.set_cons_succ, List.cons_append, List.nil_append, List.append_nil, List.replicate, List.length_cons, List.length_nil, List.take_succ_cons, List.take_zero, List.drop_succ_cons, List.drop_zero, List.reverse_cons, List.reverse_nil, true_and, and_true, forall_const, not_true_eq_false, not_false_eq_true, false_implies, true_implies, implies_true, one0, m10, Nat.reduceAdd, Nat.reduceSub, Nat.reduceLeDiff, Nat.zero_add, Nat.add_zero, fn_X10_waiting])
      refine ⟨fun _ => ?_, fun h => absurd (nI_le (Nat.le_refl i) (by omega)) h⟩
      (apply h42; simp only [BX8_waitingBits_42, s_mth, s_mab, s_at, s_iconst, s_lconst, s_iload, s_lload, s_aload, s_istore, s_lstore, s_astore, s_iinc, s_bin, s_binG, s_un, s_lbin, s_lbinG, s_lsh, s_lcmp, s_i2l, s_l2i, s_dup, s_dup2, s_pop, s_if, s_icmp, s_geti, s_getl, s_getr, s_puti, s_putz, s_putl, s_iald, s_zald, s_iast, s_zast, s_aaldS, s_aaldU, s_gets, s_tald, s_tsw, tsw, s_iret, s_zret, s_lret, s_aret, s_vret, s_callV, s_callS, c1, nl1, keepL, csum, pushR, inL, List.getD_cons_zero, List.getD_cons_succ, List.set_cons_zero, List.set_cons_succ, List.cons_append, List.nil_append, List.append_nil, List.replicate, List.length_cons, List.length_nil, List.take_succ_cons, List.take_zero, List.drop_succ_cons, List.drop_zero, List.reverse_cons, List.reverse_nil, true_and, and_true, forall_const, not_true_eq_false, not_false_eq_true, false_implies, true_implies, implies_true, one0, m10, Nat.reduceAdd, Nat.reduceSub, Nat.reduceLeDiff, Nat.zero_add, Nat.add_zero, fn_X10_waiting])
      exact hq
    | succ n ih =>
      intro i b hi hq
      (apply h4; simp only [BX8_waitingBits_4, s_mth, s_mab, s_at, s_iconst, s_lconst, s_iload, s_lload, s_aload, s_istore, s_lstore, s_astore, s_iinc, s_bin, s_binG, s_un, s_lbin, s_lbinG, s_lsh, s_lcmp, s_i2l, s_l2i, s_dup, s_dup2, s_pop, s_if, s_icmp, s_geti, s_getl, s_getr, s_puti, s_putz, s_putl, s_iald, s_zald, s_iast, s_zast, s_aaldS, s_aaldU, s_gets, s_tald, s_tsw, tsw, s_iret, s_zret, s_lret, s_aret, s_vret, s_callV, s_callS, c1, nl1, keepL, csum, pushR, inL, List.getD_cons_zero, List.getD_cons_succ, List.set_cons_zero, List.set_cons_succ, List.cons_append, List.nil_append, List.append_nil, List.replicate, List.length_cons, List.length_nil, List.take_succ_cons, List.take_zero, List.drop_succ_cons, List.drop_zero, List.reverse_cons, List.reverse_nil, true_and, and_true, forall_const, not_true_eq_false, not_false_eq_true, false_implies, true_implies, implies_true, one0, m10, Nat.reduceAdd, Nat.reduceSub, Nat.reduceLeDiff, Nat.zero_add, Nat.add_zero, fn_X10_waiting])
      refine ⟨fun h => absurd h (nI_ge (by omega) (by omega)), fun _ => ⟨fun h => absurd h (nI_ge (b := 5) (by omega) (by decide)), fun _ => ?_⟩⟩
      rw [nI_clamp (by omega : i < 2 ^ 31), hl1]
      refine ⟨vp_in_nI (by omega) (by decide), ⟨_, rfl⟩, ?_⟩
      refine ⟨fun h => ?_, fun h => ?_⟩
      · (apply h33; simp only [BX8_waitingBits_33, s_mth, s_mab, s_at, s_iconst, s_lconst, s_iload, s_lload, s_aload, s_istore, s_lstore, s_astore, s_iinc, s_bin, s_binG, s_un, s_lbin, s_lbinG, s_lsh, s_lcmp, s_i2l, s_l2i, s_dup, s_dup2, s_pop, s_if, s_icmp, s_geti, s_getl, s_getr, s_puti, s_putz, s_putl, s_iald, s_zald, s_iast, s_zast, s_aaldS, s_aaldU, s_gets, s_tald, s_tsw, tsw, s_iret, s_zret, s_lret, s_aret, s_vret, s_callV, s_callS, c1, nl1, keepL, csum, pushR, inL, List.getD_cons_zero, List.getD_cons_succ, List.set_cons_zero, List.set_cons_succ, List.cons_append, List.nil_append, List.append_nil, List.replicate, List.length_cons, List.length_nil, List.take_succ_cons, List.take_zero, List.drop_succ_cons, List.drop_zero, List.reverse_cons, List.reverse_nil, true_and, and_true, forall_const, not_true_eq_false, not_false_eq_true, false_implies, true_implies, implies_true, one0, m10, Nat.reduceAdd, Nat.reduceSub, Nat.reduceLeDiff, Nat.zero_add, Nat.add_zero, fn_X10_waiting])
        (apply h34; simp only [BX8_waitingBits_34, s_mth, s_mab, s_at, s_iconst, s_lconst, s_iload, s_lload, s_aload, s_istore, s_lstore, s_astore, s_iinc, s_bin, s_binG, s_un, s_lbin, s_lbinG, s_lsh, s_lcmp, s_i2l, s_l2i, s_dup, s_dup2, s_pop, s_if, s_icmp, s_geti, s_getl, s_getr, s_puti, s_putz, s_putl, s_iald, s_zald, s_iast, s_zast, s_aaldS, s_aaldU, s_gets, s_tald, s_tsw, tsw, s_iret, s_zret, s_lret, s_aret, s_vret, s_callV, s_callS, c1, nl1, keepL, csum, pushR, inL, List.getD_cons_zero, List.getD_cons_succ, List.set_cons_zero, List.set_cons_succ, List.cons_append, List.nil_append, List.append_nil, List.replicate, List.length_cons, List.length_nil, List.take_succ_cons, List.take_zero, List.drop_succ_cons, List.drop_zero, List.reverse_cons, List.reverse_nil, true_and, and_true, forall_const, not_true_eq_false, not_false_eq_true, false_implies, true_implies, implies_true, one0, m10, Nat.reduceAdd, Nat.reduceSub, Nat.reduceLeDiff, Nat.zero_add, Nat.add_zero, fn_X10_waiting])
        rw [nI_1]
        refine ih (i + 1) _ (by omega) ?_
        simpa only [itr, waiS, if_pos h] using hq
      · (apply h34; simp only [BX8_waitingBits_34, s_mth, s_mab, s_at, s_iconst, s_lconst, s_iload, s_lload, s_aload, s_istore, s_lstore, s_astore, s_iinc, s_bin, s_binG, s_un, s_lbin, s_lbinG, s_lsh, s_lcmp, s_i2l, s_l2i, s_dup, s_dup2, s_pop, s_if, s_icmp, s_geti, s_getl, s_getr, s_puti, s_putz, s_putl, s_iald, s_zald, s_iast, s_zast, s_aaldS, s_aaldU, s_gets, s_tald, s_tsw, tsw, s_iret, s_zret, s_lret, s_aret, s_vret, s_callV, s_callS, c1, nl1, keepL, csum, pushR, inL, List.getD_cons_zero, List.getD_cons_succ, List.set_cons_zero, List.set_cons_succ, List.cons_append, List.nil_append, List.append_nil, List.replicate, List.length_cons, List.length_nil, List.take_succ_cons, List.take_zero, List.drop_succ_cons, List.drop_zero, List.reverse_cons, List.reverse_nil, true_and, and_true, forall_const, not_true_eq_false, not_false_eq_true, false_implies, true_implies, implies_true, one0, m10, Nat.reduceAdd, Nat.reduceSub, Nat.reduceLeDiff, Nat.zero_add, Nat.add_zero, fn_X10_waiting])
        rw [nI_1]
        refine ih (i + 1) _ (by omega) ?_
        simpa only [itr, waiS, if_neg h] using hq
  (apply h0; simp only [BX8_waitingBits_0, s_mth, s_mab, s_at, s_iconst, s_lconst, s_iload, s_lload, s_aload, s_istore, s_lstore, s_astore, s_iinc, s_bin, s_binG, s_un, s_lbin, s_lbinG, s_lsh, s_lcmp, s_i2l, s_l2i, s_dup, s_dup2, s_pop, s_if, s_icmp, s_geti, s_getl, s_getr, s_puti, s_putz, s_putl, s_iald, s_zald, s_iast, s_zast, s_aaldS, s_aaldU, s_gets, s_tald, s_tsw, tsw, s_iret, s_zret, s_lret, s_aret, s_vret, s_callV, s_callS, c1, nl1, keepL, csum, pushR, inL, List.getD_cons_zero, List.getD_cons_succ, List.set_cons_zero, List.set_cons_succ, List.cons_append, List.nil_append, List.append_nil, List.replicate, List.length_cons, List.length_nil, List.take_succ_cons, List.take_zero, List.drop_succ_cons, List.drop_zero, List.reverse_cons, List.reverse_nil, true_and, and_true, forall_const, not_true_eq_false, not_false_eq_true, false_implies, true_implies, implies_true, one0, m10, Nat.reduceAdd, Nat.reduceSub, Nat.reduceLeDiff, Nat.zero_add, Nat.add_zero, fn_X10_waiting])
  exact loop N 0 0 (by omega) hQ
theorem ct_X8_waitingBits (l : Launch) : Con l yX8_waitingBits cX8_waitingBits 4 (Option.some FieldType.int) 1 pre_X8_waitingBits fn_X8_waitingBits := con_of (by decide +kernel) ok_X8_waitingBits len_X8_waitingBits (fun p e s m args below meth c D ca ad A as M hX hr hp ho => pf_X8_waitingBits _ _ (bsX8_waitingBits_0 hX hr) (bsX8_waitingBits_4 hX hr) (bsX8_waitingBits_33 hX hr) (bsX8_waitingBits_34 hX hr) (bsX8_waitingBits_42 hX hr) as M ho hp ⟨rfl, rfl⟩)
/-! Plan -/
def hasI (M : mM) (x : Int32) : Int32 := if x < 0 then 0 else if M.1 4 2 ≤ x then 0 else 1
def pre_X5_has (as : List mV) (M : mM) : Prop := ∃ k x, as = [.inr (.inr (5, k)), .inl x]
def fn_X5_has : List mV → mM → Option mV × mM
  | [.inr (.inr (_, k)), .inl x], M => (some (.inl (hasI M x)), M)
  | _, M => (none, M)
theorem ok_X5_has (as : List mV) (M : mM) (h : pre_X5_has as M) (_ : ∀ v ∈ as, okV v) : okR (fn_X5_has as M).1 := by
  obtain ⟨k, x, rfl⟩ := h
  first | trivial | exact (by decide +kernel : kof 14 = 8)
theorem len_X5_has (as : List mV) (M : mM) (h : pre_X5_has as M) : (inL as).length ≤ 2 := by
  obtain ⟨k, x, rfl⟩ := h
  exact Nat.le_of_ble_eq_true rfl

theorem fl_60 : FLk "FairBlocks$Plan" 18 5 2 0 := ⟨RX5, TX5, 5, rfl, inX5, by decide, w_60, by decide, rfl⟩
theorem dX5_has_0 : decode cX5_has 0 = .ok (.iload_n 1, 1) := by decide +kernel
theorem dX5_has_1 : decode cX5_has 1 = .ok (.ifCond .lt 15, 3) := by decide +kernel
theorem dX5_has_4 : decode cX5_has 4 = .ok (.iload_n 1, 1) := by decide +kernel
theorem dX5_has_5 : decode cX5_has 5 = .ok (.aload_n 0, 1) := by decide +kernel
theorem dX5_has_6 : decode cX5_has 6 = .ok (.getfield 18, 3) := by decide +kernel
theorem dX5_has_9 : decode cX5_has 9 = .ok (.if_icmp .ge 7, 3) := by decide +kernel
theorem dX5_has_12 : decode cX5_has 12 = .ok (.iconst 1, 1) := by decide +kernel
theorem dX5_has_13 : decode cX5_has 13 = .ok (.goto 4, 3) := by decide +kernel
theorem dX5_has_16 : decode cX5_has 16 = .ok (.iconst 0, 1) := by decide +kernel
theorem dX5_has_17 : decode cX5_has 17 = .ok (.ireturn, 1) := by decide +kernel
theorem mk_X5_has : MVk yX5_has "FairBlocks$Plan" cX5_has 2 (Option.some FieldType.boolean) 1 := ⟨w_400, w_398, w_399, w_4, rfl, by decide +kernel, by decide +kernel, by decide +kernel⟩
def BX5_has_0 (G : Nat → KT) (Q : Option mV → mM → Prop) : KT := (s_iload 1 (s_if (fun x => x < 0) (s_at G 16 [false, false]) (s_iload 1 (s_aload 0 (s_geti 5 2 (s_icmp (fun x y => y ≤ x) (s_at G 16 [false, false]) (s_iconst (1) (s_at G 17 [false, false]))))))))
set_option maxRecDepth 4000 in
theorem bsX5_has_0 {p : Program} {l : Launch} {e : Env} {s : State} {m : MethodId} {args : Array Value} {below : List Frame} {meth : Method} {c : Code} {D : va_G} {ca : Nat → ClassId} {ad : Nat → Nat} {A : Nat → Prop} {Q : Option mV → mM → Prop} (hX : CX p s m args meth c 2 cX5_has "FairBlocks$Plan" D ca ad A) (hr : meth.sig.returnType = (Option.some FieldType.boolean)) : ∀ lv st M, BX5_has_0 (Gd p l e (rmD 0) s m args below meth c 2 D ca ad A 0 0 (MQ below (QC D ca ad A Q) args s 0 0 A)) Q lv st M → Gd p l e (rmD 0) s m args below meth c 2 D ca ad A 0 0 (MQ below (QC D ca ad A Q) args s 0 0 A) 0 lv st M :=
  (sd_iload_n hX dX5_has_0 rfl (sd_if_lt hX dX5_has_1 (by decide) sd_at (sd_iload_n hX dX5_has_4 rfl (sd_aload_n hX dX5_has_5 rfl (sd_geti hX fl_60 (by decide) dX5_has_6 (sd_icmp_ge hX dX5_has_9 (by decide) sd_at (sd_iconst hX dX5_has_12 rfl (sd_goto hX dX5_has_13 (by decide) sd_at))))))))
def BX5_has_16 (G : Nat → KT) (Q : Option mV → mM → Prop) : KT := (s_iconst (0) (s_at G 17 [false, false]))
set_option maxRecDepth 4000 in
theorem bsX5_has_16 {p : Program} {l : Launch} {e : Env} {s : State} {m : MethodId} {args : Array Value} {below : List Frame} {meth : Method} {c : Code} {D : va_G} {ca : Nat → ClassId} {ad : Nat → Nat} {A : Nat → Prop} {Q : Option mV → mM → Prop} (hX : CX p s m args meth c 2 cX5_has "FairBlocks$Plan" D ca ad A) (hr : meth.sig.returnType = (Option.some FieldType.boolean)) : ∀ lv st M, BX5_has_16 (Gd p l e (rmD 0) s m args below meth c 2 D ca ad A 0 0 (MQ below (QC D ca ad A Q) args s 0 0 A)) Q lv st M → Gd p l e (rmD 0) s m args below meth c 2 D ca ad A 0 0 (MQ below (QC D ca ad A Q) args s 0 0 A) 16 lv st M :=
  (sd_iconst hX dX5_has_16 rfl sd_at)
def BX5_has_17 (G : Nat → KT) (Q : Option mV → mM → Prop) : KT := (s_zret Q)
set_option maxRecDepth 4000 in
theorem bsX5_has_17 {p : Program} {l : Launch} {e : Env} {s : State} {m : MethodId} {args : Array Value} {below : List Frame} {meth : Method} {c : Code} {D : va_G} {ca : Nat → ClassId} {ad : Nat → Nat} {A : Nat → Prop} {Q : Option mV → mM → Prop} (hX : CX p s m args meth c 2 cX5_has "FairBlocks$Plan" D ca ad A) (hr : meth.sig.returnType = (Option.some FieldType.boolean)) : ∀ lv st M, BX5_has_17 (Gd p l e (rmD 0) s m args below meth c 2 D ca ad A 0 0 (MQ below (QC D ca ad A Q) args s 0 0 A)) Q lv st M → Gd p l e (rmD 0) s m args below meth c 2 D ca ad A 0 0 (MQ below (QC D ca ad A Q) args s 0 0 A) 17 lv st M :=
  sd_zret hX hr dX5_has_17
set_option maxHeartbeats 400000 in
theorem pf_X5_has (G : Nat → KT) (Q : Option mV → mM → Prop) (h0 : ∀ lv st M, BX5_has_0 G Q lv st M → G 0 lv st M) (h16 : ∀ lv st M, BX5_has_16 G Q lv st M → G 16 lv st M) (h17 : ∀ lv st M, BX5_has_17 G Q lv st M → G 17 lv st M) (as : List mV) (M : mM) (ho : ∀ v ∈ as, okV v) (hp : pre_X5_has as M) (hQ : Q (fn_X5_has as M).1 (fn_X5_has as M).2) : G 0 (inL as ++ List.replicate (2 - (inL as).length) none) [] M := by
  obtain ⟨k, x, rfl⟩ := hp
  obtain rfl : k = 4 := k5 (ho (.inr (.inr (5, k))) (by simp))
  simp only [fn_X5_has, hasI] at hQ
  repeat' (first | (first | (apply h0; simp only [BX5_has_0, s_mth, s_mab, s_at, s_iconst, s_lconst, s_iload, s_lload, s_aload, s_istore, s_lstore, s_astore, s_iinc, s_bin, s_binG, s_un, s_lbin, s_lbinG, s_lsh, s_lcmp, s_i2l, s_l2i, s_dup, s_dup2, s_pop, s_if, s_icmp, s_geti, s_getl, s_getr, s_puti, s_putz, s_putl, s_iald, s_zald, s_iast, s_zast, s_aaldS, s_aaldU, s_gets, s_tald, s_tsw, tsw, s_iret, s_zret, s_lret, s_aret, s_vret, s_callV, s_callS, c1, nl1, keepL, csum, pushR, inL, List.getD_cons_zero, List.getD_cons_succ, List.set_cons_zero, List.set_cons_succ, List.cons_append, List.nil_append, List.append_nil, List.replicate, List.length_cons, List.length_nil, List.take_succ_cons, List.take_zero, List.drop_succ_cons, List.drop_zero, List.reverse_cons, List.reverse_nil, true_and, and_true, forall_const, not_true_eq_false, not_false_eq_true, false_implies, true_implies, implies_true, one0, m10, Nat.reduceAdd, Nat.reduceSub, Nat.reduceLeDiff, Nat.zero_add, Nat.add_zero]) | (apply h16; simp only [BX5_has_16, s_mth, s_mab, s_at, s_iconst, s_lconst, s_iload, s_lload, s_aload, s_istore, s_lstore, s_astore, s_iinc, s_bin, s_binG, s_un, s_lbin, s_lbinG, s_lsh, s_lcmp, s_i2l, s_l2i, s_dup, s_dup2, s_pop, s_if, s_icmp, s_geti, s_getl, s_getr, s_puti, s_putz, s_putl, s_iald, s_zald, s_iast, s_zast, s_aaldS, s_aaldU, s_gets, s_tald, s_tsw, tsw, s_iret, s_zret, s_lret, s_aret, s_vret, s_callV, s_callS, c1, nl1, keepL, csum, pushR, inL, List.getD_cons_zero, List.getD_cons_succ, List.set_cons_zero, List.set_cons_succ, List.cons_append, List.nil_append, List.append_nil, List.replicate, List.length_cons, List.length_nil, List.take_succ_cons, List.take_zero, List.drop_succ_cons, List.drop_zero, List.reverse_cons, List.reverse_nil, true_and, and_true, forall_const, not_true_eq_false, not_false_eq_true, false_implies, true_implies, implies_true, one0, m10, Nat.reduceAdd, Nat.reduceSub, Nat.reduceLeDiff, Nat.zero_add, Nat.add_zero]) | (apply h17; simp only [BX5_has_17, s_mth, s_mab, s_at, s_iconst, s_lconst, s_iload, s_lload, s_aload, s_istore, s_lstore, s_astore, s_iinc, s_bin, s_binG, s_un, s_lbin, s_lbinG, s_lsh, s_lcmp, s_i2l, s_l2i, s_dup, s_dup2, s_pop, s_if, s_icmp, s_geti, s_getl, s_getr, s_puti, s_putz, s_putl, s_iald, s_zald, s_iast, s_zast, s_aaldS, s_aaldU, s_gets, s_tald, s_tsw, tsw, s_iret, s_zret, s_lret, s_aret, s_vret, s_callV, s_callS, c1, nl1, keepL, csum, pushR, inL, List.getD_cons_zero, List.getD_cons_succ, List.set_cons_zero, List.set_cons_succ, List.cons_append, List.nil_append, List.append_nil, List.replicate, List.length_cons, List.length_nil, List.take_succ_cons, List.take_zero, List.drop_succ_cons, List.drop_zero, List.reverse_cons, List.reverse_nil, true_and, and_true, forall_const, not_true_eq_false, not_false_eq_true, false_implies, true_implies, implies_true, one0, m10, Nat.reduceAdd, Nat.reduceSub, Nat.reduceLeDiff, Nat.zero_add, Nat.add_zero])) | refine ⟨?_, ?_⟩ | intro hc)
  all_goals clear h0 h16 h17
  all_goals (first | exact hQ | (simp only [*, if_true, if_false] at hQ; exact hQ) | (simp [*] at hQ; simpa using hQ) | (exfalso; simp_all; done) | (simp_all; done))
theorem ct_X5_has (l : Launch) : Con l yX5_has cX5_has 2 (Option.some FieldType.boolean) 0 pre_X5_has fn_X5_has := con_of (by decide +kernel) ok_X5_has len_X5_has (fun p e s m args below meth c D ca ad A as M hX hr hp ho => pf_X5_has _ _ (bsX5_has_0 hX hr) (bsX5_has_16 hX hr) (bsX5_has_17 hX hr) as M ho hp ⟨rfl, rfl⟩)
theorem wi_1 {x y z : Int32} (h : ¬ wi x y z = 0) : ¬ x < y ∧ ¬ z < x := by
  unfold wi at h
  split at h
  · exact absurd rfl h
  · split at h
    · exact absurd rfl h
    · exact ⟨‹_›, ‹_›⟩
theorem wi_n {x z : Int32} {c : Nat} (hz : z = nI c) (hc : c < 2 ^ 31) (h : ¬ wi x 0 z = 0) : ∃ j, j ≤ c ∧ x = nI j := by
  obtain ⟨h1, h2⟩ := wi_1 h
  obtain ⟨j, hj, rfl⟩ := nI_of h1
  subst hz
  refine ⟨j, ?_, rfl⟩
  rcases Nat.lt_or_ge c j with g | g
  · exact absurd (nI_lt g hj) h2
  · exact g
def setR (M : mM) (u p r : Int32) : mM := if wi u 0 4 = 0 then M else if wi p 0 5 = 0 then M else mset (mset M 5 (u * 6 + p).toNatClampNeg r) 6 u.toNatClampNeg (p + 1)
def pre_X5_setRate (as : List mV) (M : mM) : Prop := ∃ k u p r, as = [.inr (.inr (5, k)), .inl u, .inl p, .inl r]
def fn_X5_setRate : List mV → mM → Option mV × mM
  | [.inr (.inr (_, k)), .inl u, .inl p, .inl r], M => (none, setR M u p r)
  | _, M => (none, M)
theorem ok_X5_setRate (as : List mV) (M : mM) (h : pre_X5_setRate as M) (_ : ∀ v ∈ as, okV v) : okR (fn_X5_setRate as M).1 := by
  obtain ⟨k, u, p, r, rfl⟩ := h
  first | trivial | exact (by decide +kernel : kof 14 = 8)
theorem len_X5_setRate (as : List mV) (M : mM) (h : pre_X5_setRate as M) : (inL as).length ≤ 4 := by
  obtain ⟨k, u, p, r, rfl⟩ := h
  exact Nat.le_of_ble_eq_true rfl

theorem fl_67 : FLk "FairBlocks$Plan" 21 5 3 16 := ⟨RX5, TX5, 5, rfl, inX5, by decide, w_67, by decide, rfl⟩
theorem fl_68 : FLk "FairBlocks$Plan" 25 5 4 16 := ⟨RX5, TX5, 5, rfl, inX5, by decide, w_68, by decide, rfl⟩
theorem dX5_setRate_0 : decode cX5_setRate 0 = .ok (.iload_n 1, 1) := by decide +kernel
theorem dX5_setRate_1 : decode cX5_setRate 1 = .ok (.iconst 0, 1) := by decide +kernel
theorem dX5_setRate_2 : decode cX5_setRate 2 = .ok (.iconst 4, 1) := by decide +kernel
theorem dX5_setRate_3 : decode cX5_setRate 3 = .ok (.invokestatic 28, 3) := by decide +kernel
theorem dX5_setRate_6 : decode cX5_setRate 6 = .ok (.ifCond .eq 33, 3) := by decide +kernel
theorem dX5_setRate_9 : decode cX5_setRate 9 = .ok (.iload_n 2, 1) := by decide +kernel
theorem dX5_setRate_10 : decode cX5_setRate 10 = .ok (.iconst 0, 1) := by decide +kernel
theorem dX5_setRate_11 : decode cX5_setRate 11 = .ok (.iconst 5, 1) := by decide +kernel
theorem dX5_setRate_12 : decode cX5_setRate 12 = .ok (.invokestatic 28, 3) := by decide +kernel
theorem dX5_setRate_15 : decode cX5_setRate 15 = .ok (.ifCond .eq 24, 3) := by decide +kernel
theorem dX5_setRate_18 : decode cX5_setRate 18 = .ok (.aload_n 0, 1) := by decide +kernel
theorem dX5_setRate_19 : decode cX5_setRate 19 = .ok (.getfield 21, 3) := by decide +kernel
theorem dX5_setRate_22 : decode cX5_setRate 22 = .ok (.iload_n 1, 1) := by decide +kernel
theorem dX5_setRate_23 : decode cX5_setRate 23 = .ok (.bipush 6, 2) := by decide +kernel
theorem dX5_setRate_25 : decode cX5_setRate 25 = .ok (.imul, 1) := by decide +kernel
theorem dX5_setRate_26 : decode cX5_setRate 26 = .ok (.iload_n 2, 1) := by decide +kernel
theorem dX5_setRate_27 : decode cX5_setRate 27 = .ok (.iadd, 1) := by decide +kernel
theorem dX5_setRate_28 : decode cX5_setRate 28 = .ok (.iload_n 3, 1) := by decide +kernel
theorem dX5_setRate_29 : decode cX5_setRate 29 = .ok (.iastore, 1) := by decide +kernel
theorem dX5_setRate_30 : decode cX5_setRate 30 = .ok (.aload_n 0, 1) := by decide +kernel
theorem dX5_setRate_31 : decode cX5_setRate 31 = .ok (.getfield 25, 3) := by decide +kernel
theorem dX5_setRate_34 : decode cX5_setRate 34 = .ok (.iload_n 1, 1) := by decide +kernel
theorem dX5_setRate_35 : decode cX5_setRate 35 = .ok (.iload_n 2, 1) := by decide +kernel
theorem dX5_setRate_36 : decode cX5_setRate 36 = .ok (.iconst 1, 1) := by decide +kernel
theorem dX5_setRate_37 : decode cX5_setRate 37 = .ok (.iadd, 1) := by decide +kernel
theorem dX5_setRate_38 : decode cX5_setRate 38 = .ok (.iastore, 1) := by decide +kernel
theorem dX5_setRate_39 : decode cX5_setRate 39 = .ok (.return_, 1) := by decide +kernel
theorem mk_X5_setRate : MVk yX5_setRate "FairBlocks$Plan" cX5_setRate 4 (Option.none : Option FieldType) 3 := ⟨w_387, w_385, w_386, w_4, rfl, by decide +kernel, by decide +kernel, by decide +kernel⟩
def BX5_setRate_0 (G : Nat → KT) (Q : Option mV → mM → Prop) : KT := (s_iload 1 (s_iconst (0) (s_iconst (4) (s_callS 3 pre_X11_within fn_X11_within (s_if (fun x => x = 0) (s_at G 39 [false, false, false, false]) (s_iload 2 (s_iconst (0) (s_iconst (5) (s_callS 3 pre_X11_within fn_X11_within (s_if (fun x => x = 0) (s_at G 39 [false, false, false, false]) (s_aload 0 (s_getr 5 13 (fun _ => 5) (s_iload 1 (s_iconst (6) (s_bin (fun x y => x * y) (s_iload 2 (s_bin (fun x y => x + y) (s_iload 3 (s_iast (s_aload 0 (s_getr 5 13 (fun _ => 6) (s_iload 1 (s_iload 2 (s_iconst (1) (s_bin (fun x y => x + y) (s_iast (s_at G 39 [false, false, false, false])))))))))))))))))))))))))))
set_option maxRecDepth 4000 in
theorem bsX5_setRate_0 {p : Program} {l : Launch} {e : Env} {s : State} {m : MethodId} {args : Array Value} {below : List Frame} {meth : Method} {c : Code} {D : va_G} {ca : Nat → ClassId} {ad : Nat → Nat} {A : Nat → Prop} {Q : Option mV → mM → Prop} (hX : CX p s m args meth c 4 cX5_setRate "FairBlocks$Plan" D ca ad A) (hr : meth.sig.returnType = (Option.none : Option FieldType)) : ∀ lv st M, BX5_setRate_0 (Gd p l e (rmD 1) s m args below meth c 4 D ca ad A 0 0 (MQ below (QC D ca ad A Q) args s 0 0 A)) Q lv st M → Gd p l e (rmD 1) s m args below meth c 4 D ca ad A 0 0 (MQ below (QC D ca ad A Q) args s 0 0 A) 0 lv st M :=
  (sd_iload_n hX dX5_setRate_0 rfl (sd_iconst hX dX5_setRate_1 rfl (sd_iconst hX dX5_setRate_2 rfl (sd_callSN hX (ct_X11_within l) mk_X11_within nw_5 ⟨⟨by decide, by decide⟩, by decide, by decide⟩ dX5_setRate_3 (sd_if_eq hX dX5_setRate_6 (by decide) sd_at (sd_iload_n hX dX5_setRate_9 rfl (sd_iconst hX dX5_setRate_10 rfl (sd_iconst hX dX5_setRate_11 rfl (sd_callSN hX (ct_X11_within l) mk_X11_within nw_5 ⟨⟨by decide, by decide⟩, by decide, by decide⟩ dX5_setRate_12 (sd_if_eq hX dX5_setRate_15 (by decide) sd_at (sd_aload_n hX dX5_setRate_18 rfl (sd_getr hX fl_67 (fun _ => rfl) (fun _ _ _ => by decide +kernel) dX5_setRate_19 (sd_iload_n hX dX5_setRate_22 rfl (sd_bipush hX dX5_setRate_23 rfl (sd_imul hX dX5_setRate_25 (sd_iload_n hX dX5_setRate_26 rfl (sd_iadd hX dX5_setRate_27 (sd_iload_n hX dX5_setRate_28 rfl (sd_iast hX dX5_setRate_29 (sd_aload_n hX dX5_setRate_30 rfl (sd_getr hX fl_68 (fun _ => rfl) (fun _ _ _ => by decide +kernel) dX5_setRate_31 (sd_iload_n hX dX5_setRate_34 rfl (sd_iload_n hX dX5_setRate_35 rfl (sd_iconst hX dX5_setRate_36 rfl (sd_iadd hX dX5_setRate_37 (sd_iast hX dX5_setRate_38 sd_at))))))))))))))))))))))))))
def BX5_setRate_39 (G : Nat → KT) (Q : Option mV → mM → Prop) : KT := (s_vret Q)
set_option maxRecDepth 4000 in
theorem bsX5_setRate_39 {p : Program} {l : Launch} {e : Env} {s : State} {m : MethodId} {args : Array Value} {below : List Frame} {meth : Method} {c : Code} {D : va_G} {ca : Nat → ClassId} {ad : Nat → Nat} {A : Nat → Prop} {Q : Option mV → mM → Prop} (hX : CX p s m args meth c 4 cX5_setRate "FairBlocks$Plan" D ca ad A) (hr : meth.sig.returnType = (Option.none : Option FieldType)) : ∀ lv st M, BX5_setRate_39 (Gd p l e (rmD 1) s m args below meth c 4 D ca ad A 0 0 (MQ below (QC D ca ad A Q) args s 0 0 A)) Q lv st M → Gd p l e (rmD 1) s m args below meth c 4 D ca ad A 0 0 (MQ below (QC D ca ad A Q) args s 0 0 A) 39 lv st M :=
  sd_vret hX hr dX5_setRate_39
set_option maxHeartbeats 400000 in
theorem pf_X5_setRate (G : Nat → KT) (Q : Option mV → mM → Prop) (h0 : ∀ lv st M, BX5_setRate_0 G Q lv st M → G 0 lv st M) (h39 : ∀ lv st M, BX5_setRate_39 G Q lv st M → G 39 lv st M) (as : List mV) (M : mM) (ho : ∀ v ∈ as, okV v) (hp : pre_X5_setRate as M) (hQ : Q (fn_X5_setRate as M).1 (fn_X5_setRate as M).2) : G 0 (inL as ++ List.replicate (4 - (inL as).length) none) [] M := by
  obtain ⟨k, u, p, r, rfl⟩ := hp
  obtain rfl : k = 4 := k5 (ho (.inr (.inr (5, k))) (by simp))
  simp only [fn_X5_setRate, setR] at hQ
  have h5 : ln 5 = 30 := by decide +kernel
  have h6 : ln 6 = 5 := by decide +kernel
  (apply h0; simp only [BX5_setRate_0, s_mth, s_mab, s_at, s_iconst, s_lconst, s_iload, s_lload, s_aload, s_istore, s_lstore, s_astore, s_iinc, s_bin, s_binG, s_un, s_lbin, s_lbinG, s_lsh, s_lcmp, s_i2l, s_l2i, s_dup, s_dup2, s_pop, s_if, s_icmp, s_geti, s_getl, s_getr, s_puti, s_putz, s_putl, s_iald, s_zald, s_iast, s_zast, s_aaldS, s_aaldU, s_gets, s_tald, s_tsw, tsw, s_iret, s_zret, s_lret, s_aret, s_vret, s_callV, s_callS, c1, nl1, keepL, csum, pushR, inL, List.getD_cons_zero, List.getD_cons_succ, List.set_cons_zero, List.set_cons_succ, List.cons_append, List.nil_append, List.append_nil, List.replicate, List.length_cons, List.length_nil, List.take_succ_cons, List.take_zero, List.drop_succ_cons, List.drop_zero, List.reverse_cons, List.reverse_nil, true_and, and_true, forall_const, not_true_eq_false, not_false_eq_true, false_implies, true_implies, implies_true, one0, m10, Nat.reduceAdd, Nat.reduceSub, Nat.reduceLeDiff, Nat.zero_add, Nat.add_zero, fn_X11_within])
  refine ⟨⟨_, _, _, rfl⟩, ?_⟩
  refine ⟨fun h => ?_, fun h => ⟨⟨_, _, _, rfl⟩, fun h2 => ?_, fun h2 => ?_⟩⟩
  · (apply h39; simp only [BX5_setRate_39, s_mth, s_mab, s_at, s_iconst, s_lconst, s_iload, s_lload, s_aload, s_istore, s_lstore, s_astore, s_iinc, s_bin, s_binG, s_un, s_lbin, s_lbinG, s_lsh, s_lcmp, s_i2l, s_l2i, s_dup, s_dup2, s_pop, s_if, s_icmp, s_geti, s_getl, s_getr, s_puti, s_putz, s_putl, s_iald, s_zald, s_iast, s_zast, s_aaldS, s_aaldU, s_gets, s_tald, s_tsw, tsw, s_iret, s_zret, s_lret, s_aret, s_vret, s_callV, s_callS, c1, nl1, keepL, csum, pushR, inL, List.getD_cons_zero, List.getD_cons_succ, List.set_cons_zero, List.set_cons_succ, List.cons_append, List.nil_append, List.append_nil, List.replicate, List.length_cons, List.length_nil, List.take_succ_cons, List.take_zero, List.drop_succ_cons, List.drop_zero, List.reverse_cons, List.reverse_nil, true_and, and_true, forall_const, not_true_eq_false, not_false_eq_true, false_implies, true_implies, implies_true, one0, m10, Nat.reduceAdd, Nat.reduceSub, Nat.reduceLeDiff, Nat.zero_add, Nat.add_zero, fn_X11_within])
    rw [if_pos h] at hQ
    exact hQ
  · (apply h39; simp only [BX5_setRate_39, s_mth, s_mab, s_at, s_iconst, s_lconst, s_iload, s_lload, s_aload, s_istore, s_lstore, s_astore, s_iinc, s_bin, s_binG, s_un, s_lbin, s_lbinG, s_lsh, s_lcmp, s_i2l, s_l2i, s_dup, s_dup2, s_pop, s_if, s_icmp, s_geti, s_getl, s_getr, s_puti, s_putz, s_putl, s_iald, s_zald, s_iast, s_zast, s_aaldS, s_aaldU, s_gets, s_tald, s_tsw, tsw, s_iret, s_zret, s_lret, s_aret, s_vret, s_callV, s_callS, c1, nl1, keepL, csum, pushR, inL, List.getD_cons_zero, List.getD_cons_succ, List.set_cons_zero, List.set_cons_succ, List.cons_append, List.nil_append, List.append_nil, List.replicate, List.length_cons, List.length_nil, List.take_succ_cons, List.take_zero, List.drop_succ_cons, List.drop_zero, List.reverse_cons, List.reverse_nil, true_and, and_true, forall_const, not_true_eq_false, not_false_eq_true, false_implies, true_implies, implies_true, one0, m10, Nat.reduceAdd, Nat.reduceSub, Nat.reduceLeDiff, Nat.zero_add, Nat.add_zero, fn_X11_within])
    rw [if_neg h, if_pos h2] at hQ
    exact hQ
  · rw [if_neg h, if_neg h2] at hQ
    obtain ⟨a, ha, rfl⟩ := wi_n (c := 4) rfl (by decide) h
    obtain ⟨b, hb, rfl⟩ := wi_n (c := 5) rfl (by decide) h2
    have e : nI a * 6 + nI b = nI (a * 6 + b) := by rw [show (6 : Int32) = nI 6 from rfl, pk_mul, nI_add]
    refine ⟨?_, ?_, ?_⟩
    · rw [e, h5]; exact vp_in_nI (by omega) (by decide)
    · rw [h6]; exact vp_in_nI (by omega) (by decide)
    · (apply h39; simp only [BX5_setRate_39, s_mth, s_mab, s_at, s_iconst, s_lconst, s_iload, s_lload, s_aload, s_istore, s_lstore, s_astore, s_iinc, s_bin, s_binG, s_un, s_lbin, s_lbinG, s_lsh, s_lcmp, s_i2l, s_l2i, s_dup, s_dup2, s_pop, s_if, s_icmp, s_geti, s_getl, s_getr, s_puti, s_putz, s_putl, s_iald, s_zald, s_iast, s_zast, s_aaldS, s_aaldU, s_gets, s_tald, s_tsw, tsw, s_iret, s_zret, s_lret, s_aret, s_vret, s_callV, s_callS, c1, nl1, keepL, csum, pushR, inL, List.getD_cons_zero, List.getD_cons_succ, List.set_cons_zero, List.set_cons_succ, List.cons_append, List.nil_append, List.append_nil, List.replicate, List.length_cons, List.length_nil, List.take_succ_cons, List.take_zero, List.drop_succ_cons, List.drop_zero, List.reverse_cons, List.reverse_nil, true_and, and_true, forall_const, not_true_eq_false, not_false_eq_true, false_implies, true_implies, implies_true, one0, m10, Nat.reduceAdd, Nat.reduceSub, Nat.reduceLeDiff, Nat.zero_add, Nat.add_zero, fn_X11_within])
      exact hQ
theorem ct_X5_setRate (l : Launch) : Con l yX5_setRate cX5_setRate 4 (Option.none : Option FieldType) 1 pre_X5_setRate fn_X5_setRate := con_of (by decide +kernel) ok_X5_setRate len_X5_setRate (fun p e s m args below meth c D ca ad A as M hX hr hp ho => pf_X5_setRate _ _ (bsX5_setRate_0 hX hr) (bsX5_setRate_39 hX hr) as M ho hp ⟨rfl, rfl⟩)
def PL (M : mM) : Prop := (∃ n, n ≤ 5 ∧ M.1 4 2 = nI n) ∧ (∀ u, u < 5 → ∃ m, m ≤ 6 ∧ M.1 6 u = nI m) ∧ ∃ B, B ≤ 4 ∧ M.1 4 0 = nI B
theorem PL_mset {M : mM} {k j : Nat} {v : Int32} (h : PL M) (h4 : k ≠ 4) (h6 : k ≠ 6) : PL (mset M k j v) := by
  unfold PL at h ⊢
  rw [mset_n (Ne.symm h4), mset_n (Ne.symm h6)]
  exact h
def rt (M : mM) (u c : Int32) : Int32 := if u < 0 then 0 else if M.1 4 2 ≤ u then 0 else if 0 ≤ c then (if M.1 6 u.toNatClampNeg ≤ 0 then 0 else M.1 5 (u * 6 + rm c (M.1 6 u.toNatClampNeg)).toNatClampNeg) else 0
def pre_X5_rateOf (as : List mV) (M : mM) : Prop := ∃ k u c, as = [.inr (.inr (5, k)), .inl u, .inl c] ∧ PL M
def fn_X5_rateOf : List mV → mM → Option mV × mM
  | [.inr (.inr (_, k)), .inl u, .inl c], M => (some (.inl (rt M u c)), M)
  | _, M => (none, M)
theorem ok_X5_rateOf (as : List mV) (M : mM) (h : pre_X5_rateOf as M) (_ : ∀ v ∈ as, okV v) : okR (fn_X5_rateOf as M).1 := by
  obtain ⟨k, u, c, rfl, -⟩ := h
  first | trivial | exact (by decide +kernel : kof 14 = 8)
theorem len_X5_rateOf (as : List mV) (M : mM) (h : pre_X5_rateOf as M) : (inL as).length ≤ 4 := by
  obtain ⟨k, u, c, rfl, -⟩ := h
  exact Nat.le_of_ble_eq_true rfl


theorem dX5_rateOf_0 : decode cX5_rateOf 0 = .ok (.iload_n 1, 1) := by decide +kernel
theorem dX5_rateOf_1 : decode cX5_rateOf 1 = .ok (.ifCond .lt 15, 3) := by decide +kernel
theorem dX5_rateOf_4 : decode cX5_rateOf 4 = .ok (.iload_n 1, 1) := by decide +kernel
theorem dX5_rateOf_5 : decode cX5_rateOf 5 = .ok (.aload_n 0, 1) := by decide +kernel
theorem dX5_rateOf_6 : decode cX5_rateOf 6 = .ok (.getfield 18, 3) := by decide +kernel
theorem dX5_rateOf_9 : decode cX5_rateOf 9 = .ok (.if_icmp .ge 7, 3) := by decide +kernel
theorem dX5_rateOf_12 : decode cX5_rateOf 12 = .ok (.iload_n 2, 1) := by decide +kernel
theorem dX5_rateOf_13 : decode cX5_rateOf 13 = .ok (.ifCond .ge 5, 3) := by decide +kernel
theorem dX5_rateOf_16 : decode cX5_rateOf 16 = .ok (.iconst 0, 1) := by decide +kernel
theorem dX5_rateOf_17 : decode cX5_rateOf 17 = .ok (.ireturn, 1) := by decide +kernel
theorem dX5_rateOf_18 : decode cX5_rateOf 18 = .ok (.aload_n 0, 1) := by decide +kernel
theorem dX5_rateOf_19 : decode cX5_rateOf 19 = .ok (.getfield 25, 3) := by decide +kernel
theorem dX5_rateOf_22 : decode cX5_rateOf 22 = .ok (.iload_n 1, 1) := by decide +kernel
theorem dX5_rateOf_23 : decode cX5_rateOf 23 = .ok (.iaload, 1) := by decide +kernel
theorem dX5_rateOf_24 : decode cX5_rateOf 24 = .ok (.istore_n 3, 1) := by decide +kernel
theorem dX5_rateOf_25 : decode cX5_rateOf 25 = .ok (.iload_n 3, 1) := by decide +kernel
theorem dX5_rateOf_26 : decode cX5_rateOf 26 = .ok (.ifCond .le 19, 3) := by decide +kernel
theorem dX5_rateOf_29 : decode cX5_rateOf 29 = .ok (.aload_n 0, 1) := by decide +kernel
theorem dX5_rateOf_30 : decode cX5_rateOf 30 = .ok (.getfield 21, 3) := by decide +kernel
theorem dX5_rateOf_33 : decode cX5_rateOf 33 = .ok (.iload_n 1, 1) := by decide +kernel
theorem dX5_rateOf_34 : decode cX5_rateOf 34 = .ok (.bipush 6, 2) := by decide +kernel
theorem dX5_rateOf_36 : decode cX5_rateOf 36 = .ok (.imul, 1) := by decide +kernel
theorem dX5_rateOf_37 : decode cX5_rateOf 37 = .ok (.iload_n 2, 1) := by decide +kernel
theorem dX5_rateOf_38 : decode cX5_rateOf 38 = .ok (.iload_n 3, 1) := by decide +kernel
theorem dX5_rateOf_39 : decode cX5_rateOf 39 = .ok (.irem, 1) := by decide +kernel
theorem dX5_rateOf_40 : decode cX5_rateOf 40 = .ok (.iadd, 1) := by decide +kernel
theorem dX5_rateOf_41 : decode cX5_rateOf 41 = .ok (.iaload, 1) := by decide +kernel
theorem dX5_rateOf_42 : decode cX5_rateOf 42 = .ok (.goto 4, 3) := by decide +kernel
theorem dX5_rateOf_45 : decode cX5_rateOf 45 = .ok (.iconst 0, 1) := by decide +kernel
theorem dX5_rateOf_46 : decode cX5_rateOf 46 = .ok (.ireturn, 1) := by decide +kernel
theorem mk_X5_rateOf : MVk yX5_rateOf "FairBlocks$Plan" cX5_rateOf 4 (Option.some FieldType.int) 2 := ⟨w_404, w_402, w_403, w_4, rfl, by decide +kernel, by decide +kernel, by decide +kernel⟩
def BX5_rateOf_0 (G : Nat → KT) (Q : Option mV → mM → Prop) : KT := (s_iload 1 (s_if (fun x => x < 0) (s_at G 16 [false, false, false, false]) (s_iload 1 (s_aload 0 (s_geti 5 2 (s_icmp (fun x y => y ≤ x) (s_at G 16 [false, false, false, false]) (s_iload 2 (s_if (fun x => 0 ≤ x) (s_at G 18 [true, true, true, false]) (s_at G 16 [false, false, false, false])))))))))
set_option maxRecDepth 4000 in
theorem bsX5_rateOf_0 {p : Program} {l : Launch} {e : Env} {s : State} {m : MethodId} {args : Array Value} {below : List Frame} {meth : Method} {c : Code} {D : va_G} {ca : Nat → ClassId} {ad : Nat → Nat} {A : Nat → Prop} {Q : Option mV → mM → Prop} (hX : CX p s m args meth c 4 cX5_rateOf "FairBlocks$Plan" D ca ad A) (hr : meth.sig.returnType = (Option.some FieldType.int)) : ∀ lv st M, BX5_rateOf_0 (Gd p l e (rmD 0) s m args below meth c 4 D ca ad A 0 0 (MQ below (QC D ca ad A Q) args s 0 0 A)) Q lv st M → Gd p l e (rmD 0) s m args below meth c 4 D ca ad A 0 0 (MQ below (QC D ca ad A Q) args s 0 0 A) 0 lv st M :=
  (sd_iload_n hX dX5_rateOf_0 rfl (sd_if_lt hX dX5_rateOf_1 (by decide) sd_at (sd_iload_n hX dX5_rateOf_4 rfl (sd_aload_n hX dX5_rateOf_5 rfl (sd_geti hX fl_60 (by decide) dX5_rateOf_6 (sd_icmp_ge hX dX5_rateOf_9 (by decide) sd_at (sd_iload_n hX dX5_rateOf_12 rfl (sd_if_ge hX dX5_rateOf_13 (by decide) sd_at sd_at))))))))
def BX5_rateOf_16 (G : Nat → KT) (Q : Option mV → mM → Prop) : KT := (s_iconst (0) (s_iret Q))
set_option maxRecDepth 4000 in
theorem bsX5_rateOf_16 {p : Program} {l : Launch} {e : Env} {s : State} {m : MethodId} {args : Array Value} {below : List Frame} {meth : Method} {c : Code} {D : va_G} {ca : Nat → ClassId} {ad : Nat → Nat} {A : Nat → Prop} {Q : Option mV → mM → Prop} (hX : CX p s m args meth c 4 cX5_rateOf "FairBlocks$Plan" D ca ad A) (hr : meth.sig.returnType = (Option.some FieldType.int)) : ∀ lv st M, BX5_rateOf_16 (Gd p l e (rmD 0) s m args below meth c 4 D ca ad A 0 0 (MQ below (QC D ca ad A Q) args s 0 0 A)) Q lv st M → Gd p l e (rmD 0) s m args below meth c 4 D ca ad A 0 0 (MQ below (QC D ca ad A Q) args s 0 0 A) 16 lv st M :=
  (sd_iconst hX dX5_rateOf_16 rfl (sd_iret hX hr dX5_rateOf_17))
def BX5_rateOf_18 (G : Nat → KT) (Q : Option mV → mM → Prop) : KT := (s_aload 0 (s_getr 5 13 (fun _ => 6) (s_iload 1 (s_iald (s_istore 3 (s_iload 3 (s_if (fun x => x ≤ 0) (s_at G 45 [false, false, false, false]) (s_aload 0 (s_getr 5 13 (fun _ => 5) (s_iload 1 (s_iconst (6) (s_bin (fun x y => x * y) (s_iload 2 (s_iload 3 (s_binG (fun x y => x - x / y * y) (s_bin (fun x y => x + y) (s_iald (s_at G 46 [false, false, false, false]))))))))))))))))))
set_option maxRecDepth 4000 in
theorem bsX5_rateOf_18 {p : Program} {l : Launch} {e : Env} {s : State} {m : MethodId} {args : Array Value} {below : List Frame} {meth : Method} {c : Code} {D : va_G} {ca : Nat → ClassId} {ad : Nat → Nat} {A : Nat → Prop} {Q : Option mV → mM → Prop} (hX : CX p s m args meth c 4 cX5_rateOf "FairBlocks$Plan" D ca ad A) (hr : meth.sig.returnType = (Option.some FieldType.int)) : ∀ lv st M, BX5_rateOf_18 (Gd p l e (rmD 0) s m args below meth c 4 D ca ad A 0 0 (MQ below (QC D ca ad A Q) args s 0 0 A)) Q lv st M → Gd p l e (rmD 0) s m args below meth c 4 D ca ad A 0 0 (MQ below (QC D ca ad A Q) args s 0 0 A) 18 lv st M :=
  (sd_aload_n hX dX5_rateOf_18 rfl (sd_getr hX fl_68 (fun _ => rfl) (fun _ _ _ => by decide +kernel) dX5_rateOf_19 (sd_iload_n hX dX5_rateOf_22 rfl (sd_iald hX dX5_rateOf_23 (sd_istore_n hX (by decide) dX5_rateOf_24 rfl (sd_iload_n hX dX5_rateOf_25 rfl (sd_if_le hX dX5_rateOf_26 (by decide) sd_at (sd_aload_n hX dX5_rateOf_29 rfl (sd_getr hX fl_67 (fun _ => rfl) (fun _ _ _ => by decide +kernel) dX5_rateOf_30 (sd_iload_n hX dX5_rateOf_33 rfl (sd_bipush hX dX5_rateOf_34 rfl (sd_imul hX dX5_rateOf_36 (sd_iload_n hX dX5_rateOf_37 rfl (sd_iload_n hX dX5_rateOf_38 rfl (sd_irem hX dX5_rateOf_39 (sd_iadd hX dX5_rateOf_40 (sd_iald hX dX5_rateOf_41 (sd_goto hX dX5_rateOf_42 (by decide) sd_at))))))))))))))))))
def BX5_rateOf_45 (G : Nat → KT) (Q : Option mV → mM → Prop) : KT := (s_iconst (0) (s_at G 46 [false, false, false, false]))
set_option maxRecDepth 4000 in
theorem bsX5_rateOf_45 {p : Program} {l : Launch} {e : Env} {s : State} {m : MethodId} {args : Array Value} {below : List Frame} {meth : Method} {c : Code} {D : va_G} {ca : Nat → ClassId} {ad : Nat → Nat} {A : Nat → Prop} {Q : Option mV → mM → Prop} (hX : CX p s m args meth c 4 cX5_rateOf "FairBlocks$Plan" D ca ad A) (hr : meth.sig.returnType = (Option.some FieldType.int)) : ∀ lv st M, BX5_rateOf_45 (Gd p l e (rmD 0) s m args below meth c 4 D ca ad A 0 0 (MQ below (QC D ca ad A Q) args s 0 0 A)) Q lv st M → Gd p l e (rmD 0) s m args below meth c 4 D ca ad A 0 0 (MQ below (QC D ca ad A Q) args s 0 0 A) 45 lv st M :=
  (sd_iconst hX dX5_rateOf_45 rfl sd_at)
def BX5_rateOf_46 (G : Nat → KT) (Q : Option mV → mM → Prop) : KT := (s_iret Q)
set_option maxRecDepth 4000 in
theorem bsX5_rateOf_46 {p : Program} {l : Launch} {e : Env} {s : State} {m : MethodId} {args : Array Value} {below : List Frame} {meth : Method} {c : Code} {D : va_G} {ca : Nat → ClassId} {ad : Nat → Nat} {A : Nat → Prop} {Q : Option mV → mM → Prop} (hX : CX p s m args meth c 4 cX5_rateOf "FairBlocks$Plan" D ca ad A) (hr : meth.sig.returnType = (Option.some FieldType.int)) : ∀ lv st M, BX5_rateOf_46 (Gd p l e (rmD 0) s m args below meth c 4 D ca ad A 0 0 (MQ below (QC D ca ad A Q) args s 0 0 A)) Q lv st M → Gd p l e (rmD 0) s m args below meth c 4 D ca ad A 0 0 (MQ below (QC D ca ad A Q) args s 0 0 A) 46 lv st M :=
  sd_iret hX hr dX5_rateOf_46
set_option maxHeartbeats 400000 in
theorem pf_X5_rateOf (G : Nat → KT) (Q : Option mV → mM → Prop) (h0 : ∀ lv st M, BX5_rateOf_0 G Q lv st M → G 0 lv st M) (h16 : ∀ lv st M, BX5_rateOf_16 G Q lv st M → G 16 lv st M) (h18 : ∀ lv st M, BX5_rateOf_18 G Q lv st M → G 18 lv st M) (h45 : ∀ lv st M, BX5_rateOf_45 G Q lv st M → G 45 lv st M) (h46 : ∀ lv st M, BX5_rateOf_46 G Q lv st M → G 46 lv st M) (as : List mV) (M : mM) (ho : ∀ v ∈ as, okV v) (hp : pre_X5_rateOf as M) (hQ : Q (fn_X5_rateOf as M).1 (fn_X5_rateOf as M).2) : G 0 (inL as ++ List.replicate (4 - (inL as).length) none) [] M := by
  obtain ⟨k, u, c, rfl, hPL⟩ := hp
  obtain rfl : k = 4 := k5 (ho (.inr (.inr (5, k))) (by simp))
  obtain ⟨⟨n, hn, en⟩, hm, -⟩ := hPL
  simp only [fn_X5_rateOf, rt] at hQ
  have h5 : ln 5 = 30 := by decide +kernel
  have h6 : ln 6 = 5 := by decide +kernel
  have z : Q (some (.inl 0)) M → G 16 [none, none, none, none] [] M := by
    intro hq
    (apply h16; simp only [BX5_rateOf_16, s_mth, s_mab, s_at, s_iconst, s_lconst, s_iload, s_lload, s_aload, s_istore, s_lstore, s_astore, s_iinc, s_bin, s_binG, s_un, s_lbin, s_lbinG, s_lsh, s_lcmp, s_i2l, s_l2i, s_dup, s_dup2, s_pop, s_if, s_icmp, s_geti, s_getl, s_getr, s_puti, s_putz, s_putl, s_iald, s_zald, s_iast, s_zast, s_aaldS, s_aaldU, s_gets, s_tald, s_tsw, tsw, s_iret, s_zret, s_lret, s_aret, s_vret, s_callV, s_callS, c1, nl1, keepL, csum, pushR, inL, List.getD_cons_zero, List.getD_cons_succ, List.set_cons_zero, List.set_cons_succ, List.cons_append, List.nil_append, List.append_nil, List.replicate, List.length_cons, List.length_nil, List.take_succ_cons, List.take_zero, List.drop_succ_cons, List.drop_zero, List.reverse_cons, List.reverse_nil, true_and, and_true, forall_const, not_true_eq_false, not_false_eq_true, false_implies, true_implies, implies_true, one0, m10, Nat.reduceAdd, Nat.reduceSub, Nat.reduceLeDiff, Nat.zero_add, Nat.add_zero])
    exact hq
  (apply h0; simp only [BX5_rateOf_0, s_mth, s_mab, s_at, s_iconst, s_lconst, s_iload, s_lload, s_aload, s_istore, s_lstore, s_astore, s_iinc, s_bin, s_binG, s_un, s_lbin, s_lbinG, s_lsh, s_lcmp, s_i2l, s_l2i, s_dup, s_dup2, s_pop, s_if, s_icmp, s_geti, s_getl, s_getr, s_puti, s_putz, s_putl, s_iald, s_zald, s_iast, s_zast, s_aaldS, s_aaldU, s_gets, s_tald, s_tsw, tsw, s_iret, s_zret, s_lret, s_aret, s_vret, s_callV, s_callS, c1, nl1, keepL, csum, pushR, inL, List.getD_cons_zero, List.getD_cons_succ, List.set_cons_zero, List.set_cons_succ, List.cons_append, List.nil_append, List.append_nil, List.replicate, List.length_cons, List.length_nil, List.take_succ_cons, List.take_zero, List.drop_succ_cons, List.drop_zero, List.reverse_cons, List.reverse_nil, true_and, and_true, forall_const, not_true_eq_false, not_false_eq_true, false_implies, true_implies, implies_true, one0, m10, Nat.reduceAdd, Nat.reduceSub, Nat.reduceLeDiff, Nat.zero_add, Nat.add_zero])
  refine ⟨fun h => ?_, fun h => ⟨fun h2 => ?_, fun h2 => ⟨fun h3 => ?_, fun h3 => ?_⟩⟩⟩
  · rw [if_pos h] at hQ; exact z hQ
  · rw [if_neg h, if_pos h2] at hQ; exact z hQ
  · rw [if_neg h, if_neg h2, if_pos h3] at hQ
    obtain ⟨j, hj, rfl⟩ := nI_of h
    rw [en] at h2
    have hjn : j < n := by
      rcases Nat.lt_or_ge j n with g | g
      · exact g
      · exact absurd (nI_le g hj) h2
    rw [nI_clamp hj] at hQ
    obtain ⟨m, hm6, em⟩ := hm j (by omega)
    (apply h18; simp only [BX5_rateOf_18, s_mth, s_mab, s_at, s_iconst, s_lconst, s_iload, s_lload, s_aload, s_istore, s_lstore, s_astore, s_iinc, s_bin, s_binG, s_un, s_lbin, s_lbinG, s_lsh, s_lcmp, s_i2l, s_l2i, s_dup, s_dup2, s_pop, s_if, s_icmp, s_geti, s_getl, s_getr, s_puti, s_putz, s_putl, s_iald, s_zald, s_iast, s_zast, s_aaldS, s_aaldU, s_gets, s_tald, s_tsw, tsw, s_iret, s_zret, s_lret, s_aret, s_vret, s_callV, s_callS, c1, nl1, keepL, csum, pushR, inL, List.getD_cons_zero, List.getD_cons_succ, List.set_cons_zero, List.set_cons_succ, List.cons_append, List.nil_append, List.append_nil, List.replicate, List.length_cons, List.length_nil, List.take_succ_cons, List.take_zero, List.drop_succ_cons, List.drop_zero, List.reverse_cons, List.reverse_nil, true_and, and_true, forall_const, not_true_eq_false, not_false_eq_true, false_implies, true_implies, implies_true, one0, m10, Nat.reduceAdd, Nat.reduceSub, Nat.reduceLeDiff, Nat.zero_add, Nat.add_zero])
    rw [nI_clamp hj, h6]
    refine ⟨vp_in_nI (by omega) (by decide), fun h4 => ?_, fun h4 => ?_⟩
    · (apply h45; simp only [BX5_rateOf_45, s_mth, s_mab, s_at, s_iconst, s_lconst, s_iload, s_lload, s_aload, s_istore, s_lstore, s_astore, s_iinc, s_bin, s_binG, s_un, s_lbin, s_lbinG, s_lsh, s_lcmp, s_i2l, s_l2i, s_dup, s_dup2, s_pop, s_if, s_icmp, s_geti, s_getl, s_getr, s_puti, s_putz, s_putl, s_iald, s_zald, s_iast, s_zast, s_aaldS, s_aaldU, s_gets, s_tald, s_tsw, tsw, s_iret, s_zret, s_lret, s_aret, s_vret, s_callV, s_callS, c1, nl1, keepL, csum, pushR, inL, List.getD_cons_zero, List.getD_cons_succ, List.set_cons_zero, List.set_cons_succ, List.cons_append, List.nil_append, List.append_nil, List.replicate, List.length_cons, List.length_nil, List.take_succ_cons, List.take_zero, List.drop_succ_cons, List.drop_zero, List.reverse_cons, List.reverse_nil, true_and, and_true, forall_const, not_true_eq_false, not_false_eq_true, false_implies, true_implies, implies_true, one0, m10, Nat.reduceAdd, Nat.reduceSub, Nat.reduceLeDiff, Nat.zero_add, Nat.add_zero])
      (apply h46; simp only [BX5_rateOf_46, s_mth, s_mab, s_at, s_iconst, s_lconst, s_iload, s_lload, s_aload, s_istore, s_lstore, s_astore, s_iinc, s_bin, s_binG, s_un, s_lbin, s_lbinG, s_lsh, s_lcmp, s_i2l, s_l2i, s_dup, s_dup2, s_pop, s_if, s_icmp, s_geti, s_getl, s_getr, s_puti, s_putz, s_putl, s_iald, s_zald, s_iast, s_zast, s_aaldS, s_aaldU, s_gets, s_tald, s_tsw, tsw, s_iret, s_zret, s_lret, s_aret, s_vret, s_callV, s_callS, c1, nl1, keepL, csum, pushR, inL, List.getD_cons_zero, List.getD_cons_succ, List.set_cons_zero, List.set_cons_succ, List.cons_append, List.nil_append, List.append_nil, List.replicate, List.length_cons, List.length_nil, List.take_succ_cons, List.take_zero, List.drop_succ_cons, List.drop_zero, List.reverse_cons, List.reverse_nil, true_and, and_true, forall_const, not_true_eq_false, not_false_eq_true, false_implies, true_implies, implies_true, one0, m10, Nat.reduceAdd, Nat.reduceSub, Nat.reduceLeDiff, Nat.zero_add, Nat.add_zero])
      rw [if_pos h4] at hQ
      exact hQ
    · rw [if_neg h4] at hQ
      have hm0 : 0 < m := by
        rcases Nat.eq_zero_or_pos m with g | g
        · subst g; rw [em] at h4; exact absurd (by decide) h4
        · exact g
      obtain ⟨cc, hcc, rfl⟩ := nI_of (x := c) (by
        intro h
        exact absurd h3 (by rw [Int32.le_iff_toInt_le]; rw [Int32.lt_iff_toInt_lt] at h; omega))
      have er : nI cc - nI cc / M.1 6 j * M.1 6 j = nI (cc % m) := by rw [em]; exact pk_rem hcc hm0 (by omega)
      have hml := Nat.mod_lt cc hm0
      have e : nI j * 6 + (nI cc - nI cc / M.1 6 j * M.1 6 j) = nI (j * 6 + cc % m) := by rw [er, show (6 : Int32) = nI 6 from rfl, pk_mul, nI_add]
      refine ⟨?_, ?_, ?_⟩
      · rw [em]
        exact nI_ne0 hm0 (by omega)
      · rw [e, h5]
        exact vp_in_nI (by omega) (by decide)
      · (apply h46; simp only [BX5_rateOf_46, s_mth, s_mab, s_at, s_iconst, s_lconst, s_iload, s_lload, s_aload, s_istore, s_lstore, s_astore, s_iinc, s_bin, s_binG, s_un, s_lbin, s_lbinG, s_lsh, s_lcmp, s_i2l, s_l2i, s_dup, s_dup2, s_pop, s_if, s_icmp, s_geti, s_getl, s_getr, s_puti, s_putz, s_putl, s_iald, s_zald, s_iast, s_zast, s_aaldS, s_aaldU, s_gets, s_tald, s_tsw, tsw, s_iret, s_zret, s_lret, s_aret, s_vret, s_callV, s_callS, c1, nl1, keepL, csum, pushR, inL, List.getD_cons_zero, List.getD_cons_succ, List.set_cons_zero, List.set_cons_succ, List.cons_append, List.nil_append, List.append_nil, List.replicate, List.length_cons, List.length_nil, List.take_succ_cons, List.take_zero, List.drop_succ_cons, List.drop_zero, List.reverse_cons, List.reverse_nil, true_and, and_true, forall_const, not_true_eq_false, not_false_eq_true, false_implies, true_implies, implies_true, one0, m10, Nat.reduceAdd, Nat.reduceSub, Nat.reduceLeDiff, Nat.zero_add, Nat.add_zero])
        exact hQ
  · rw [if_neg h, if_neg h2, if_neg h3] at hQ; exact z hQ
theorem ct_X5_rateOf (l : Launch) : Con l yX5_rateOf cX5_rateOf 4 (Option.some FieldType.int) 0 pre_X5_rateOf fn_X5_rateOf := con_of (by decide +kernel) ok_X5_rateOf len_X5_rateOf (fun p e s m args below meth c D ca ad A as M hX hr hp ho => pf_X5_rateOf _ _ (bsX5_rateOf_0 hX hr) (bsX5_rateOf_16 hX hr) (bsX5_rateOf_18 hX hr) (bsX5_rateOf_45 hX hr) (bsX5_rateOf_46 hX hr) as M ho hp ⟨rfl, rfl⟩)
/-! Acts, Bench -/
def AC (M : mM) : Prop := ∃ f z, f < 14 ∧ z ≤ 14 ∧ M.1 26 1 = nI f ∧ M.1 26 2 = nI z
def remA (M : mM) : mM := if M.1 26 2 = 14 then mset (mset M 26 1 (rm (M.1 26 1 + 1) 14)) 26 2 (M.1 26 2 - 1) else M
def remB (M : mM) (o : Nat) : mM := stc M (28 + 7 * (rm (M.1 26 1 + M.1 26 2) 14).toNatClampNeg) o
def remC (M : mM) : mM := mset M 26 2 (M.1 26 2 + 1)
theorem rm14 {a : Nat} (ha : a < 2 ^ 31) : rm (nI a) 14 = nI (a % 14) := pk_rem ha (by decide) (by decide)
theorem remA_ac {M : mM} (h : AC M) : ∃ f z, f < 14 ∧ z ≤ 13 ∧ (remA M).1 26 1 = nI f ∧ (remA M).1 26 2 = nI z := by
  obtain ⟨f, z, hf, hz, e1, e2⟩ := h
  unfold remA
  split
  · next h =>
    refine ⟨(f + 1) % 14, 13, Nat.mod_lt _ (by decide), by decide, ?_, ?_⟩
    · rw [mset_get, if_neg (by decide), mset_get, if_pos ⟨rfl, rfl⟩, e1, nI_1, rm14 (by omega)]
    · rw [mset_get, if_pos ⟨rfl, rfl⟩, h]; rfl
  · next h =>
    refine ⟨f, z, hf, ?_, e1, e2⟩
    rcases Nat.lt_or_ge z 14 with g | g
    · omega
    · obtain rfl : z = 14 := by omega
      exact absurd e2 h
theorem OF_mset {M : mM} {k j : Nat} {v : Int32} (h : OF M) (hk : kof k ≠ 10) : OF (mset M k j v) := by
  intro a ha
  rw [mset_get, if_neg (fun g => hk (by rw [← g.1]; exact ha))]
  exact h a ha
theorem OF_remA {M : mM} (h : OF M) : OF (remA M) := by
  unfold remA
  split
  · exact OF_mset (OF_mset h (by decide +kernel)) (by decide +kernel)
  · exact h
def pre_X0_remember (as : List mV) (M : mM) : Prop := ∃ k o, as = [.inr (.inr (0, k)), .inr (.inr (8, o))] ∧ OF M ∧ AC M
def fn_X0_remember : List mV → mM → Option mV × mM
  | [.inr (.inr (_, k)), .inr (.inr (_, o))], M => (none, remC (remB (remA M) o))
  | _, M => (none, M)
theorem ok_X0_remember (as : List mV) (M : mM) (h : pre_X0_remember as M) (_ : ∀ v ∈ as, okV v) : okR (fn_X0_remember as M).1 := by
  obtain ⟨k, o, rfl, -⟩ := h
  first | trivial | exact (by decide +kernel : kof 14 = 8)
theorem len_X0_remember (as : List mV) (M : mM) (h : pre_X0_remember as M) : (inL as).length ≤ 2 := by
  obtain ⟨k, o, rfl, -⟩ := h
  exact Nat.le_of_ble_eq_true rfl

theorem fl_223 : FLk "FairBlocks$Acts" 11 0 0 18 := ⟨RX0, TX0, 3, rfl, inX0, by decide, w_223, by decide, rfl⟩
theorem fl_224 : FLk "FairBlocks$Acts" 17 0 1 0 := ⟨RX0, TX0, 3, rfl, inX0, by decide, w_224, by decide, rfl⟩
theorem fl_225 : FLk "FairBlocks$Acts" 21 0 2 0 := ⟨RX0, TX0, 3, rfl, inX0, by decide, w_225, by decide, rfl⟩
theorem fp_224 : FPk "FairBlocks$Acts" 17 0 1 0 .int := ⟨RX0, TX0, 3, tyX0, rfl, inX0, by decide, w_224, by decide, rfl, tyX0_ok, nmX0, rfl, rfl⟩
theorem fp_225 : FPk "FairBlocks$Acts" 21 0 2 0 .int := ⟨RX0, TX0, 3, tyX0, rfl, inX0, by decide, w_225, by decide, rfl, tyX0_ok, nmX0, rfl, rfl⟩
theorem dX0_remember_0 : decode cX0_remember 0 = .ok (.aload_n 0, 1) := by decide +kernel
theorem dX0_remember_1 : decode cX0_remember 1 = .ok (.getfield 21, 3) := by decide +kernel
theorem dX0_remember_4 : decode cX0_remember 4 = .ok (.bipush 14, 2) := by decide +kernel
theorem dX0_remember_6 : decode cX0_remember 6 = .ok (.if_icmp .ne 26, 3) := by decide +kernel
theorem dX0_remember_9 : decode cX0_remember 9 = .ok (.aload_n 0, 1) := by decide +kernel
theorem dX0_remember_10 : decode cX0_remember 10 = .ok (.aload_n 0, 1) := by decide +kernel
theorem dX0_remember_11 : decode cX0_remember 11 = .ok (.getfield 17, 3) := by decide +kernel
theorem dX0_remember_14 : decode cX0_remember 14 = .ok (.iconst 1, 1) := by decide +kernel
theorem dX0_remember_15 : decode cX0_remember 15 = .ok (.iadd, 1) := by decide +kernel
theorem dX0_remember_16 : decode cX0_remember 16 = .ok (.bipush 14, 2) := by decide +kernel
theorem dX0_remember_18 : decode cX0_remember 18 = .ok (.irem, 1) := by decide +kernel
theorem dX0_remember_19 : decode cX0_remember 19 = .ok (.putfield 17, 3) := by decide +kernel
theorem dX0_remember_22 : decode cX0_remember 22 = .ok (.aload_n 0, 1) := by decide +kernel
theorem dX0_remember_23 : decode cX0_remember 23 = .ok (.dup, 1) := by decide +kernel
theorem dX0_remember_24 : decode cX0_remember 24 = .ok (.getfield 21, 3) := by decide +kernel
theorem dX0_remember_27 : decode cX0_remember 27 = .ok (.iconst 1, 1) := by decide +kernel
theorem dX0_remember_28 : decode cX0_remember 28 = .ok (.isub, 1) := by decide +kernel
theorem dX0_remember_29 : decode cX0_remember 29 = .ok (.putfield 21, 3) := by decide +kernel
theorem dX0_remember_32 : decode cX0_remember 32 = .ok (.aload_n 0, 1) := by decide +kernel
theorem dX0_remember_33 : decode cX0_remember 33 = .ok (.getfield 11, 3) := by decide +kernel
theorem dX0_remember_36 : decode cX0_remember 36 = .ok (.aload_n 0, 1) := by decide +kernel
theorem dX0_remember_37 : decode cX0_remember 37 = .ok (.getfield 17, 3) := by decide +kernel
theorem dX0_remember_40 : decode cX0_remember 40 = .ok (.aload_n 0, 1) := by decide +kernel
theorem dX0_remember_41 : decode cX0_remember 41 = .ok (.getfield 21, 3) := by decide +kernel
theorem dX0_remember_44 : decode cX0_remember 44 = .ok (.iadd, 1) := by decide +kernel
theorem dX0_remember_45 : decode cX0_remember 45 = .ok (.bipush 14, 2) := by decide +kernel
theorem dX0_remember_47 : decode cX0_remember 47 = .ok (.irem, 1) := by decide +kernel
theorem dX0_remember_48 : decode cX0_remember 48 = .ok (.aaload, 1) := by decide +kernel
theorem dX0_remember_49 : decode cX0_remember 49 = .ok (.aload_n 1, 1) := by decide +kernel
theorem dX0_remember_50 : decode cX0_remember 50 = .ok (.invokevirtual 25, 3) := by decide +kernel
theorem dX0_remember_53 : decode cX0_remember 53 = .ok (.aload_n 0, 1) := by decide +kernel
theorem dX0_remember_54 : decode cX0_remember 54 = .ok (.dup, 1) := by decide +kernel
theorem dX0_remember_55 : decode cX0_remember 55 = .ok (.getfield 21, 3) := by decide +kernel
theorem dX0_remember_58 : decode cX0_remember 58 = .ok (.iconst 1, 1) := by decide +kernel
theorem dX0_remember_59 : decode cX0_remember 59 = .ok (.iadd, 1) := by decide +kernel
theorem dX0_remember_60 : decode cX0_remember 60 = .ok (.putfield 21, 3) := by decide +kernel
theorem dX0_remember_63 : decode cX0_remember 63 = .ok (.return_, 1) := by decide +kernel
theorem mk_X0_remember : MVk yX0_remember "FairBlocks$Acts" cX0_remember 2 (Option.none : Option FieldType) 1 := ⟨w_416, w_414, w_415, w_8, rfl, by decide +kernel, by decide +kernel, by decide +kernel⟩
def BX0_remember_0 (G : Nat → KT) (Q : Option mV → mM → Prop) : KT := (s_aload 0 (s_geti 0 2 (s_iconst (14) (s_icmp (fun x y => x = y) ((s_aload 0 (s_aload 0 (s_geti 0 1 (s_iconst (1) (s_bin (fun x y => x + y) (s_iconst (14) (s_binG (fun x y => x - x / y * y) (s_puti 0 1 (s_aload 0 (s_dup (s_geti 0 2 (s_iconst (1) (s_bin (fun x y => x - y) (s_puti 0 2 (s_at G 32 [true, true])))))))))))))))) (s_at G 32 [true, true])))))
set_option maxRecDepth 4000 in
theorem bsX0_remember_0 {p : Program} {l : Launch} {e : Env} {s : State} {m : MethodId} {args : Array Value} {below : List Frame} {meth : Method} {c : Code} {D : va_G} {ca : Nat → ClassId} {ad : Nat → Nat} {A : Nat → Prop} {Q : Option mV → mM → Prop} (hX : CX p s m args meth c 2 cX0_remember "FairBlocks$Acts" D ca ad A) (hr : meth.sig.returnType = (Option.none : Option FieldType)) : ∀ lv st M, BX0_remember_0 (Gd p l e (rmD 2) s m args below meth c 2 D ca ad A 0 0 (MQ below (QC D ca ad A Q) args s 0 0 A)) Q lv st M → Gd p l e (rmD 2) s m args below meth c 2 D ca ad A 0 0 (MQ below (QC D ca ad A Q) args s 0 0 A) 0 lv st M :=
  (sd_aload_n hX dX0_remember_0 rfl (sd_geti hX fl_225 (by decide) dX0_remember_1 (sd_bipush hX dX0_remember_4 rfl (sd_icmp_ne hX dX0_remember_6 (by decide) sd_at (sd_aload_n hX dX0_remember_9 rfl (sd_aload_n hX dX0_remember_10 rfl (sd_geti hX fl_224 (by decide) dX0_remember_11 (sd_iconst hX dX0_remember_14 rfl (sd_iadd hX dX0_remember_15 (sd_bipush hX dX0_remember_16 rfl (sd_irem hX dX0_remember_18 (sd_puti hX fp_224 dX0_remember_19 (sd_aload_n hX dX0_remember_22 rfl (sd_dup hX dX0_remember_23 (sd_geti hX fl_225 (by decide) dX0_remember_24 (sd_iconst hX dX0_remember_27 rfl (sd_isub hX dX0_remember_28 (sd_puti hX fp_225 dX0_remember_29 sd_at))))))))))))))))))
def BX0_remember_32 (G : Nat → KT) (Q : Option mV → mM → Prop) : KT := (s_aload 0 (s_getr 0 15 (fun _ => 27) (s_aload 0 (s_geti 0 1 (s_aload 0 (s_geti 0 2 (s_bin (fun x y => x + y) (s_iconst (14) (s_binG (fun x y => x - x / y * y) (s_aaldS (s_aload 1 (s_callV 8 1 pre_X8_copyFrom fn_X8_copyFrom (s_aload 0 (s_dup (s_geti 0 2 (s_iconst (1) (s_bin (fun x y => x + y) (s_puti 0 2 (s_vret Q)))))))))))))))))))
set_option maxRecDepth 4000 in
theorem bsX0_remember_32 {p : Program} {l : Launch} {e : Env} {s : State} {m : MethodId} {args : Array Value} {below : List Frame} {meth : Method} {c : Code} {D : va_G} {ca : Nat → ClassId} {ad : Nat → Nat} {A : Nat → Prop} {Q : Option mV → mM → Prop} (hX : CX p s m args meth c 2 cX0_remember "FairBlocks$Acts" D ca ad A) (hr : meth.sig.returnType = (Option.none : Option FieldType)) : ∀ lv st M, BX0_remember_32 (Gd p l e (rmD 2) s m args below meth c 2 D ca ad A 0 0 (MQ below (QC D ca ad A Q) args s 0 0 A)) Q lv st M → Gd p l e (rmD 2) s m args below meth c 2 D ca ad A 0 0 (MQ below (QC D ca ad A Q) args s 0 0 A) 32 lv st M :=
  (sd_aload_n hX dX0_remember_32 rfl (sd_getr hX fl_223 (fun _ => rfl) (fun _ _ _ => by decide +kernel) dX0_remember_33 (sd_aload_n hX dX0_remember_36 rfl (sd_geti hX fl_224 (by decide) dX0_remember_37 (sd_aload_n hX dX0_remember_40 rfl (sd_geti hX fl_225 (by decide) dX0_remember_41 (sd_iadd hX dX0_remember_44 (sd_bipush hX dX0_remember_45 rfl (sd_irem hX dX0_remember_47 (sd_aaldS hX dX0_remember_48 (sd_aload_n hX dX0_remember_49 rfl (sd_callV hX (kd := 8) rfl (by decide) (ct_X8_copyFrom l) mk_X8_copyFrom w_417 ⟨⟨by decide, by decide⟩, by decide, by decide⟩ dX0_remember_50 (sd_aload_n hX dX0_remember_53 rfl (sd_dup hX dX0_remember_54 (sd_geti hX fl_225 (by decide) dX0_remember_55 (sd_iconst hX dX0_remember_58 rfl (sd_iadd hX dX0_remember_59 (sd_puti hX fp_225 dX0_remember_60 (sd_vret hX hr dX0_remember_63)))))))))))))))))))
set_option maxHeartbeats 400000 in
theorem pf_X0_remember (G : Nat → KT) (Q : Option mV → mM → Prop) (h0 : ∀ lv st M, BX0_remember_0 G Q lv st M → G 0 lv st M) (h32 : ∀ lv st M, BX0_remember_32 G Q lv st M → G 32 lv st M) (as : List mV) (M : mM) (ho : ∀ v ∈ as, okV v) (hp : pre_X0_remember as M) (hQ : Q (fn_X0_remember as M).1 (fn_X0_remember as M).2) : G 0 (inL as ++ List.replicate (2 - (inL as).length) none) [] M := by
  obtain ⟨k, o, rfl, hF, hA⟩ := hp
  obtain rfl : k = 26 := k0 (ho (.inr (.inr (0, k))) (by simp))
  have h27 : ln 27 = 14 := by decide +kernel
  have L : ∀ M : mM, OF M → (∃ f z, f < 14 ∧ z ≤ 13 ∧ M.1 26 1 = nI f ∧ M.1 26 2 = nI z) → Q none (remC (remB M o)) → G 32 [some (.inr (.inr (0, 26))), some (.inr (.inr (8, o)))] [] M := by
    intro M hF ⟨f, z, hf, hz, e1, e2⟩ hq
    (apply h32; simp only [BX0_remember_32, s_mth, s_mab, s_at, s_iconst, s_lconst, s_iload, s_lload, s_aload, s_istore, s_lstore, s_astore, s_iinc, s_bin, s_binG, s_un, s_lbin, s_lbinG, s_lsh, s_lcmp, s_i2l, s_l2i, s_dup, s_dup2, s_pop, s_if, s_icmp, s_geti, s_getl, s_getr, s_puti, s_putz, s_putl, s_iald, s_zald, s_iast, s_zast, s_aaldS, s_aaldU, s_gets, s_tald, s_tsw, tsw, s_iret, s_zret, s_lret, s_aret, s_vret, s_callV, s_callS, c1, nl1, keepL, csum, pushR, inL, List.getD_cons_zero, List.getD_cons_succ, List.set_cons_zero, List.set_cons_succ, List.cons_append, List.nil_append, List.append_nil, List.replicate, List.length_cons, List.length_nil, List.take_succ_cons, List.take_zero, List.drop_succ_cons, List.drop_zero, List.reverse_cons, List.reverse_nil, true_and, and_true, forall_const, not_true_eq_false, not_false_eq_true, false_implies, true_implies, implies_true, one0, m10, Nat.reduceAdd, Nat.reduceSub, Nat.reduceLeDiff, Nat.zero_add, Nat.add_zero, fn_X8_copyFrom])
    have e : M.1 26 1 + M.1 26 2 - (M.1 26 1 + M.1 26 2) / 14 * 14 = nI ((f + z) % 14) := by rw [e1, e2, nI_add]; exact rm14 (by omega)
    refine ⟨by decide, ?_, ⟨_, _, rfl, hF⟩, ?_⟩
    · rw [e, h27]; exact vp_in_nI (Nat.mod_lt _ (by decide)) (by decide)
    · simp only [remC, remB, rm] at hq
      exact hq
  have ha := remA_ac hA
  have hf := OF_remA hF
  simp only [fn_X0_remember] at hQ
  by_cases h : M.1 26 2 = 14
  · (apply h0; simp only [BX0_remember_0, s_mth, s_mab, s_at, s_iconst, s_lconst, s_iload, s_lload, s_aload, s_istore, s_lstore, s_astore, s_iinc, s_bin, s_binG, s_un, s_lbin, s_lbinG, s_lsh, s_lcmp, s_i2l, s_l2i, s_dup, s_dup2, s_pop, s_if, s_icmp, s_geti, s_getl, s_getr, s_puti, s_putz, s_putl, s_iald, s_zald, s_iast, s_zast, s_aaldS, s_aaldU, s_gets, s_tald, s_tsw, tsw, s_iret, s_zret, s_lret, s_aret, s_vret, s_callV, s_callS, c1, nl1, keepL, csum, pushR, inL, List.getD_cons_zero, List.getD_cons_succ, List.set_cons_zero, List.set_cons_succ, List.cons_append, List.nil_append, List.append_nil, List.replicate, List.length_cons, List.length_nil, List.take_succ_cons, List.take_zero, List.drop_succ_cons, List.drop_zero, List.reverse_cons, List.reverse_nil, true_and, and_true, forall_const, not_true_eq_false, not_false_eq_true, false_implies, true_implies, implies_true, one0, m10, Nat.reduceAdd, Nat.reduceSub, Nat.reduceLeDiff, Nat.zero_add, Nat.add_zero, fn_X8_copyFrom])
    refine ⟨fun _ => ⟨by decide, ?_⟩, fun g => absurd h g⟩
    refine L _ ?_ ?_ ?_
    · simpa [remA, h, mset_get, rm] using hf
    · simpa [remA, h, mset_get, rm] using ha
    · simpa [remA, h, mset_get, rm] using hQ
  · (apply h0; simp only [BX0_remember_0, s_mth, s_mab, s_at, s_iconst, s_lconst, s_iload, s_lload, s_aload, s_istore, s_lstore, s_astore, s_iinc, s_bin, s_binG, s_un, s_lbin, s_lbinG, s_lsh, s_lcmp, s_i2l, s_l2i, s_dup, s_dup2, s_pop, s_if, s_icmp, s_geti, s_getl, s_getr, s_puti, s_putz, s_putl, s_iald, s_zald, s_iast, s_zast, s_aaldS, s_aaldU, s_gets, s_tald, s_tsw, tsw, s_iret, s_zret, s_lret, s_aret, s_vret, s_callV, s_callS, c1, nl1, keepL, csum, pushR, inL, List.getD_cons_zero, List.getD_cons_succ, List.set_cons_zero, List.set_cons_succ, List.cons_append, List.nil_append, List.append_nil, List.replicate, List.length_cons, List.length_nil, List.take_succ_cons, List.take_zero, List.drop_succ_cons, List.drop_zero, List.reverse_cons, List.reverse_nil, true_and, and_true, forall_const, not_true_eq_false, not_false_eq_true, false_implies, true_implies, implies_true, one0, m10, Nat.reduceAdd, Nat.reduceSub, Nat.reduceLeDiff, Nat.zero_add, Nat.add_zero, fn_X8_copyFrom])
    refine ⟨fun g => absurd g h, fun _ => ?_⟩
    simp only [remA, if_neg h] at hf ha hQ
    exact L _ hf ha hQ
theorem ct_X0_remember (l : Launch) : Con l yX0_remember cX0_remember 2 (Option.none : Option FieldType) 2 pre_X0_remember fn_X0_remember := con_of (by decide +kernel) ok_X0_remember len_X0_remember (fun p e s m args below meth c D ca ad A as M hX hr hp ho => pf_X0_remember _ _ (bsX0_remember_0 hX hr) (bsX0_remember_32 hX hr) as M ho hp ⟨rfl, rfl⟩)
def tkA (M : mM) : mM := mset M 26 2 (M.1 26 2 - 1)
def tkB (M : mM) (o : Nat) : mM := if M.1 26 2 ≤ 0 then M else stc (tkA M) o (28 + 7 * (rm ((tkA M).1 26 1 + (tkA M).1 26 2) 14).toNatClampNeg)
def pre_X0_takeBack (as : List mV) (M : mM) : Prop := ∃ k o, as = [.inr (.inr (0, k)), .inr (.inr (8, o))] ∧ OF M ∧ AC M
def fn_X0_takeBack : List mV → mM → Option mV × mM
  | [.inr (.inr (_, k)), .inr (.inr (_, o))], M => (none, tkB M o)
  | _, M => (none, M)
theorem ok_X0_takeBack (as : List mV) (M : mM) (h : pre_X0_takeBack as M) (_ : ∀ v ∈ as, okV v) : okR (fn_X0_takeBack as M).1 := by
  obtain ⟨k, o, rfl, -⟩ := h
  first | trivial | exact (by decide +kernel : kof 14 = 8)
theorem len_X0_takeBack (as : List mV) (M : mM) (h : pre_X0_takeBack as M) : (inL as).length ≤ 2 := by
  obtain ⟨k, o, rfl, -⟩ := h
  exact Nat.le_of_ble_eq_true rfl


theorem dX0_takeBack_0 : decode cX0_takeBack 0 = .ok (.aload_n 0, 1) := by decide +kernel
theorem dX0_takeBack_1 : decode cX0_takeBack 1 = .ok (.getfield 21, 3) := by decide +kernel
theorem dX0_takeBack_4 : decode cX0_takeBack 4 = .ok (.ifCond .le 34, 3) := by decide +kernel
theorem dX0_takeBack_7 : decode cX0_takeBack 7 = .ok (.aload_n 0, 1) := by decide +kernel
theorem dX0_takeBack_8 : decode cX0_takeBack 8 = .ok (.dup, 1) := by decide +kernel
theorem dX0_takeBack_9 : decode cX0_takeBack 9 = .ok (.getfield 21, 3) := by decide +kernel
theorem dX0_takeBack_12 : decode cX0_takeBack 12 = .ok (.iconst 1, 1) := by decide +kernel
theorem dX0_takeBack_13 : decode cX0_takeBack 13 = .ok (.isub, 1) := by decide +kernel
theorem dX0_takeBack_14 : decode cX0_takeBack 14 = .ok (.putfield 21, 3) := by decide +kernel
theorem dX0_takeBack_17 : decode cX0_takeBack 17 = .ok (.aload_n 1, 1) := by decide +kernel
theorem dX0_takeBack_18 : decode cX0_takeBack 18 = .ok (.aload_n 0, 1) := by decide +kernel
theorem dX0_takeBack_19 : decode cX0_takeBack 19 = .ok (.getfield 11, 3) := by decide +kernel
theorem dX0_takeBack_22 : decode cX0_takeBack 22 = .ok (.aload_n 0, 1) := by decide +kernel
theorem dX0_takeBack_23 : decode cX0_takeBack 23 = .ok (.getfield 17, 3) := by decide +kernel
theorem dX0_takeBack_26 : decode cX0_takeBack 26 = .ok (.aload_n 0, 1) := by decide +kernel
theorem dX0_takeBack_27 : decode cX0_takeBack 27 = .ok (.getfield 21, 3) := by decide +kernel
theorem dX0_takeBack_30 : decode cX0_takeBack 30 = .ok (.iadd, 1) := by decide +kernel
theorem dX0_takeBack_31 : decode cX0_takeBack 31 = .ok (.bipush 14, 2) := by decide +kernel
theorem dX0_takeBack_33 : decode cX0_takeBack 33 = .ok (.irem, 1) := by decide +kernel
theorem dX0_takeBack_34 : decode cX0_takeBack 34 = .ok (.aaload, 1) := by decide +kernel
theorem dX0_takeBack_35 : decode cX0_takeBack 35 = .ok (.invokevirtual 25, 3) := by decide +kernel
theorem dX0_takeBack_38 : decode cX0_takeBack 38 = .ok (.return_, 1) := by decide +kernel
theorem mk_X0_takeBack : MVk yX0_takeBack "FairBlocks$Acts" cX0_takeBack 2 (Option.none : Option FieldType) 1 := ⟨w_501, w_499, w_500, w_8, rfl, by decide +kernel, by decide +kernel, by decide +kernel⟩
def BX0_takeBack_0 (G : Nat → KT) (Q : Option mV → mM → Prop) : KT := (s_aload 0 (s_geti 0 2 (s_if (fun x => x ≤ 0) (s_at G 38 [false, false]) (s_aload 0 (s_dup (s_geti 0 2 (s_iconst (1) (s_bin (fun x y => x - y) (s_puti 0 2 (s_aload 1 (s_aload 0 (s_getr 0 15 (fun _ => 27) (s_aload 0 (s_geti 0 1 (s_aload 0 (s_geti 0 2 (s_bin (fun x y => x + y) (s_iconst (14) (s_binG (fun x y => x - x / y * y) (s_aaldS (s_callV 8 1 pre_X8_copyFrom fn_X8_copyFrom (s_at G 38 [false, false]))))))))))))))))))))))
set_option maxRecDepth 4000 in
theorem bsX0_takeBack_0 {p : Program} {l : Launch} {e : Env} {s : State} {m : MethodId} {args : Array Value} {below : List Frame} {meth : Method} {c : Code} {D : va_G} {ca : Nat → ClassId} {ad : Nat → Nat} {A : Nat → Prop} {Q : Option mV → mM → Prop} (hX : CX p s m args meth c 2 cX0_takeBack "FairBlocks$Acts" D ca ad A) (hr : meth.sig.returnType = (Option.none : Option FieldType)) : ∀ lv st M, BX0_takeBack_0 (Gd p l e (rmD 2) s m args below meth c 2 D ca ad A 0 0 (MQ below (QC D ca ad A Q) args s 0 0 A)) Q lv st M → Gd p l e (rmD 2) s m args below meth c 2 D ca ad A 0 0 (MQ below (QC D ca ad A Q) args s 0 0 A) 0 lv st M :=
  (sd_aload_n hX dX0_takeBack_0 rfl (sd_geti hX fl_225 (by decide) dX0_takeBack_1 (sd_if_le hX dX0_takeBack_4 (by decide) sd_at (sd_aload_n hX dX0_takeBack_7 rfl (sd_dup hX dX0_takeBack_8 (sd_geti hX fl_225 (by decide) dX0_takeBack_9 (sd_iconst hX dX0_takeBack_12 rfl (sd_isub hX dX0_takeBack_13 (sd_puti hX fp_225 dX0_takeBack_14 (sd_aload_n hX dX0_takeBack_17 rfl (sd_aload_n hX dX0_takeBack_18 rfl (sd_getr hX fl_223 (fun _ => rfl) (fun _ _ _ => by decide +kernel) dX0_takeBack_19 (sd_aload_n hX dX0_takeBack_22 rfl (sd_geti hX fl_224 (by decide) dX0_takeBack_23 (sd_aload_n hX dX0_takeBack_26 rfl (sd_geti hX fl_225 (by decide) dX0_takeBack_27 (sd_iadd hX dX0_takeBack_30 (sd_bipush hX dX0_takeBack_31 rfl (sd_irem hX dX0_takeBack_33 (sd_aaldS hX dX0_takeBack_34 (sd_callV hX (kd := 8) rfl (by decide) (ct_X8_copyFrom l) mk_X8_copyFrom w_417 ⟨⟨by decide, by decide⟩, by decide, by decide⟩ dX0_takeBack_35 sd_at)))))))))))))))))))))
def BX0_takeBack_38 (G : Nat → KT) (Q : Option mV → mM → Prop) : KT := (s_vret Q)
set_option maxRecDepth 4000 in
theorem bsX0_takeBack_38 {p : Program} {l : Launch} {e : Env} {s : State} {m : MethodId} {args : Array Value} {below : List Frame} {meth : Method} {c : Code} {D : va_G} {ca : Nat → ClassId} {ad : Nat → Nat} {A : Nat → Prop} {Q : Option mV → mM → Prop} (hX : CX p s m args meth c 2 cX0_takeBack "FairBlocks$Acts" D ca ad A) (hr : meth.sig.returnType = (Option.none : Option FieldType)) : ∀ lv st M, BX0_takeBack_38 (Gd p l e (rmD 2) s m args below meth c 2 D ca ad A 0 0 (MQ below (QC D ca ad A Q) args s 0 0 A)) Q lv st M → Gd p l e (rmD 2) s m args below meth c 2 D ca ad A 0 0 (MQ below (QC D ca ad A Q) args s 0 0 A) 38 lv st M :=
  sd_vret hX hr dX0_takeBack_38
set_option maxHeartbeats 400000 in
theorem pf_X0_takeBack (G : Nat → KT) (Q : Option mV → mM → Prop) (h0 : ∀ lv st M, BX0_takeBack_0 G Q lv st M → G 0 lv st M) (h38 : ∀ lv st M, BX0_takeBack_38 G Q lv st M → G 38 lv st M) (as : List mV) (M : mM) (ho : ∀ v ∈ as, okV v) (hp : pre_X0_takeBack as M) (hQ : Q (fn_X0_takeBack as M).1 (fn_X0_takeBack as M).2) : G 0 (inL as ++ List.replicate (2 - (inL as).length) none) [] M := by
  obtain ⟨k, o, rfl, hF, f, z, hf, hz, e1, e2⟩ := hp
  obtain rfl : k = 26 := k0 (ho (.inr (.inr (0, k))) (by simp))
  have h27 : ln 27 = 14 := by decide +kernel
  simp only [fn_X0_takeBack, tkB] at hQ
  (apply h0; simp only [BX0_takeBack_0, s_mth, s_mab, s_at, s_iconst, s_lconst, s_iload, s_lload, s_aload, s_istore, s_lstore, s_astore, s_iinc, s_bin, s_binG, s_un, s_lbin, s_lbinG, s_lsh, s_lcmp, s_i2l, s_l2i, s_dup, s_dup2, s_pop, s_if, s_icmp, s_geti, s_getl, s_getr, s_puti, s_putz, s_putl, s_iald, s_zald, s_iast, s_zast, s_aaldS, s_aaldU, s_gets, s_tald, s_tsw, tsw, s_iret, s_zret, s_lret, s_aret, s_vret, s_callV, s_callS, c1, nl1, keepL, csum, pushR, inL, List.getD_cons_zero, List.getD_cons_succ, List.set_cons_zero, List.set_cons_succ, List.cons_append, List.nil_append, List.append_nil, List.replicate, List.length_cons, List.length_nil, List.take_succ_cons, List.take_zero, List.drop_succ_cons, List.drop_zero, List.reverse_cons, List.reverse_nil, true_and, and_true, forall_const, not_true_eq_false, not_false_eq_true, false_implies, true_implies, implies_true, one0, m10, Nat.reduceAdd, Nat.reduceSub, Nat.reduceLeDiff, Nat.zero_add, Nat.add_zero, fn_X8_copyFrom])
  refine ⟨fun h => ?_, fun h => ⟨by decide, ?_, ⟨_, _, rfl, OF_mset hF (by decide +kernel)⟩, ?_⟩⟩
  · (apply h38; simp only [BX0_takeBack_38, s_mth, s_mab, s_at, s_iconst, s_lconst, s_iload, s_lload, s_aload, s_istore, s_lstore, s_astore, s_iinc, s_bin, s_binG, s_un, s_lbin, s_lbinG, s_lsh, s_lcmp, s_i2l, s_l2i, s_dup, s_dup2, s_pop, s_if, s_icmp, s_geti, s_getl, s_getr, s_puti, s_putz, s_putl, s_iald, s_zald, s_iast, s_zast, s_aaldS, s_aaldU, s_gets, s_tald, s_tsw, tsw, s_iret, s_zret, s_lret, s_aret, s_vret, s_callV, s_callS, c1, nl1, keepL, csum, pushR, inL, List.getD_cons_zero, List.getD_cons_succ, List.set_cons_zero, List.set_cons_succ, List.cons_append, List.nil_append, List.append_nil, List.replicate, List.length_cons, List.length_nil, List.take_succ_cons, List.take_zero, List.drop_succ_cons, List.drop_zero, List.reverse_cons, List.reverse_nil, true_and, and_true, forall_const, not_true_eq_false, not_false_eq_true, false_implies, true_implies, implies_true, one0, m10, Nat.reduceAdd, Nat.reduceSub, Nat.reduceLeDiff, Nat.zero_add, Nat.add_zero, fn_X8_copyFrom])
    rw [if_pos h] at hQ
    exact hQ
  · have hz0 : 0 < z := by
      rcases Nat.eq_zero_or_pos z with g | g
      · subst g; rw [e2] at h; exact absurd (by decide) h
      · exact g
    obtain ⟨y, rfl⟩ : ∃ y, z = y + 1 := ⟨z - 1, by omega⟩
    have ea : (mset M 26 2 (M.1 26 2 - 1)).1 26 1 = nI f := by rw [mset_get, if_neg (by decide)]; exact e1
    have eb : (mset M 26 2 (M.1 26 2 - 1)).1 26 2 = nI y := by rw [mset_get, if_pos ⟨rfl, rfl⟩, e2, nI_pred]
    rw [ea, eb, nI_add, h27]
    rw [show nI (f + y) - nI (f + y) / 14 * 14 = nI ((f + y) % 14) from rm14 (by omega)]
    exact vp_in_nI (Nat.mod_lt _ (by decide)) (by decide)
  · (apply h38; simp only [BX0_takeBack_38, s_mth, s_mab, s_at, s_iconst, s_lconst, s_iload, s_lload, s_aload, s_istore, s_lstore, s_astore, s_iinc, s_bin, s_binG, s_un, s_lbin, s_lbinG, s_lsh, s_lcmp, s_i2l, s_l2i, s_dup, s_dup2, s_pop, s_if, s_icmp, s_geti, s_getl, s_getr, s_puti, s_putz, s_putl, s_iald, s_zald, s_iast, s_zast, s_aaldS, s_aaldU, s_gets, s_tald, s_tsw, tsw, s_iret, s_zret, s_lret, s_aret, s_vret, s_callV, s_callS, c1, nl1, keepL, csum, pushR, inL, List.getD_cons_zero, List.getD_cons_succ, List.set_cons_zero, List.set_cons_succ, List.cons_append, List.nil_append, List.append_nil, List.replicate, List.length_cons, List.length_nil, List.take_succ_cons, List.take_zero, List.drop_succ_cons, List.drop_zero, List.reverse_cons, List.reverse_nil, true_and, and_true, forall_const, not_true_eq_false, not_false_eq_true, false_implies, true_implies, implies_true, one0, m10, Nat.reduceAdd, Nat.reduceSub, Nat.reduceLeDiff, Nat.zero_add, Nat.add_zero, fn_X8_copyFrom])
    rw [if_neg h] at hQ
    simp only [tkA, rm] at hQ
    exact hQ
theorem ct_X0_takeBack (l : Launch) : Con l yX0_takeBack cX0_takeBack 2 (Option.none : Option FieldType) 2 pre_X0_takeBack fn_X0_takeBack := con_of (by decide +kernel) ok_X0_takeBack len_X0_takeBack (fun p e s m args below meth c D ca ad A as M hX hr hp ho => pf_X0_takeBack _ _ (bsX0_takeBack_0 hX hr) (bsX0_takeBack_38 hX hr) as M ho hp ⟨rfl, rfl⟩)
def pre_X0_forgetAll (as : List mV) (M : mM) : Prop := ∃ k, as = [.inr (.inr (0, k))]
def fn_X0_forgetAll : List mV → mM → Option mV × mM
  | [.inr (.inr (_, k))], M => (none, mset M k 2 0)
  | _, M => (none, M)
theorem ok_X0_forgetAll (as : List mV) (M : mM) (h : pre_X0_forgetAll as M) (_ : ∀ v ∈ as, okV v) : okR (fn_X0_forgetAll as M).1 := by
  obtain ⟨k, rfl⟩ := h
  first | trivial | exact (by decide +kernel : kof 14 = 8)
theorem len_X0_forgetAll (as : List mV) (M : mM) (h : pre_X0_forgetAll as M) : (inL as).length ≤ 1 := by
  obtain ⟨k, rfl⟩ := h
  exact Nat.le_of_ble_eq_true rfl


theorem dX0_forgetAll_0 : decode cX0_forgetAll 0 = .ok (.aload_n 0, 1) := by decide +kernel
theorem dX0_forgetAll_1 : decode cX0_forgetAll 1 = .ok (.iconst 0, 1) := by decide +kernel
theorem dX0_forgetAll_2 : decode cX0_forgetAll 2 = .ok (.putfield 21, 3) := by decide +kernel
theorem dX0_forgetAll_5 : decode cX0_forgetAll 5 = .ok (.return_, 1) := by decide +kernel
theorem mk_X0_forgetAll : MVk yX0_forgetAll "FairBlocks$Acts" cX0_forgetAll 1 (Option.none : Option FieldType) 0 := ⟨w_392, w_390, w_391, w_8, rfl, by decide +kernel, by decide +kernel, by decide +kernel⟩
def BX0_forgetAll_0 (G : Nat → KT) (Q : Option mV → mM → Prop) : KT := (s_aload 0 (s_iconst (0) (s_puti 0 2 (s_vret Q))))
set_option maxRecDepth 4000 in
theorem bsX0_forgetAll_0 {p : Program} {l : Launch} {e : Env} {s : State} {m : MethodId} {args : Array Value} {below : List Frame} {meth : Method} {c : Code} {D : va_G} {ca : Nat → ClassId} {ad : Nat → Nat} {A : Nat → Prop} {Q : Option mV → mM → Prop} (hX : CX p s m args meth c 1 cX0_forgetAll "FairBlocks$Acts" D ca ad A) (hr : meth.sig.returnType = (Option.none : Option FieldType)) : ∀ lv st M, BX0_forgetAll_0 (Gd p l e (rmD 0) s m args below meth c 1 D ca ad A 0 0 (MQ below (QC D ca ad A Q) args s 0 0 A)) Q lv st M → Gd p l e (rmD 0) s m args below meth c 1 D ca ad A 0 0 (MQ below (QC D ca ad A Q) args s 0 0 A) 0 lv st M :=
  (sd_aload_n hX dX0_forgetAll_0 rfl (sd_iconst hX dX0_forgetAll_1 rfl (sd_puti hX fp_225 dX0_forgetAll_2 (sd_vret hX hr dX0_forgetAll_5))))
set_option maxHeartbeats 400000 in
theorem pf_X0_forgetAll (G : Nat → KT) (Q : Option mV → mM → Prop) (h0 : ∀ lv st M, BX0_forgetAll_0 G Q lv st M → G 0 lv st M) (as : List mV) (M : mM) (ho : ∀ v ∈ as, okV v) (hp : pre_X0_forgetAll as M) (hQ : Q (fn_X0_forgetAll as M).1 (fn_X0_forgetAll as M).2) : G 0 (inL as ++ List.replicate (1 - (inL as).length) none) [] M := by
  obtain ⟨k, rfl⟩ := hp
  (apply h0; simp only [BX0_forgetAll_0, s_mth, s_mab, s_at, s_iconst, s_lconst, s_iload, s_lload, s_aload, s_istore, s_lstore, s_astore, s_iinc, s_bin, s_binG, s_un, s_lbin, s_lbinG, s_lsh, s_lcmp, s_i2l, s_l2i, s_dup, s_dup2, s_pop, s_if, s_icmp, s_geti, s_getl, s_getr, s_puti, s_putz, s_putl, s_iald, s_zald, s_iast, s_zast, s_aaldS, s_aaldU, s_gets, s_tald, s_tsw, tsw, s_iret, s_zret, s_lret, s_aret, s_vret, s_callV, s_callS, c1, nl1, keepL, csum, pushR, inL, List.getD_cons_zero, List.getD_cons_succ, List.set_cons_zero, List.set_cons_succ, List.cons_append, List.nil_append, List.append_nil, List.replicate, List.length_cons, List.length_nil, List.take_succ_cons, List.take_zero, List.drop_succ_cons, List.drop_zero, List.reverse_cons, List.reverse_nil, true_and, and_true, forall_const, not_true_eq_false, not_false_eq_true, false_implies, true_implies, implies_true, one0, m10, Nat.reduceAdd, Nat.reduceSub, Nat.reduceLeDiff, Nat.zero_add, Nat.add_zero])
  exact hQ
theorem ct_X0_forgetAll (l : Launch) : Con l yX0_forgetAll cX0_forgetAll 1 (Option.none : Option FieldType) 0 pre_X0_forgetAll fn_X0_forgetAll := con_of (by decide +kernel) ok_X0_forgetAll len_X0_forgetAll (fun p e s m args below meth c D ca ad A as M hX hr hp ho => pf_X0_forgetAll _ _ (bsX0_forgetAll_0 hX hr) as M ho hp ⟨rfl, rfl⟩)
def pre_X1_freshTrial (as : List mV) (M : mM) : Prop := ∃ k, as = [.inr (.inr (1, k))] ∧ OF M
def fn_X1_freshTrial : List mV → mM → Option mV × mM
  | [.inr (.inr (_, k))], M => (some (.inr (.inr (8, 14))), stc M 14 7)
  | _, M => (none, M)
theorem ok_X1_freshTrial (as : List mV) (M : mM) (h : pre_X1_freshTrial as M) (_ : ∀ v ∈ as, okV v) : okR (fn_X1_freshTrial as M).1 := by
  obtain ⟨k, rfl, -⟩ := h
  first | trivial | exact (by decide +kernel : kof 14 = 8)
theorem len_X1_freshTrial (as : List mV) (M : mM) (h : pre_X1_freshTrial as M) : (inL as).length ≤ 1 := by
  obtain ⟨k, rfl, -⟩ := h
  exact Nat.le_of_ble_eq_true rfl

theorem fl_193 : FLk "FairBlocks$Bench" 19 1 1 11 := ⟨RX1, TX1, 4, rfl, inX1, by decide, w_193, by decide, rfl⟩
theorem fl_198 : FLk "FairBlocks$Bench" 23 1 2 11 := ⟨RX1, TX1, 4, rfl, inX1, by decide, w_198, by decide, rfl⟩
theorem dX1_freshTrial_0 : decode cX1_freshTrial 0 = .ok (.aload_n 0, 1) := by decide +kernel
theorem dX1_freshTrial_1 : decode cX1_freshTrial 1 = .ok (.getfield 23, 3) := by decide +kernel
theorem dX1_freshTrial_4 : decode cX1_freshTrial 4 = .ok (.aload_n 0, 1) := by decide +kernel
theorem dX1_freshTrial_5 : decode cX1_freshTrial 5 = .ok (.getfield 19, 3) := by decide +kernel
theorem dX1_freshTrial_8 : decode cX1_freshTrial 8 = .ok (.invokevirtual 35, 3) := by decide +kernel
theorem dX1_freshTrial_11 : decode cX1_freshTrial 11 = .ok (.aload_n 0, 1) := by decide +kernel
theorem dX1_freshTrial_12 : decode cX1_freshTrial 12 = .ok (.getfield 23, 3) := by decide +kernel
theorem dX1_freshTrial_15 : decode cX1_freshTrial 15 = .ok (.areturn, 1) := by decide +kernel
theorem mk_X1_freshTrial : MVk yX1_freshTrial "FairBlocks$Bench" cX1_freshTrial 1 (Option.some (FieldType.object "FairBlocks$Standing")) 0 := ⟨w_509, w_507, w_508, w_3, rfl, by decide +kernel, by decide +kernel, by decide +kernel⟩
def BX1_freshTrial_0 (G : Nat → KT) (Q : Option mV → mM → Prop) : KT := (s_aload 0 (s_getr 1 8 (fun _ => 14) (s_aload 0 (s_getr 1 8 (fun _ => 7) (s_callV 8 1 pre_X8_copyFrom fn_X8_copyFrom (s_aload 0 (s_getr 1 8 (fun _ => 14) (s_aret Q))))))))
set_option maxRecDepth 4000 in
theorem bsX1_freshTrial_0 {p : Program} {l : Launch} {e : Env} {s : State} {m : MethodId} {args : Array Value} {below : List Frame} {meth : Method} {c : Code} {D : va_G} {ca : Nat → ClassId} {ad : Nat → Nat} {A : Nat → Prop} {Q : Option mV → mM → Prop} (hX : CX p s m args meth c 1 cX1_freshTrial "FairBlocks$Bench" D ca ad A) (hr : meth.sig.returnType = (Option.some (FieldType.object "FairBlocks$Standing"))) : ∀ lv st M, BX1_freshTrial_0 (Gd p l e (rmD 2) s m args below meth c 1 D ca ad A 0 0 (MQ below (QC D ca ad A Q) args s 0 0 A)) Q lv st M → Gd p l e (rmD 2) s m args below meth c 1 D ca ad A 0 0 (MQ below (QC D ca ad A Q) args s 0 0 A) 0 lv st M :=
  (sd_aload_n hX dX1_freshTrial_0 rfl (sd_getr hX fl_198 (fun _ => rfl) (fun _ _ _ => by decide +kernel) dX1_freshTrial_1 (sd_aload_n hX dX1_freshTrial_4 rfl (sd_getr hX fl_193 (fun _ => rfl) (fun _ _ _ => by decide +kernel) dX1_freshTrial_5 (sd_callV hX (kd := 8) rfl (by decide) (ct_X8_copyFrom l) mk_X8_copyFrom w_510 ⟨⟨by decide, by decide⟩, by decide, by decide⟩ dX1_freshTrial_8 (sd_aload_n hX dX1_freshTrial_11 rfl (sd_getr hX fl_198 (fun _ => rfl) (fun _ _ _ => by decide +kernel) dX1_freshTrial_12 (sd_aret hX hr dX1_freshTrial_15))))))))
set_option maxHeartbeats 400000 in
theorem pf_X1_freshTrial (G : Nat → KT) (Q : Option mV → mM → Prop) (h0 : ∀ lv st M, BX1_freshTrial_0 G Q lv st M → G 0 lv st M) (as : List mV) (M : mM) (ho : ∀ v ∈ as, okV v) (hp : pre_X1_freshTrial as M) (hQ : Q (fn_X1_freshTrial as M).1 (fn_X1_freshTrial as M).2) : G 0 (inL as ++ List.replicate (1 - (inL as).length) none) [] M := by
  obtain ⟨k, rfl, hF⟩ := hp
  (apply h0; simp only [BX1_freshTrial_0, s_mth, s_mab, s_at, s_iconst, s_lconst, s_iload, s_lload, s_aload, s_istore, s_lstore, s_astore, s_iinc, s_bin, s_binG, s_un, s_lbin, s_lbinG, s_lsh, s_lcmp, s_i2l, s_l2i, s_dup, s_dup2, s_pop, s_if, s_icmp, s_geti, s_getl, s_getr, s_puti, s_putz, s_putl, s_iald, s_zald, s_iast, s_zast, s_aaldS, s_aaldU, s_gets, s_tald, s_tsw, tsw, s_iret, s_zret, s_lret, s_aret, s_vret, s_callV, s_callS, c1, nl1, keepL, csum, pushR, inL, List.getD_cons_zero, List.getD_cons_succ, List.set_cons_zero, List.set_cons_succ, List.cons_append, List.nil_append, List.append_nil, List.replicate, List.length_cons, List.length_nil, List.take_succ_cons, List.take_zero, List.drop_succ_cons, List.drop_zero, List.reverse_cons, List.reverse_nil, true_and, and_true, forall_const, not_true_eq_false, not_false_eq_true, false_implies, true_implies, implies_true, one0, m10, Nat.reduceAdd, Nat.reduceSub, Nat.reduceLeDiff, Nat.zero_add, Nat.add_zero, fn_X8_copyFrom])
  refine ⟨⟨_, _, rfl, hF⟩, ?_⟩
  exact hQ
theorem ct_X1_freshTrial (l : Launch) : Con l yX1_freshTrial cX1_freshTrial 1 (Option.some (FieldType.object "FairBlocks$Standing")) 2 pre_X1_freshTrial fn_X1_freshTrial := con_of (by decide +kernel) ok_X1_freshTrial len_X1_freshTrial (fun p e s m args below meth c D ca ad A as M hX hr hp ho => pf_X1_freshTrial _ _ (bsX1_freshTrial_0 hX hr) as M ho hp ⟨rfl, rfl⟩)
end
section
/-! Scheduler -/
theorem kne {a b : Nat} (h : kof a ≠ kof b) : a ≠ b := fun e => h (by rw [e])
theorem l22 : ln 22 = 5 := by decide +kernel
theorem l23 : ln 23 = 5 := by decide +kernel
theorem l24 : ln 24 = 5 := by decide +kernel
theorem l25 : ln 25 = 4 := by decide +kernel
theorem mset_s {M : mM} {k j : Nat} {v : Int32} : (mset M k j v).1 k j = v := by rw [mset_get, if_pos ⟨rfl, rfl⟩]
theorem mset_o {M : mM} {k j b : Nat} {v : Int32} (h : b ≠ j) : (mset M k j v).1 k b = M.1 k b := by rw [mset_get, if_neg (fun g => h g.2)]
def pre_X6_holderOf (as : List mV) (M : mM) : Prop := ∃ g b, as = [.inr (.inr (6, g)), .inl b]
def fn_X6_holderOf : List mV → mM → Option mV × mM
  | [.inr (.inr (_, g)), .inl b], M => (some (.inl (if wi b 0 3 = 0 then -9 else M.1 25 b.toNatClampNeg)), M)
  | _, M => (none, M)
theorem ok_X6_holderOf (as : List mV) (M : mM) (h : pre_X6_holderOf as M) (_ : ∀ v ∈ as, okV v) : okR (fn_X6_holderOf as M).1 := by
  obtain ⟨g, b, rfl⟩ := h
  first | trivial | exact (by decide +kernel : kof 14 = 8)
theorem len_X6_holderOf (as : List mV) (M : mM) (h : pre_X6_holderOf as M) : (inL as).length ≤ 2 := by
  obtain ⟨g, b, rfl⟩ := h
  exact Nat.le_of_ble_eq_true rfl

theorem fl_175 : FLk "FairBlocks$Scheduler" 21 6 4 16 := ⟨RX6, TX6, 5, rfl, inX6, by decide, w_175, by decide, rfl⟩
theorem dX6_holderOf_0 : decode cX6_holderOf 0 = .ok (.iload_n 1, 1) := by decide +kernel
theorem dX6_holderOf_1 : decode cX6_holderOf 1 = .ok (.iconst 0, 1) := by decide +kernel
theorem dX6_holderOf_2 : decode cX6_holderOf 2 = .ok (.iconst 3, 1) := by decide +kernel
theorem dX6_holderOf_3 : decode cX6_holderOf 3 = .ok (.invokestatic 62, 3) := by decide +kernel
theorem dX6_holderOf_6 : decode cX6_holderOf 6 = .ok (.ifCond .eq 12, 3) := by decide +kernel
theorem dX6_holderOf_9 : decode cX6_holderOf 9 = .ok (.aload_n 0, 1) := by decide +kernel
theorem dX6_holderOf_10 : decode cX6_holderOf 10 = .ok (.getfield 21, 3) := by decide +kernel
theorem dX6_holderOf_13 : decode cX6_holderOf 13 = .ok (.iload_n 1, 1) := by decide +kernel
theorem dX6_holderOf_14 : decode cX6_holderOf 14 = .ok (.iaload, 1) := by decide +kernel
theorem dX6_holderOf_15 : decode cX6_holderOf 15 = .ok (.goto 5, 3) := by decide +kernel
theorem dX6_holderOf_18 : decode cX6_holderOf 18 = .ok (.bipush (-9), 2) := by decide +kernel
theorem dX6_holderOf_20 : decode cX6_holderOf 20 = .ok (.ireturn, 1) := by decide +kernel
theorem mk_X6_holderOf : MVk yX6_holderOf "FairBlocks$Scheduler" cX6_holderOf 2 (Option.some FieldType.int) 1 := ⟨w_519, w_517, w_518, w_7, rfl, by decide +kernel, by decide +kernel, by decide +kernel⟩
def BX6_holderOf_0 (G : Nat → KT) (Q : Option mV → mM → Prop) : KT := (s_iload 1 (s_iconst (0) (s_iconst (3) (s_callS 3 pre_X11_within fn_X11_within (s_if (fun x => x = 0) (s_at G 18 [false, false]) (s_aload 0 (s_getr 6 13 (fun _ => 25) (s_iload 1 (s_iald (s_at G 20 [false, false]))))))))))
set_option maxRecDepth 4000 in
theorem bsX6_holderOf_0 {p : Program} {l : Launch} {e : Env} {s : State} {m : MethodId} {args : Array Value} {below : List Frame} {meth : Method} {c : Code} {D : va_G} {ca : Nat → ClassId} {ad : Nat → Nat} {A : Nat → Prop} {Q : Option mV → mM → Prop} (hX : CX p s m args meth c 2 cX6_holderOf "FairBlocks$Scheduler" D ca ad A) (hr : meth.sig.returnType = (Option.some FieldType.int)) : ∀ lv st M, BX6_holderOf_0 (Gd p l e (rmD 1) s m args below meth c 2 D ca ad A 0 0 (MQ below (QC D ca ad A Q) args s 0 0 A)) Q lv st M → Gd p l e (rmD 1) s m args below meth c 2 D ca ad A 0 0 (MQ below (QC D ca ad A Q) args s 0 0 A) 0 lv st M :=
  (sd_iload_n hX dX6_holderOf_0 rfl (sd_iconst hX dX6_holderOf_1 rfl (sd_iconst hX dX6_holderOf_2 rfl (sd_callSN hX (ct_X11_within l) mk_X11_within nw_6 ⟨⟨by decide, by decide⟩, by decide, by decide⟩ dX6_holderOf_3 (sd_if_eq hX dX6_holderOf_6 (by decide) sd_at (sd_aload_n hX dX6_holderOf_9 rfl (sd_getr hX fl_175 (fun _ => rfl) (fun _ _ _ => by decide +kernel) dX6_holderOf_10 (sd_iload_n hX dX6_holderOf_13 rfl (sd_iald hX dX6_holderOf_14 (sd_goto hX dX6_holderOf_15 (by decide) sd_at))))))))))
def BX6_holderOf_18 (G : Nat → KT) (Q : Option mV → mM → Prop) : KT := (s_iconst (-9) (s_at G 20 [false, false]))
set_option maxRecDepth 4000 in
theorem bsX6_holderOf_18 {p : Program} {l : Launch} {e : Env} {s : State} {m : MethodId} {args : Array Value} {below : List Frame} {meth : Method} {c : Code} {D : va_G} {ca : Nat → ClassId} {ad : Nat → Nat} {A : Nat → Prop} {Q : Option mV → mM → Prop} (hX : CX p s m args meth c 2 cX6_holderOf "FairBlocks$Scheduler" D ca ad A) (hr : meth.sig.returnType = (Option.some FieldType.int)) : ∀ lv st M, BX6_holderOf_18 (Gd p l e (rmD 1) s m args below meth c 2 D ca ad A 0 0 (MQ below (QC D ca ad A Q) args s 0 0 A)) Q lv st M → Gd p l e (rmD 1) s m args below meth c 2 D ca ad A 0 0 (MQ below (QC D ca ad A Q) args s 0 0 A) 18 lv st M :=
  (sd_bipush hX dX6_holderOf_18 rfl sd_at)
def BX6_holderOf_20 (G : Nat → KT) (Q : Option mV → mM → Prop) : KT := (s_iret Q)
set_option maxRecDepth 4000 in
theorem bsX6_holderOf_20 {p : Program} {l : Launch} {e : Env} {s : State} {m : MethodId} {args : Array Value} {below : List Frame} {meth : Method} {c : Code} {D : va_G} {ca : Nat → ClassId} {ad : Nat → Nat} {A : Nat → Prop} {Q : Option mV → mM → Prop} (hX : CX p s m args meth c 2 cX6_holderOf "FairBlocks$Scheduler" D ca ad A) (hr : meth.sig.returnType = (Option.some FieldType.int)) : ∀ lv st M, BX6_holderOf_20 (Gd p l e (rmD 1) s m args below meth c 2 D ca ad A 0 0 (MQ below (QC D ca ad A Q) args s 0 0 A)) Q lv st M → Gd p l e (rmD 1) s m args below meth c 2 D ca ad A 0 0 (MQ below (QC D ca ad A Q) args s 0 0 A) 20 lv st M :=
  sd_iret hX hr dX6_holderOf_20
set_option maxHeartbeats 400000 in
theorem pf_X6_holderOf (G : Nat → KT) (Q : Option mV → mM → Prop) (h0 : ∀ lv st M, BX6_holderOf_0 G Q lv st M → G 0 lv st M) (h18 : ∀ lv st M, BX6_holderOf_18 G Q lv st M → G 18 lv st M) (h20 : ∀ lv st M, BX6_holderOf_20 G Q lv st M → G 20 lv st M) (as : List mV) (M : mM) (ho : ∀ v ∈ as, okV v) (hp : pre_X6_holderOf as M) (hQ : Q (fn_X6_holderOf as M).1 (fn_X6_holderOf as M).2) : G 0 (inL as ++ List.replicate (2 - (inL as).length) none) [] M := by
  obtain ⟨g, b, rfl⟩ := hp
  simp only [fn_X6_holderOf] at hQ
  (apply h0; simp only [BX6_holderOf_0, s_mth, s_mab, s_at, s_iconst, s_lconst, s_iload, s_lload, s_aload, s_istore, s_lstore, s_astore, s_iinc, s_bin, s_binG, s_un, s_lbin, s_lbinG, s_lsh, s_lcmp, s_i2l, s_l2i, s_dup, s_dup2, s_pop, s_if, s_icmp, s_geti, s_getl, s_getr, s_puti, s_putz, s_putl, s_iald, s_zald, s_iast, s_zast, s_aaldS, s_aaldU, s_gets, s_tald, s_tsw, tsw, s_iret, s_zret, s_lret, s_aret, s_vret, s_callV, s_callS, c1, nl1, keepL, csum, pushR, inL, List.getD_cons_zero, List.getD_cons_succ, List.set_cons_zero, List.set_cons_succ, List.cons_append, List.nil_append, List.append_nil, List.replicate, List.length_cons, List.length_nil, List.take_succ_cons, List.take_zero, List.drop_succ_cons, List.drop_zero, List.reverse_cons, List.reverse_nil, true_and, and_true, forall_const, not_true_eq_false, not_false_eq_true, false_implies, true_implies, implies_true, one0, m10, Nat.reduceAdd, Nat.reduceSub, Nat.reduceLeDiff, Nat.zero_add, Nat.add_zero, fn_X11_within])
  refine ⟨⟨_, _, _, rfl⟩, fun h => ?_, fun h => ⟨?_, ?_⟩⟩
  · (apply h18; simp only [BX6_holderOf_18, s_mth, s_mab, s_at, s_iconst, s_lconst, s_iload, s_lload, s_aload, s_istore, s_lstore, s_astore, s_iinc, s_bin, s_binG, s_un, s_lbin, s_lbinG, s_lsh, s_lcmp, s_i2l, s_l2i, s_dup, s_dup2, s_pop, s_if, s_icmp, s_geti, s_getl, s_getr, s_puti, s_putz, s_putl, s_iald, s_zald, s_iast, s_zast, s_aaldS, s_aaldU, s_gets, s_tald, s_tsw, tsw, s_iret, s_zret, s_lret, s_aret, s_vret, s_callV, s_callS, c1, nl1, keepL, csum, pushR, inL, List.getD_cons_zero, List.getD_cons_succ, List.set_cons_zero, List.set_cons_succ, List.cons_append, List.nil_append, List.append_nil, List.replicate, List.length_cons, List.length_nil, List.take_succ_cons, List.take_zero, List.drop_succ_cons, List.drop_zero, List.reverse_cons, List.reverse_nil, true_and, and_true, forall_const, not_true_eq_false, not_false_eq_true, false_implies, true_implies, implies_true, one0, m10, Nat.reduceAdd, Nat.reduceSub, Nat.reduceLeDiff, Nat.zero_add, Nat.add_zero, fn_X11_within])
    (apply h20; simp only [BX6_holderOf_20, s_mth, s_mab, s_at, s_iconst, s_lconst, s_iload, s_lload, s_aload, s_istore, s_lstore, s_astore, s_iinc, s_bin, s_binG, s_un, s_lbin, s_lbinG, s_lsh, s_lcmp, s_i2l, s_l2i, s_dup, s_dup2, s_pop, s_if, s_icmp, s_geti, s_getl, s_getr, s_puti, s_putz, s_putl, s_iald, s_zald, s_iast, s_zast, s_aaldS, s_aaldU, s_gets, s_tald, s_tsw, tsw, s_iret, s_zret, s_lret, s_aret, s_vret, s_callV, s_callS, c1, nl1, keepL, csum, pushR, inL, List.getD_cons_zero, List.getD_cons_succ, List.set_cons_zero, List.set_cons_succ, List.cons_append, List.nil_append, List.append_nil, List.replicate, List.length_cons, List.length_nil, List.take_succ_cons, List.take_zero, List.drop_succ_cons, List.drop_zero, List.reverse_cons, List.reverse_nil, true_and, and_true, forall_const, not_true_eq_false, not_false_eq_true, false_implies, true_implies, implies_true, one0, m10, Nat.reduceAdd, Nat.reduceSub, Nat.reduceLeDiff, Nat.zero_add, Nat.add_zero, fn_X11_within])
    rw [if_pos h] at hQ
    exact hQ
  · obtain ⟨j, hj, rfl⟩ := wi_n (c := 3) rfl (by decide) h
    rw [l25]
    exact vp_in_nI (by omega) (by decide)
  · (apply h20; simp only [BX6_holderOf_20, s_mth, s_mab, s_at, s_iconst, s_lconst, s_iload, s_lload, s_aload, s_istore, s_lstore, s_astore, s_iinc, s_bin, s_binG, s_un, s_lbin, s_lbinG, s_lsh, s_lcmp, s_i2l, s_l2i, s_dup, s_dup2, s_pop, s_if, s_icmp, s_geti, s_getl, s_getr, s_puti, s_putz, s_putl, s_iald, s_zald, s_iast, s_zast, s_aaldS, s_aaldU, s_gets, s_tald, s_tsw, tsw, s_iret, s_zret, s_lret, s_aret, s_vret, s_callV, s_callS, c1, nl1, keepL, csum, pushR, inL, List.getD_cons_zero, List.getD_cons_succ, List.set_cons_zero, List.set_cons_succ, List.cons_append, List.nil_append, List.append_nil, List.replicate, List.length_cons, List.length_nil, List.take_succ_cons, List.take_zero, List.drop_succ_cons, List.drop_zero, List.reverse_cons, List.reverse_nil, true_and, and_true, forall_const, not_true_eq_false, not_false_eq_true, false_implies, true_implies, implies_true, one0, m10, Nat.reduceAdd, Nat.reduceSub, Nat.reduceLeDiff, Nat.zero_add, Nat.add_zero, fn_X11_within])
    rw [if_neg h] at hQ
    exact hQ
theorem ct_X6_holderOf (l : Launch) : Con l yX6_holderOf cX6_holderOf 2 (Option.some FieldType.int) 1 pre_X6_holderOf fn_X6_holderOf := con_of (by decide +kernel) ok_X6_holderOf len_X6_holderOf (fun p e s m args below meth c D ca ad A as M hX hr hp ho => pf_X6_holderOf _ _ (bsX6_holderOf_0 hX hr) (bsX6_holderOf_18 hX hr) (bsX6_holderOf_20 hX hr) as M ho hp ⟨rfl, rfl⟩)
def mh2 (M : mM) (j : Nat) (b : Int32) : Int32 := if M.1 23 j = -1 then 1 else if M.1 23 j = b - 1 then 1 else 0
def mh (M : mM) (uk j : Nat) (b : Int32) : Int32 := if M.1 uk 3 = 0 then (if M.1 22 j ≤ 0 then 0 else if M.1 uk 4 = 0 then (if M.1 uk 5 = 0 then 0 else mh2 M j b) else mh2 M j b) else 0
def pre_X6_mayHave (as : List mV) (M : mM) : Prop := ∃ g uk u b, as = [.inr (.inr (6, g)), .inr (.inr (10, uk)), .inl u, .inl b] ∧ ∃ j, j < 5 ∧ u = nI j
def fn_X6_mayHave : List mV → mM → Option mV × mM
  | [.inr (.inr (_, g)), .inr (.inr (_, uk)), .inl u, .inl b], M => (some (.inl (mh M uk u.toNatClampNeg b)), M)
  | _, M => (none, M)
theorem ok_X6_mayHave (as : List mV) (M : mM) (h : pre_X6_mayHave as M) (_ : ∀ v ∈ as, okV v) : okR (fn_X6_mayHave as M).1 := by
  obtain ⟨g, uk, u, b, rfl, -⟩ := h
  first | trivial | exact (by decide +kernel : kof 14 = 8)
theorem len_X6_mayHave (as : List mV) (M : mM) (h : pre_X6_mayHave as M) : (inL as).length ≤ 4 := by
  obtain ⟨g, uk, u, b, rfl, -⟩ := h
  exact Nat.le_of_ble_eq_true rfl

theorem fl_105 : FLk "FairBlocks$Scheduler" 88 10 3 1 := ⟨RX10, TX10, 10, rfl, inX10, by decide, w_105, by decide, rfl⟩
theorem fl_108 : FLk "FairBlocks$Scheduler" 107 10 4 0 := ⟨RX10, TX10, 10, rfl, inX10, by decide, w_108, by decide, rfl⟩
theorem fl_110 : FLk "FairBlocks$Scheduler" 110 10 5 0 := ⟨RX10, TX10, 10, rfl, inX10, by decide, w_110, by decide, rfl⟩
theorem fl_172 : FLk "FairBlocks$Scheduler" 9 6 1 16 := ⟨RX6, TX6, 5, rfl, inX6, by decide, w_172, by decide, rfl⟩
theorem fl_173 : FLk "FairBlocks$Scheduler" 15 6 2 16 := ⟨RX6, TX6, 5, rfl, inX6, by decide, w_173, by decide, rfl⟩
theorem dX6_mayHave_0 : decode cX6_mayHave 0 = .ok (.aload_n 1, 1) := by decide +kernel
theorem dX6_mayHave_1 : decode cX6_mayHave 1 = .ok (.getfield 88, 3) := by decide +kernel
theorem dX6_mayHave_4 : decode cX6_mayHave 4 = .ok (.ifCond .ne 26, 3) := by decide +kernel
theorem dX6_mayHave_7 : decode cX6_mayHave 7 = .ok (.aload_n 0, 1) := by decide +kernel
theorem dX6_mayHave_8 : decode cX6_mayHave 8 = .ok (.getfield 9, 3) := by decide +kernel
theorem dX6_mayHave_11 : decode cX6_mayHave 11 = .ok (.iload_n 2, 1) := by decide +kernel
theorem dX6_mayHave_12 : decode cX6_mayHave 12 = .ok (.iaload, 1) := by decide +kernel
theorem dX6_mayHave_13 : decode cX6_mayHave 13 = .ok (.ifCond .le 17, 3) := by decide +kernel
theorem dX6_mayHave_16 : decode cX6_mayHave 16 = .ok (.aload_n 1, 1) := by decide +kernel
theorem dX6_mayHave_17 : decode cX6_mayHave 17 = .ok (.getfield 107, 3) := by decide +kernel
theorem dX6_mayHave_20 : decode cX6_mayHave 20 = .ok (.ifCond .ne 12, 3) := by decide +kernel
theorem dX6_mayHave_23 : decode cX6_mayHave 23 = .ok (.aload_n 1, 1) := by decide +kernel
theorem dX6_mayHave_24 : decode cX6_mayHave 24 = .ok (.getfield 110, 3) := by decide +kernel
theorem dX6_mayHave_27 : decode cX6_mayHave 27 = .ok (.ifCond .ne 5, 3) := by decide +kernel
theorem dX6_mayHave_30 : decode cX6_mayHave 30 = .ok (.iconst 0, 1) := by decide +kernel
theorem dX6_mayHave_31 : decode cX6_mayHave 31 = .ok (.ireturn, 1) := by decide +kernel
theorem dX6_mayHave_32 : decode cX6_mayHave 32 = .ok (.aload_n 0, 1) := by decide +kernel
theorem dX6_mayHave_33 : decode cX6_mayHave 33 = .ok (.getfield 15, 3) := by decide +kernel
theorem dX6_mayHave_36 : decode cX6_mayHave 36 = .ok (.iload_n 2, 1) := by decide +kernel
theorem dX6_mayHave_37 : decode cX6_mayHave 37 = .ok (.iaload, 1) := by decide +kernel
theorem dX6_mayHave_38 : decode cX6_mayHave 38 = .ok (.iconst (-1), 1) := by decide +kernel
theorem dX6_mayHave_39 : decode cX6_mayHave 39 = .ok (.if_icmp .eq 15, 3) := by decide +kernel
theorem dX6_mayHave_42 : decode cX6_mayHave 42 = .ok (.aload_n 0, 1) := by decide +kernel
theorem dX6_mayHave_43 : decode cX6_mayHave 43 = .ok (.getfield 15, 3) := by decide +kernel
theorem dX6_mayHave_46 : decode cX6_mayHave 46 = .ok (.iload_n 2, 1) := by decide +kernel
theorem dX6_mayHave_47 : decode cX6_mayHave 47 = .ok (.iaload, 1) := by decide +kernel
theorem dX6_mayHave_48 : decode cX6_mayHave 48 = .ok (.iload_n 3, 1) := by decide +kernel
theorem dX6_mayHave_49 : decode cX6_mayHave 49 = .ok (.iconst 1, 1) := by decide +kernel
theorem dX6_mayHave_50 : decode cX6_mayHave 50 = .ok (.isub, 1) := by decide +kernel
theorem dX6_mayHave_51 : decode cX6_mayHave 51 = .ok (.if_icmp .ne 7, 3) := by decide +kernel
theorem dX6_mayHave_54 : decode cX6_mayHave 54 = .ok (.iconst 1, 1) := by decide +kernel
theorem dX6_mayHave_55 : decode cX6_mayHave 55 = .ok (.goto 4, 3) := by decide +kernel
theorem dX6_mayHave_58 : decode cX6_mayHave 58 = .ok (.iconst 0, 1) := by decide +kernel
theorem dX6_mayHave_59 : decode cX6_mayHave 59 = .ok (.ireturn, 1) := by decide +kernel
theorem mk_X6_mayHave : MVk yX6_mayHave "FairBlocks$Scheduler" cX6_mayHave 4 (Option.some FieldType.boolean) 3 := ⟨w_449, w_448, wp_3, w_7, rfl, by decide +kernel, by decide +kernel, by decide +kernel⟩
def BX6_mayHave_0 (G : Nat → KT) (Q : Option mV → mM → Prop) : KT := (s_aload 1 (s_geti 10 3 (s_if (fun x => x = 0) ((s_aload 0 (s_getr 6 13 (fun _ => 22) (s_iload 2 (s_iald (s_if (fun x => x ≤ 0) (s_at G 30 [false, false, false, false]) (s_aload 1 (s_geti 10 4 (s_if (fun x => x = 0) ((s_aload 1 (s_geti 10 5 (s_if (fun x => x = 0) ((s_at G 30 [false, false, false, false])) (s_at G 32 [true, false, true, true]))))) (s_at G 32 [true, false, true, true])))))))))) (s_at G 30 [false, false, false, false]))))
set_option maxRecDepth 4000 in
theorem bsX6_mayHave_0 {p : Program} {l : Launch} {e : Env} {s : State} {m : MethodId} {args : Array Value} {below : List Frame} {meth : Method} {c : Code} {D : va_G} {ca : Nat → ClassId} {ad : Nat → Nat} {A : Nat → Prop} {Q : Option mV → mM → Prop} (hX : CX p s m args meth c 4 cX6_mayHave "FairBlocks$Scheduler" D ca ad A) (hr : meth.sig.returnType = (Option.some FieldType.boolean)) : ∀ lv st M, BX6_mayHave_0 (Gd p l e (rmD 0) s m args below meth c 4 D ca ad A 0 0 (MQ below (QC D ca ad A Q) args s 0 0 A)) Q lv st M → Gd p l e (rmD 0) s m args below meth c 4 D ca ad A 0 0 (MQ below (QC D ca ad A Q) args s 0 0 A) 0 lv st M :=
  (sd_aload_n hX dX6_mayHave_0 rfl (sd_geti hX fl_105 (by decide) dX6_mayHave_1 (sd_if_ne hX dX6_mayHave_4 (by decide) sd_at (sd_aload_n hX dX6_mayHave_7 rfl (sd_getr hX fl_172 (fun _ => rfl) (fun _ _ _ => by decide +kernel) dX6_mayHave_8 (sd_iload_n hX dX6_mayHave_11 rfl (sd_iald hX dX6_mayHave_12 (sd_if_le hX dX6_mayHave_13 (by decide) sd_at (sd_aload_n hX dX6_mayHave_16 rfl (sd_geti hX fl_108 (by decide) dX6_mayHave_17 (sd_if_ne hX dX6_mayHave_20 (by decide) sd_at (sd_aload_n hX dX6_mayHave_23 rfl (sd_geti hX fl_110 (by decide) dX6_mayHave_24 (sd_if_ne hX dX6_mayHave_27 (by decide) sd_at sd_at))))))))))))))
def BX6_mayHave_30 (G : Nat → KT) (Q : Option mV → mM → Prop) : KT := (s_iconst (0) (s_zret Q))
set_option maxRecDepth 4000 in
theorem bsX6_mayHave_30 {p : Program} {l : Launch} {e : Env} {s : State} {m : MethodId} {args : Array Value} {below : List Frame} {meth : Method} {c : Code} {D : va_G} {ca : Nat → ClassId} {ad : Nat → Nat} {A : Nat → Prop} {Q : Option mV → mM → Prop} (hX : CX p s m args meth c 4 cX6_mayHave "FairBlocks$Scheduler" D ca ad A) (hr : meth.sig.returnType = (Option.some FieldType.boolean)) : ∀ lv st M, BX6_mayHave_30 (Gd p l e (rmD 0) s m args below meth c 4 D ca ad A 0 0 (MQ below (QC D ca ad A Q) args s 0 0 A)) Q lv st M → Gd p l e (rmD 0) s m args below meth c 4 D ca ad A 0 0 (MQ below (QC D ca ad A Q) args s 0 0 A) 30 lv st M :=
  (sd_iconst hX dX6_mayHave_30 rfl (sd_zret hX hr dX6_mayHave_31))
def BX6_mayHave_32 (G : Nat → KT) (Q : Option mV → mM → Prop) : KT := (s_aload 0 (s_getr 6 13 (fun _ => 23) (s_iload 2 (s_iald (s_iconst (-1) (s_icmp (fun x y => x = y) (s_at G 54 [false, false, false, false]) (s_aload 0 (s_getr 6 13 (fun _ => 23) (s_iload 2 (s_iald (s_iload 3 (s_iconst (1) (s_bin (fun x y => x - y) (s_icmp (fun x y => x = y) ((s_at G 54 [false, false, false, false])) (s_at G 58 [false, false, false, false])))))))))))))))
set_option maxRecDepth 4000 in
theorem bsX6_mayHave_32 {p : Program} {l : Launch} {e : Env} {s : State} {m : MethodId} {args : Array Value} {below : List Frame} {meth : Method} {c : Code} {D : va_G} {ca : Nat → ClassId} {ad : Nat → Nat} {A : Nat → Prop} {Q : Option mV → mM → Prop} (hX : CX p s m args meth c 4 cX6_mayHave "FairBlocks$Scheduler" D ca ad A) (hr : meth.sig.returnType = (Option.some FieldType.boolean)) : ∀ lv st M, BX6_mayHave_32 (Gd p l e (rmD 0) s m args below meth c 4 D ca ad A 0 0 (MQ below (QC D ca ad A Q) args s 0 0 A)) Q lv st M → Gd p l e (rmD 0) s m args below meth c 4 D ca ad A 0 0 (MQ below (QC D ca ad A Q) args s 0 0 A) 32 lv st M :=
  (sd_aload_n hX dX6_mayHave_32 rfl (sd_getr hX fl_173 (fun _ => rfl) (fun _ _ _ => by decide +kernel) dX6_mayHave_33 (sd_iload_n hX dX6_mayHave_36 rfl (sd_iald hX dX6_mayHave_37 (sd_iconst hX dX6_mayHave_38 rfl (sd_icmp_eq hX dX6_mayHave_39 (by decide) sd_at (sd_aload_n hX dX6_mayHave_42 rfl (sd_getr hX fl_173 (fun _ => rfl) (fun _ _ _ => by decide +kernel) dX6_mayHave_43 (sd_iload_n hX dX6_mayHave_46 rfl (sd_iald hX dX6_mayHave_47 (sd_iload_n hX dX6_mayHave_48 rfl (sd_iconst hX dX6_mayHave_49 rfl (sd_isub hX dX6_mayHave_50 (sd_icmp_ne hX dX6_mayHave_51 (by decide) sd_at sd_at))))))))))))))
def BX6_mayHave_54 (G : Nat → KT) (Q : Option mV → mM → Prop) : KT := (s_iconst (1) (s_at G 59 [false, false, false, false]))
set_option maxRecDepth 4000 in
theorem bsX6_mayHave_54 {p : Program} {l : Launch} {e : Env} {s : State} {m : MethodId} {args : Array Value} {below : List Frame} {meth : Method} {c : Code} {D : va_G} {ca : Nat → ClassId} {ad : Nat → Nat} {A : Nat → Prop} {Q : Option mV → mM → Prop} (hX : CX p s m args meth c 4 cX6_mayHave "FairBlocks$Scheduler" D ca ad A) (hr : meth.sig.returnType = (Option.some FieldType.boolean)) : ∀ lv st M, BX6_mayHave_54 (Gd p l e (rmD 0) s m args below meth c 4 D ca ad A 0 0 (MQ below (QC D ca ad A Q) args s 0 0 A)) Q lv st M → Gd p l e (rmD 0) s m args below meth c 4 D ca ad A 0 0 (MQ below (QC D ca ad A Q) args s 0 0 A) 54 lv st M :=
  (sd_iconst hX dX6_mayHave_54 rfl (sd_goto hX dX6_mayHave_55 (by decide) sd_at))
def BX6_mayHave_58 (G : Nat → KT) (Q : Option mV → mM → Prop) : KT := (s_iconst (0) (s_at G 59 [false, false, false, false]))
set_option maxRecDepth 4000 in
theorem bsX6_mayHave_58 {p : Program} {l : Launch} {e : Env} {s : State} {m : MethodId} {args : Array Value} {below : List Frame} {meth : Method} {c : Code} {D : va_G} {ca : Nat → ClassId} {ad : Nat → Nat} {A : Nat → Prop} {Q : Option mV → mM → Prop} (hX : CX p s m args meth c 4 cX6_mayHave "FairBlocks$Scheduler" D ca ad A) (hr : meth.sig.returnType = (Option.some FieldType.boolean)) : ∀ lv st M, BX6_mayHave_58 (Gd p l e (rmD 0) s m args below meth c 4 D ca ad A 0 0 (MQ below (QC D ca ad A Q) args s 0 0 A)) Q lv st M → Gd p l e (rmD 0) s m args below meth c 4 D ca ad A 0 0 (MQ below (QC D ca ad A Q) args s 0 0 A) 58 lv st M :=
  (sd_iconst hX dX6_mayHave_58 rfl sd_at)
def BX6_mayHave_59 (G : Nat → KT) (Q : Option mV → mM → Prop) : KT := (s_zret Q)
set_option maxRecDepth 4000 in
theorem bsX6_mayHave_59 {p : Program} {l : Launch} {e : Env} {s : State} {m : MethodId} {args : Array Value} {below : List Frame} {meth : Method} {c : Code} {D : va_G} {ca : Nat → ClassId} {ad : Nat → Nat} {A : Nat → Prop} {Q : Option mV → mM → Prop} (hX : CX p s m args meth c 4 cX6_mayHave "FairBlocks$Scheduler" D ca ad A) (hr : meth.sig.returnType = (Option.some FieldType.boolean)) : ∀ lv st M, BX6_mayHave_59 (Gd p l e (rmD 0) s m args below meth c 4 D ca ad A 0 0 (MQ below (QC D ca ad A Q) args s 0 0 A)) Q lv st M → Gd p l e (rmD 0) s m args below meth c 4 D ca ad A 0 0 (MQ below (QC D ca ad A Q) args s 0 0 A) 59 lv st M :=
  sd_zret hX hr dX6_mayHave_59
set_option maxHeartbeats 400000 in
theorem pf_X6_mayHave (G : Nat → KT) (Q : Option mV → mM → Prop) (h0 : ∀ lv st M, BX6_mayHave_0 G Q lv st M → G 0 lv st M) (h30 : ∀ lv st M, BX6_mayHave_30 G Q lv st M → G 30 lv st M) (h32 : ∀ lv st M, BX6_mayHave_32 G Q lv st M → G 32 lv st M) (h54 : ∀ lv st M, BX6_mayHave_54 G Q lv st M → G 54 lv st M) (h58 : ∀ lv st M, BX6_mayHave_58 G Q lv st M → G 58 lv st M) (h59 : ∀ lv st M, BX6_mayHave_59 G Q lv st M → G 59 lv st M) (as : List mV) (M : mM) (ho : ∀ v ∈ as, okV v) (hp : pre_X6_mayHave as M) (hQ : Q (fn_X6_mayHave as M).1 (fn_X6_mayHave as M).2) : G 0 (inL as ++ List.replicate (4 - (inL as).length) none) [] M := by
  obtain ⟨g, uk, u, b, rfl, j, hj, rfl⟩ := hp
  have ec : (nI j).toNatClampNeg = j := nI_clamp (by omega)
  simp only [fn_X6_mayHave, ec] at hQ
  have hv : vp_in (nI j) 5 := vp_in_nI hj (by decide)
  have L : Q (some (.inl (mh2 M j b))) M → G 32 [some (.inr (.inr (6, g))), none, some (.inl (nI j)), some (.inl b)] [] M := by
    intro hQ
    simp only [mh2] at hQ
    (apply h32; simp only [BX6_mayHave_32, s_mth, s_mab, s_at, s_iconst, s_lconst, s_iload, s_lload, s_aload, s_istore, s_lstore, s_astore, s_iinc, s_bin, s_binG, s_un, s_lbin, s_lbinG, s_lsh, s_lcmp, s_i2l, s_l2i, s_dup, s_dup2, s_pop, s_if, s_icmp, s_geti, s_getl, s_getr, s_puti, s_putz, s_putl, s_iald, s_zald, s_iast, s_zast, s_aaldS, s_aaldU, s_gets, s_tald, s_tsw, tsw, s_iret, s_zret, s_lret, s_aret, s_vret, s_callV, s_callS, c1, nl1, keepL, csum, pushR, inL, List.getD_cons_zero, List.getD_cons_succ, List.set_cons_zero, List.set_cons_succ, List.cons_append, List.nil_append, List.append_nil, List.replicate, List.length_cons, List.length_nil, List.take_succ_cons, List.take_zero, List.drop_succ_cons, List.drop_zero, List.reverse_cons, List.reverse_nil, true_and, and_true, forall_const, not_true_eq_false, not_false_eq_true, false_implies, true_implies, implies_true, one0, m10, Nat.reduceAdd, Nat.reduceSub, Nat.reduceLeDiff, Nat.zero_add, Nat.add_zero])
    simp only [l23, ec]
    refine ⟨hv, fun h => ?_, fun h => ⟨hv, fun h2 => ?_, fun h2 => ?_⟩⟩
    · rw [if_pos h] at hQ
      (apply h54; simp only [BX6_mayHave_54, s_mth, s_mab, s_at, s_iconst, s_lconst, s_iload, s_lload, s_aload, s_istore, s_lstore, s_astore, s_iinc, s_bin, s_binG, s_un, s_lbin, s_lbinG, s_lsh, s_lcmp, s_i2l, s_l2i, s_dup, s_dup2, s_pop, s_if, s_icmp, s_geti, s_getl, s_getr, s_puti, s_putz, s_putl, s_iald, s_zald, s_iast, s_zast, s_aaldS, s_aaldU, s_gets, s_tald, s_tsw, tsw, s_iret, s_zret, s_lret, s_aret, s_vret, s_callV, s_callS, c1, nl1, keepL, csum, pushR, inL, List.getD_cons_zero, List.getD_cons_succ, List.set_cons_zero, List.set_cons_succ, List.cons_append, List.nil_append, List.append_nil, List.replicate, List.length_cons, List.length_nil, List.take_succ_cons, List.take_zero, List.drop_succ_cons, List.drop_zero, List.reverse_cons, List.reverse_nil, true_and, and_true, forall_const, not_true_eq_false, not_false_eq_true, false_implies, true_implies, implies_true, one0, m10, Nat.reduceAdd, Nat.reduceSub, Nat.reduceLeDiff, Nat.zero_add, Nat.add_zero])
      (apply h59; simp only [BX6_mayHave_59, s_mth, s_mab, s_at, s_iconst, s_lconst, s_iload, s_lload, s_aload, s_istore, s_lstore, s_astore, s_iinc, s_bin, s_binG, s_un, s_lbin, s_lbinG, s_lsh, s_lcmp, s_i2l, s_l2i, s_dup, s_dup2, s_pop, s_if, s_icmp, s_geti, s_getl, s_getr, s_puti, s_putz, s_putl, s_iald, s_zald, s_iast, s_zast, s_aaldS, s_aaldU, s_gets, s_tald, s_tsw, tsw, s_iret, s_zret, s_lret, s_aret, s_vret, s_callV, s_callS, c1, nl1, keepL, csum, pushR, inL, List.getD_cons_zero, List.getD_cons_succ, List.set_cons_zero, List.set_cons_succ, List.cons_append, List.nil_append, List.append_nil, List.replicate, List.length_cons, List.length_nil, List.take_succ_cons, List.take_zero, List.drop_succ_cons, List.drop_zero, List.reverse_cons, List.reverse_nil, true_and, and_true, forall_const, not_true_eq_false, not_false_eq_true, false_implies, true_implies, implies_true, one0, m10, Nat.reduceAdd, Nat.reduceSub, Nat.reduceLeDiff, Nat.zero_add, Nat.add_zero])
      exact ⟨by simp, hQ⟩
    · rw [if_neg h, if_pos h2] at hQ
      (apply h54; simp only [BX6_mayHave_54, s_mth, s_mab, s_at, s_iconst, s_lconst, s_iload, s_lload, s_aload, s_istore, s_lstore, s_astore, s_iinc, s_bin, s_binG, s_un, s_lbin, s_lbinG, s_lsh, s_lcmp, s_i2l, s_l2i, s_dup, s_dup2, s_pop, s_if, s_icmp, s_geti, s_getl, s_getr, s_puti, s_putz, s_putl, s_iald, s_zald, s_iast, s_zast, s_aaldS, s_aaldU, s_gets, s_tald, s_tsw, tsw, s_iret, s_zret, s_lret, s_aret, s_vret, s_callV, s_callS, c1, nl1, keepL, csum, pushR, inL, List.getD_cons_zero, List.getD_cons_succ, List.set_cons_zero, List.set_cons_succ, List.cons_append, List.nil_append, List.append_nil, List.replicate, List.length_cons, List.length_nil, List.take_succ_cons, List.take_zero, List.drop_succ_cons, List.drop_zero, List.reverse_cons, List.reverse_nil, true_and, and_true, forall_const, not_true_eq_false, not_false_eq_true, false_implies, true_implies, implies_true, one0, m10, Nat.reduceAdd, Nat.reduceSub, Nat.reduceLeDiff, Nat.zero_add, Nat.add_zero])
      (apply h59; simp only [BX6_mayHave_59, s_mth, s_mab, s_at, s_iconst, s_lconst, s_iload, s_lload, s_aload, s_istore, s_lstore, s_astore, s_iinc, s_bin, s_binG, s_un, s_lbin, s_lbinG, s_lsh, s_lcmp, s_i2l, s_l2i, s_dup, s_dup2, s_pop, s_if, s_icmp, s_geti, s_getl, s_getr, s_puti, s_putz, s_putl, s_iald, s_zald, s_iast, s_zast, s_aaldS, s_aaldU, s_gets, s_tald, s_tsw, tsw, s_iret, s_zret, s_lret, s_aret, s_vret, s_callV, s_callS, c1, nl1, keepL, csum, pushR, inL, List.getD_cons_zero, List.getD_cons_succ, List.set_cons_zero, List.set_cons_succ, List.cons_append, List.nil_append, List.append_nil, List.replicate, List.length_cons, List.length_nil, List.take_succ_cons, List.take_zero, List.drop_succ_cons, List.drop_zero, List.reverse_cons, List.reverse_nil, true_and, and_true, forall_const, not_true_eq_false, not_false_eq_true, false_implies, true_implies, implies_true, one0, m10, Nat.reduceAdd, Nat.reduceSub, Nat.reduceLeDiff, Nat.zero_add, Nat.add_zero])
      exact ⟨by simp, hQ⟩
    · rw [if_neg h, if_neg h2] at hQ
      (apply h58; simp only [BX6_mayHave_58, s_mth, s_mab, s_at, s_iconst, s_lconst, s_iload, s_lload, s_aload, s_istore, s_lstore, s_astore, s_iinc, s_bin, s_binG, s_un, s_lbin, s_lbinG, s_lsh, s_lcmp, s_i2l, s_l2i, s_dup, s_dup2, s_pop, s_if, s_icmp, s_geti, s_getl, s_getr, s_puti, s_putz, s_putl, s_iald, s_zald, s_iast, s_zast, s_aaldS, s_aaldU, s_gets, s_tald, s_tsw, tsw, s_iret, s_zret, s_lret, s_aret, s_vret, s_callV, s_callS, c1, nl1, keepL, csum, pushR, inL, List.getD_cons_zero, List.getD_cons_succ, List.set_cons_zero, List.set_cons_succ, List.cons_append, List.nil_append, List.append_nil, List.replicate, List.length_cons, List.length_nil, List.take_succ_cons, List.take_zero, List.drop_succ_cons, List.drop_zero, List.reverse_cons, List.reverse_nil, true_and, and_true, forall_const, not_true_eq_false, not_false_eq_true, false_implies, true_implies, implies_true, one0, m10, Nat.reduceAdd, Nat.reduceSub, Nat.reduceLeDiff, Nat.zero_add, Nat.add_zero])
      (apply h59; simp only [BX6_mayHave_59, s_mth, s_mab, s_at, s_iconst, s_lconst, s_iload, s_lload, s_aload, s_istore, s_lstore, s_astore, s_iinc, s_bin, s_binG, s_un, s_lbin, s_lbinG, s_lsh, s_lcmp, s_i2l, s_l2i, s_dup, s_dup2, s_pop, s_if, s_icmp, s_geti, s_getl, s_getr, s_puti, s_putz, s_putl, s_iald, s_zald, s_iast, s_zast, s_aaldS, s_aaldU, s_gets, s_tald, s_tsw, tsw, s_iret, s_zret, s_lret, s_aret, s_vret, s_callV, s_callS, c1, nl1, keepL, csum, pushR, inL, List.getD_cons_zero, List.getD_cons_succ, List.set_cons_zero, List.set_cons_succ, List.cons_append, List.nil_append, List.append_nil, List.replicate, List.length_cons, List.length_nil, List.take_succ_cons, List.take_zero, List.drop_succ_cons, List.drop_zero, List.reverse_cons, List.reverse_nil, true_and, and_true, forall_const, not_true_eq_false, not_false_eq_true, false_implies, true_implies, implies_true, one0, m10, Nat.reduceAdd, Nat.reduceSub, Nat.reduceLeDiff, Nat.zero_add, Nat.add_zero])
      exact ⟨by simp, hQ⟩
  have Z : Q (some (.inl 0)) M → G 30 [none, none, none, none] [] M := by
    intro hQ
    (apply h30; simp only [BX6_mayHave_30, s_mth, s_mab, s_at, s_iconst, s_lconst, s_iload, s_lload, s_aload, s_istore, s_lstore, s_astore, s_iinc, s_bin, s_binG, s_un, s_lbin, s_lbinG, s_lsh, s_lcmp, s_i2l, s_l2i, s_dup, s_dup2, s_pop, s_if, s_icmp, s_geti, s_getl, s_getr, s_puti, s_putz, s_putl, s_iald, s_zald, s_iast, s_zast, s_aaldS, s_aaldU, s_gets, s_tald, s_tsw, tsw, s_iret, s_zret, s_lret, s_aret, s_vret, s_callV, s_callS, c1, nl1, keepL, csum, pushR, inL, List.getD_cons_zero, List.getD_cons_succ, List.set_cons_zero, List.set_cons_succ, List.cons_append, List.nil_append, List.append_nil, List.replicate, List.length_cons, List.length_nil, List.take_succ_cons, List.take_zero, List.drop_succ_cons, List.drop_zero, List.reverse_cons, List.reverse_nil, true_and, and_true, forall_const, not_true_eq_false, not_false_eq_true, false_implies, true_implies, implies_true, one0, m10, Nat.reduceAdd, Nat.reduceSub, Nat.reduceLeDiff, Nat.zero_add, Nat.add_zero])
    exact ⟨by simp, hQ⟩
  simp only [mh] at hQ
  (apply h0; simp only [BX6_mayHave_0, s_mth, s_mab, s_at, s_iconst, s_lconst, s_iload, s_lload, s_aload, s_istore, s_lstore, s_astore, s_iinc, s_bin, s_binG, s_un, s_lbin, s_lbinG, s_lsh, s_lcmp, s_i2l, s_l2i, s_dup, s_dup2, s_pop, s_if, s_icmp, s_geti, s_getl, s_getr, s_puti, s_putz, s_putl, s_iald, s_zald, s_iast, s_zast, s_aaldS, s_aaldU, s_gets, s_tald, s_tsw, tsw, s_iret, s_zret, s_lret, s_aret, s_vret, s_callV, s_callS, c1, nl1, keepL, csum, pushR, inL, List.getD_cons_zero, List.getD_cons_succ, List.set_cons_zero, List.set_cons_succ, List.cons_append, List.nil_append, List.append_nil, List.replicate, List.length_cons, List.length_nil, List.take_succ_cons, List.take_zero, List.drop_succ_cons, List.drop_zero, List.reverse_cons, List.reverse_nil, true_and, and_true, forall_const, not_true_eq_false, not_false_eq_true, false_implies, true_implies, implies_true, one0, m10, Nat.reduceAdd, Nat.reduceSub, Nat.reduceLeDiff, Nat.zero_add, Nat.add_zero])
  simp only [l22, ec]
  refine ⟨fun h => ⟨hv, fun h2 => ?_, fun h2 => ⟨fun h3 => ⟨fun h4 => ?_, fun h4 => ?_⟩, fun h3 => ?_⟩⟩, fun h => ?_⟩
  · rw [if_pos h, if_pos h2] at hQ; exact Z hQ
  · rw [if_pos h, if_neg h2, if_pos h3, if_pos h4] at hQ; exact Z hQ
  · rw [if_pos h, if_neg h2, if_pos h3, if_neg h4] at hQ; exact L hQ
  · rw [if_pos h, if_neg h2, if_neg h3] at hQ; exact L hQ
  · rw [if_neg h] at hQ; exact Z hQ
theorem ct_X6_mayHave (l : Launch) : Con l yX6_mayHave cX6_mayHave 4 (Option.some FieldType.boolean) 0 pre_X6_mayHave fn_X6_mayHave := con_of (by decide +kernel) ok_X6_mayHave len_X6_mayHave (fun p e s m args below meth c D ca ad A as M hX hr hp ho => pf_X6_mayHave _ _ (bsX6_mayHave_0 hX hr) (bsX6_mayHave_30 hX hr) (bsX6_mayHave_32 hX hr) (bsX6_mayHave_54 hX hr) (bsX6_mayHave_58 hX hr) (bsX6_mayHave_59 hX hr) as M ho hp ⟨rfl, rfl⟩)
def pz (x : Int32) : Int32 := if x ≤ 0 then 0 else 1
theorem pz_01 (x : Int32) : pz x = 0 ∨ pz x = 1 := by unfold pz; split <;> simp
def urg (M : mM) (k uk : Nat) (r : Int32) : Int32 := if r = 0 then (if pz (M.1 k 1) = 0 then 0 else if M.1 uk 7 < M.1 k 1 then 0 else 1) else 1
theorem urg_01 (M : mM) (k uk : Nat) (r : Int32) : urg M k uk r = 0 ∨ urg M k uk r = 1 := by unfold urg; split <;> (try split) <;> (try split) <;> simp
def ib2 (M : mM) (k i j : Nat) (u : Int32) : Int32 := if u = 0 then (if M.1 22 i * M.1 (k + 1 + 1 + i) 1 * (M.1 (k + 1 + 1 + j) 6 + 1) ≤ M.1 22 j * M.1 (k + 1 + 1 + j) 1 * (M.1 (k + 1 + 1 + i) 6 + 1) then 0 else 1) else (if M.1 (k + 1 + 1 + i) 7 ≤ M.1 (k + 1 + 1 + j) 7 then 0 else 1)
def ib1 (M : mM) (k i j : Nat) (r : Int32) : Int32 := if urg M k (k + 1 + 1 + i) r = urg M k (k + 1 + 1 + j) r then ib2 M k i j (urg M k (k + 1 + 1 + i) r) else urg M k (k + 1 + 1 + i) r
def ib (M : mM) (k i j : Nat) : Int32 := if pz (M.1 (k + 1 + 1 + i) 5) = pz (M.1 (k + 1 + 1 + j) 5) then ib1 M k i j (pz (M.1 (k + 1 + 1 + i) 5)) else pz (M.1 (k + 1 + 1 + i) 5)
def pre_X6_isBefore (as : List mV) (M : mM) : Prop := ∃ g k a b, as = [.inr (.inr (6, g)), .inr (.inr (8, k)), .inl a, .inl b] ∧ (∃ i, i < 5 ∧ a = nI i) ∧ ∃ j, j < 5 ∧ b = nI j
def fn_X6_isBefore : List mV → mM → Option mV × mM
  | [.inr (.inr (_, g)), .inr (.inr (_, k)), .inl a, .inl b], M => (some (.inl (ib M k a.toNatClampNeg b.toNatClampNeg)), M)
  | _, M => (none, M)
theorem ok_X6_isBefore (as : List mV) (M : mM) (h : pre_X6_isBefore as M) (_ : ∀ v ∈ as, okV v) : okR (fn_X6_isBefore as M).1 := by
  obtain ⟨g, k, a, b, rfl, -⟩ := h
  first | trivial | exact (by decide +kernel : kof 14 = 8)
theorem len_X6_isBefore (as : List mV) (M : mM) (h : pre_X6_isBefore as M) : (inL as).length ≤ 10 := by
  obtain ⟨g, k, a, b, rfl, -⟩ := h
  exact Nat.le_of_ble_eq_true rfl

theorem fl_112 : FLk "FairBlocks$Scheduler" 82 10 6 0 := ⟨RX10, TX10, 10, rfl, inX10, by decide, w_112, by decide, rfl⟩
theorem fl_117 : FLk "FairBlocks$Scheduler" 96 10 7 0 := ⟨RX10, TX10, 10, rfl, inX10, by decide, w_117, by decide, rfl⟩
theorem fl_146 : FLk "FairBlocks$Scheduler" 46 8 0 19 := ⟨RX8, TX8, 3, rfl, inX8, by decide, w_146, by decide, rfl⟩
theorem fl_152 : FLk "FairBlocks$Scheduler" 113 8 1 0 := ⟨RX8, TX8, 3, rfl, inX8, by decide, w_152, by decide, rfl⟩
theorem fl_98 : FLk "FairBlocks$Scheduler" 116 10 1 0 := ⟨RX10, TX10, 10, rfl, inX10, by decide, w_98, by decide, rfl⟩
theorem dX6_isBefore_0 : decode cX6_isBefore 0 = .ok (.aload_n 1, 1) := by decide +kernel
theorem dX6_isBefore_1 : decode cX6_isBefore 1 = .ok (.getfield 46, 3) := by decide +kernel
theorem dX6_isBefore_4 : decode cX6_isBefore 4 = .ok (.iload_n 2, 1) := by decide +kernel
theorem dX6_isBefore_5 : decode cX6_isBefore 5 = .ok (.aaload, 1) := by decide +kernel
theorem dX6_isBefore_6 : decode cX6_isBefore 6 = .ok (.astore 4, 2) := by decide +kernel
theorem dX6_isBefore_8 : decode cX6_isBefore 8 = .ok (.aload_n 1, 1) := by decide +kernel
theorem dX6_isBefore_9 : decode cX6_isBefore 9 = .ok (.getfield 46, 3) := by decide +kernel
theorem dX6_isBefore_12 : decode cX6_isBefore 12 = .ok (.iload_n 3, 1) := by decide +kernel
theorem dX6_isBefore_13 : decode cX6_isBefore 13 = .ok (.aaload, 1) := by decide +kernel
theorem dX6_isBefore_14 : decode cX6_isBefore 14 = .ok (.astore 5, 2) := by decide +kernel
theorem dX6_isBefore_16 : decode cX6_isBefore 16 = .ok (.aload 4, 2) := by decide +kernel
theorem dX6_isBefore_18 : decode cX6_isBefore 18 = .ok (.getfield 110, 3) := by decide +kernel
theorem dX6_isBefore_21 : decode cX6_isBefore 21 = .ok (.ifCond .le 7, 3) := by decide +kernel
theorem dX6_isBefore_24 : decode cX6_isBefore 24 = .ok (.iconst 1, 1) := by decide +kernel
theorem dX6_isBefore_25 : decode cX6_isBefore 25 = .ok (.goto 4, 3) := by decide +kernel
theorem dX6_isBefore_28 : decode cX6_isBefore 28 = .ok (.iconst 0, 1) := by decide +kernel
theorem dX6_isBefore_29 : decode cX6_isBefore 29 = .ok (.istore 6, 2) := by decide +kernel
theorem dX6_isBefore_31 : decode cX6_isBefore 31 = .ok (.iload 6, 2) := by decide +kernel
theorem dX6_isBefore_33 : decode cX6_isBefore 33 = .ok (.aload 5, 2) := by decide +kernel
theorem dX6_isBefore_35 : decode cX6_isBefore 35 = .ok (.getfield 110, 3) := by decide +kernel
theorem dX6_isBefore_38 : decode cX6_isBefore 38 = .ok (.ifCond .le 7, 3) := by decide +kernel
theorem dX6_isBefore_41 : decode cX6_isBefore 41 = .ok (.iconst 1, 1) := by decide +kernel
theorem dX6_isBefore_42 : decode cX6_isBefore 42 = .ok (.goto 4, 3) := by decide +kernel
theorem dX6_isBefore_45 : decode cX6_isBefore 45 = .ok (.iconst 0, 1) := by decide +kernel
theorem dX6_isBefore_46 : decode cX6_isBefore 46 = .ok (.if_icmp .eq 6, 3) := by decide +kernel
theorem dX6_isBefore_49 : decode cX6_isBefore 49 = .ok (.iload 6, 2) := by decide +kernel
theorem dX6_isBefore_51 : decode cX6_isBefore 51 = .ok (.ireturn, 1) := by decide +kernel
theorem dX6_isBefore_52 : decode cX6_isBefore 52 = .ok (.aload_n 1, 1) := by decide +kernel
theorem dX6_isBefore_53 : decode cX6_isBefore 53 = .ok (.getfield 113, 3) := by decide +kernel
theorem dX6_isBefore_56 : decode cX6_isBefore 56 = .ok (.ifCond .le 7, 3) := by decide +kernel
theorem dX6_isBefore_59 : decode cX6_isBefore 59 = .ok (.iconst 1, 1) := by decide +kernel
theorem dX6_isBefore_60 : decode cX6_isBefore 60 = .ok (.goto 4, 3) := by decide +kernel
theorem dX6_isBefore_63 : decode cX6_isBefore 63 = .ok (.iconst 0, 1) := by decide +kernel
theorem dX6_isBefore_64 : decode cX6_isBefore 64 = .ok (.istore 7, 2) := by decide +kernel
theorem dX6_isBefore_66 : decode cX6_isBefore 66 = .ok (.iload 6, 2) := by decide +kernel
theorem dX6_isBefore_68 : decode cX6_isBefore 68 = .ok (.ifCond .ne 20, 3) := by decide +kernel
theorem dX6_isBefore_71 : decode cX6_isBefore 71 = .ok (.iload 7, 2) := by decide +kernel
theorem dX6_isBefore_73 : decode cX6_isBefore 73 = .ok (.ifCond .eq 19, 3) := by decide +kernel
theorem dX6_isBefore_76 : decode cX6_isBefore 76 = .ok (.aload 4, 2) := by decide +kernel
theorem dX6_isBefore_78 : decode cX6_isBefore 78 = .ok (.getfield 96, 3) := by decide +kernel
theorem dX6_isBefore_81 : decode cX6_isBefore 81 = .ok (.aload_n 1, 1) := by decide +kernel
theorem dX6_isBefore_82 : decode cX6_isBefore 82 = .ok (.getfield 113, 3) := by decide +kernel
theorem dX6_isBefore_85 : decode cX6_isBefore 85 = .ok (.if_icmp .lt 7, 3) := by decide +kernel
theorem dX6_isBefore_88 : decode cX6_isBefore 88 = .ok (.iconst 1, 1) := by decide +kernel
theorem dX6_isBefore_89 : decode cX6_isBefore 89 = .ok (.goto 4, 3) := by decide +kernel
theorem dX6_isBefore_92 : decode cX6_isBefore 92 = .ok (.iconst 0, 1) := by decide +kernel
theorem dX6_isBefore_93 : decode cX6_isBefore 93 = .ok (.istore 8, 2) := by decide +kernel
theorem dX6_isBefore_95 : decode cX6_isBefore 95 = .ok (.iload 6, 2) := by decide +kernel
theorem dX6_isBefore_97 : decode cX6_isBefore 97 = .ok (.ifCond .ne 20, 3) := by decide +kernel
theorem dX6_isBefore_100 : decode cX6_isBefore 100 = .ok (.iload 7, 2) := by decide +kernel
theorem dX6_isBefore_102 : decode cX6_isBefore 102 = .ok (.ifCond .eq 19, 3) := by decide +kernel
theorem dX6_isBefore_105 : decode cX6_isBefore 105 = .ok (.aload 5, 2) := by decide +kernel
theorem dX6_isBefore_107 : decode cX6_isBefore 107 = .ok (.getfield 96, 3) := by decide +kernel
theorem dX6_isBefore_110 : decode cX6_isBefore 110 = .ok (.aload_n 1, 1) := by decide +kernel
theorem dX6_isBefore_111 : decode cX6_isBefore 111 = .ok (.getfield 113, 3) := by decide +kernel
theorem dX6_isBefore_114 : decode cX6_isBefore 114 = .ok (.if_icmp .lt 7, 3) := by decide +kernel
theorem dX6_isBefore_117 : decode cX6_isBefore 117 = .ok (.iconst 1, 1) := by decide +kernel
theorem dX6_isBefore_118 : decode cX6_isBefore 118 = .ok (.goto 4, 3) := by decide +kernel
theorem dX6_isBefore_121 : decode cX6_isBefore 121 = .ok (.iconst 0, 1) := by decide +kernel
theorem dX6_isBefore_122 : decode cX6_isBefore 122 = .ok (.istore 9, 2) := by decide +kernel
theorem dX6_isBefore_124 : decode cX6_isBefore 124 = .ok (.iload 8, 2) := by decide +kernel
theorem dX6_isBefore_126 : decode cX6_isBefore 126 = .ok (.iload 9, 2) := by decide +kernel
theorem dX6_isBefore_128 : decode cX6_isBefore 128 = .ok (.if_icmp .eq 6, 3) := by decide +kernel
theorem dX6_isBefore_131 : decode cX6_isBefore 131 = .ok (.iload 8, 2) := by decide +kernel
theorem dX6_isBefore_133 : decode cX6_isBefore 133 = .ok (.ireturn, 1) := by decide +kernel
theorem dX6_isBefore_134 : decode cX6_isBefore 134 = .ok (.iload 8, 2) := by decide +kernel
theorem dX6_isBefore_136 : decode cX6_isBefore 136 = .ok (.ifCond .eq 22, 3) := by decide +kernel
theorem dX6_isBefore_139 : decode cX6_isBefore 139 = .ok (.aload 4, 2) := by decide +kernel
theorem dX6_isBefore_141 : decode cX6_isBefore 141 = .ok (.getfield 96, 3) := by decide +kernel
theorem dX6_isBefore_144 : decode cX6_isBefore 144 = .ok (.aload 5, 2) := by decide +kernel
theorem dX6_isBefore_146 : decode cX6_isBefore 146 = .ok (.getfield 96, 3) := by decide +kernel
theorem dX6_isBefore_149 : decode cX6_isBefore 149 = .ok (.if_icmp .le 7, 3) := by decide +kernel
theorem dX6_isBefore_152 : decode cX6_isBefore 152 = .ok (.iconst 1, 1) := by decide +kernel
theorem dX6_isBefore_153 : decode cX6_isBefore 153 = .ok (.goto 4, 3) := by decide +kernel
theorem dX6_isBefore_156 : decode cX6_isBefore 156 = .ok (.iconst 0, 1) := by decide +kernel
theorem dX6_isBefore_157 : decode cX6_isBefore 157 = .ok (.ireturn, 1) := by decide +kernel
theorem dX6_isBefore_158 : decode cX6_isBefore 158 = .ok (.aload_n 0, 1) := by decide +kernel
theorem dX6_isBefore_159 : decode cX6_isBefore 159 = .ok (.getfield 9, 3) := by decide +kernel
theorem dX6_isBefore_162 : decode cX6_isBefore 162 = .ok (.iload_n 2, 1) := by decide +kernel
theorem dX6_isBefore_163 : decode cX6_isBefore 163 = .ok (.iaload, 1) := by decide +kernel
theorem dX6_isBefore_164 : decode cX6_isBefore 164 = .ok (.aload 4, 2) := by decide +kernel
theorem dX6_isBefore_166 : decode cX6_isBefore 166 = .ok (.getfield 116, 3) := by decide +kernel
theorem dX6_isBefore_169 : decode cX6_isBefore 169 = .ok (.imul, 1) := by decide +kernel
theorem dX6_isBefore_170 : decode cX6_isBefore 170 = .ok (.aload 5, 2) := by decide +kernel
theorem dX6_isBefore_172 : decode cX6_isBefore 172 = .ok (.getfield 82, 3) := by decide +kernel
theorem dX6_isBefore_175 : decode cX6_isBefore 175 = .ok (.iconst 1, 1) := by decide +kernel
theorem dX6_isBefore_176 : decode cX6_isBefore 176 = .ok (.iadd, 1) := by decide +kernel
theorem dX6_isBefore_177 : decode cX6_isBefore 177 = .ok (.imul, 1) := by decide +kernel
theorem dX6_isBefore_178 : decode cX6_isBefore 178 = .ok (.aload_n 0, 1) := by decide +kernel
theorem dX6_isBefore_179 : decode cX6_isBefore 179 = .ok (.getfield 9, 3) := by decide +kernel
theorem dX6_isBefore_182 : decode cX6_isBefore 182 = .ok (.iload_n 3, 1) := by decide +kernel
theorem dX6_isBefore_183 : decode cX6_isBefore 183 = .ok (.iaload, 1) := by decide +kernel
theorem dX6_isBefore_184 : decode cX6_isBefore 184 = .ok (.aload 5, 2) := by decide +kernel
theorem dX6_isBefore_186 : decode cX6_isBefore 186 = .ok (.getfield 116, 3) := by decide +kernel
theorem dX6_isBefore_189 : decode cX6_isBefore 189 = .ok (.imul, 1) := by decide +kernel
theorem dX6_isBefore_190 : decode cX6_isBefore 190 = .ok (.aload 4, 2) := by decide +kernel
theorem dX6_isBefore_192 : decode cX6_isBefore 192 = .ok (.getfield 82, 3) := by decide +kernel
theorem dX6_isBefore_195 : decode cX6_isBefore 195 = .ok (.iconst 1, 1) := by decide +kernel
theorem dX6_isBefore_196 : decode cX6_isBefore 196 = .ok (.iadd, 1) := by decide +kernel
theorem dX6_isBefore_197 : decode cX6_isBefore 197 = .ok (.imul, 1) := by decide +kernel
theorem dX6_isBefore_198 : decode cX6_isBefore 198 = .ok (.if_icmp .le 7, 3) := by decide +kernel
theorem dX6_isBefore_201 : decode cX6_isBefore 201 = .ok (.iconst 1, 1) := by decide +kernel
theorem dX6_isBefore_202 : decode cX6_isBefore 202 = .ok (.goto 4, 3) := by decide +kernel
theorem dX6_isBefore_205 : decode cX6_isBefore 205 = .ok (.iconst 0, 1) := by decide +kernel
theorem dX6_isBefore_206 : decode cX6_isBefore 206 = .ok (.ireturn, 1) := by decide +kernel
theorem mk_X6_isBefore : MVk yX6_isBefore "FairBlocks$Scheduler" cX6_isBefore 10 (Option.some FieldType.boolean) 3 := ⟨w_453, w_452, wp_4, w_7, rfl, by decide +kernel, by decide +kernel, by decide +kernel⟩
def BX6_isBefore_0 (G : Nat → KT) (Q : Option mV → mM → Prop) : KT := (s_aload 1 (s_getr 8 16 (fun k => k + 1) (s_iload 2 (s_aaldU (s_astore 4 (s_aload 1 (s_getr 8 16 (fun k => k + 1) (s_iload 3 (s_aaldU (s_astore 5 (s_aload 4 (s_geti 10 5 (s_if (fun x => x ≤ 0) (s_at G 28 [true, true, true, true, true, true, false, false, false, false]) (s_iconst (1) (s_at G 29 [true, true, true, true, true, true, false, false, false, false])))))))))))))))
set_option maxRecDepth 4000 in
theorem bsX6_isBefore_0 {p : Program} {l : Launch} {e : Env} {s : State} {m : MethodId} {args : Array Value} {below : List Frame} {meth : Method} {c : Code} {D : va_G} {ca : Nat → ClassId} {ad : Nat → Nat} {A : Nat → Prop} {Q : Option mV → mM → Prop} (hX : CX p s m args meth c 10 cX6_isBefore "FairBlocks$Scheduler" D ca ad A) (hr : meth.sig.returnType = (Option.some FieldType.boolean)) : ∀ lv st M, BX6_isBefore_0 (Gd p l e (rmD 0) s m args below meth c 10 D ca ad A 0 0 (MQ below (QC D ca ad A Q) args s 0 0 A)) Q lv st M → Gd p l e (rmD 0) s m args below meth c 10 D ca ad A 0 0 (MQ below (QC D ca ad A Q) args s 0 0 A) 0 lv st M :=
  (sd_aload_n hX dX6_isBefore_0 rfl (sd_getr hX fl_146 (fun _ => rfl) okA dX6_isBefore_1 (sd_iload_n hX dX6_isBefore_4 rfl (sd_aaldU hX dX6_isBefore_5 (sd_astore hX (by decide) dX6_isBefore_6 (sd_aload_n hX dX6_isBefore_8 rfl (sd_getr hX fl_146 (fun _ => rfl) okA dX6_isBefore_9 (sd_iload_n hX dX6_isBefore_12 rfl (sd_aaldU hX dX6_isBefore_13 (sd_astore hX (by decide) dX6_isBefore_14 (sd_aload hX dX6_isBefore_16 (sd_geti hX fl_110 (by decide) dX6_isBefore_18 (sd_if_le hX dX6_isBefore_21 (by decide) sd_at (sd_iconst hX dX6_isBefore_24 rfl (sd_goto hX dX6_isBefore_25 (by decide) sd_at)))))))))))))))
def BX6_isBefore_28 (G : Nat → KT) (Q : Option mV → mM → Prop) : KT := (s_iconst (0) (s_at G 29 [true, true, true, true, true, true, false, false, false, false]))
set_option maxRecDepth 4000 in
theorem bsX6_isBefore_28 {p : Program} {l : Launch} {e : Env} {s : State} {m : MethodId} {args : Array Value} {below : List Frame} {meth : Method} {c : Code} {D : va_G} {ca : Nat → ClassId} {ad : Nat → Nat} {A : Nat → Prop} {Q : Option mV → mM → Prop} (hX : CX p s m args meth c 10 cX6_isBefore "FairBlocks$Scheduler" D ca ad A) (hr : meth.sig.returnType = (Option.some FieldType.boolean)) : ∀ lv st M, BX6_isBefore_28 (Gd p l e (rmD 0) s m args below meth c 10 D ca ad A 0 0 (MQ below (QC D ca ad A Q) args s 0 0 A)) Q lv st M → Gd p l e (rmD 0) s m args below meth c 10 D ca ad A 0 0 (MQ below (QC D ca ad A Q) args s 0 0 A) 28 lv st M :=
  (sd_iconst hX dX6_isBefore_28 rfl sd_at)
def BX6_isBefore_29 (G : Nat → KT) (Q : Option mV → mM → Prop) : KT := (s_istore 6 (s_iload 6 (s_aload 5 (s_geti 10 5 (s_if (fun x => x ≤ 0) (s_at G 45 [true, true, true, true, true, true, true, false, false, false]) (s_iconst (1) (s_at G 46 [true, true, true, true, true, true, true, false, false, false])))))))
set_option maxRecDepth 4000 in
theorem bsX6_isBefore_29 {p : Program} {l : Launch} {e : Env} {s : State} {m : MethodId} {args : Array Value} {below : List Frame} {meth : Method} {c : Code} {D : va_G} {ca : Nat → ClassId} {ad : Nat → Nat} {A : Nat → Prop} {Q : Option mV → mM → Prop} (hX : CX p s m args meth c 10 cX6_isBefore "FairBlocks$Scheduler" D ca ad A) (hr : meth.sig.returnType = (Option.some FieldType.boolean)) : ∀ lv st M, BX6_isBefore_29 (Gd p l e (rmD 0) s m args below meth c 10 D ca ad A 0 0 (MQ below (QC D ca ad A Q) args s 0 0 A)) Q lv st M → Gd p l e (rmD 0) s m args below meth c 10 D ca ad A 0 0 (MQ below (QC D ca ad A Q) args s 0 0 A) 29 lv st M :=
  (sd_istore hX (by decide) dX6_isBefore_29 (sd_iload hX dX6_isBefore_31 (sd_aload hX dX6_isBefore_33 (sd_geti hX fl_110 (by decide) dX6_isBefore_35 (sd_if_le hX dX6_isBefore_38 (by decide) sd_at (sd_iconst hX dX6_isBefore_41 rfl (sd_goto hX dX6_isBefore_42 (by decide) sd_at)))))))
def BX6_isBefore_45 (G : Nat → KT) (Q : Option mV → mM → Prop) : KT := (s_iconst (0) (s_at G 46 [true, true, true, true, true, true, true, false, false, false]))
set_option maxRecDepth 4000 in
theorem bsX6_isBefore_45 {p : Program} {l : Launch} {e : Env} {s : State} {m : MethodId} {args : Array Value} {below : List Frame} {meth : Method} {c : Code} {D : va_G} {ca : Nat → ClassId} {ad : Nat → Nat} {A : Nat → Prop} {Q : Option mV → mM → Prop} (hX : CX p s m args meth c 10 cX6_isBefore "FairBlocks$Scheduler" D ca ad A) (hr : meth.sig.returnType = (Option.some FieldType.boolean)) : ∀ lv st M, BX6_isBefore_45 (Gd p l e (rmD 0) s m args below meth c 10 D ca ad A 0 0 (MQ below (QC D ca ad A Q) args s 0 0 A)) Q lv st M → Gd p l e (rmD 0) s m args below meth c 10 D ca ad A 0 0 (MQ below (QC D ca ad A Q) args s 0 0 A) 45 lv st M :=
  (sd_iconst hX dX6_isBefore_45 rfl sd_at)
def BX6_isBefore_46 (G : Nat → KT) (Q : Option mV → mM → Prop) : KT := (s_icmp (fun x y => x = y) (s_at G 52 [true, true, true, true, true, true, true, false, false, false]) (s_iload 6 (s_zret Q)))
set_option maxRecDepth 4000 in
theorem bsX6_isBefore_46 {p : Program} {l : Launch} {e : Env} {s : State} {m : MethodId} {args : Array Value} {below : List Frame} {meth : Method} {c : Code} {D : va_G} {ca : Nat → ClassId} {ad : Nat → Nat} {A : Nat → Prop} {Q : Option mV → mM → Prop} (hX : CX p s m args meth c 10 cX6_isBefore "FairBlocks$Scheduler" D ca ad A) (hr : meth.sig.returnType = (Option.some FieldType.boolean)) : ∀ lv st M, BX6_isBefore_46 (Gd p l e (rmD 0) s m args below meth c 10 D ca ad A 0 0 (MQ below (QC D ca ad A Q) args s 0 0 A)) Q lv st M → Gd p l e (rmD 0) s m args below meth c 10 D ca ad A 0 0 (MQ below (QC D ca ad A Q) args s 0 0 A) 46 lv st M :=
  (sd_icmp_eq hX dX6_isBefore_46 (by decide) sd_at (sd_iload hX dX6_isBefore_49 (sd_zret hX hr dX6_isBefore_51)))
def BX6_isBefore_52 (G : Nat → KT) (Q : Option mV → mM → Prop) : KT := (s_aload 1 (s_geti 8 1 (s_if (fun x => x ≤ 0) (s_at G 63 [true, true, true, true, true, true, true, false, false, false]) (s_iconst (1) (s_at G 64 [true, true, true, true, true, true, true, false, false, false])))))
set_option maxRecDepth 4000 in
theorem bsX6_isBefore_52 {p : Program} {l : Launch} {e : Env} {s : State} {m : MethodId} {args : Array Value} {below : List Frame} {meth : Method} {c : Code} {D : va_G} {ca : Nat → ClassId} {ad : Nat → Nat} {A : Nat → Prop} {Q : Option mV → mM → Prop} (hX : CX p s m args meth c 10 cX6_isBefore "FairBlocks$Scheduler" D ca ad A) (hr : meth.sig.returnType = (Option.some FieldType.boolean)) : ∀ lv st M, BX6_isBefore_52 (Gd p l e (rmD 0) s m args below meth c 10 D ca ad A 0 0 (MQ below (QC D ca ad A Q) args s 0 0 A)) Q lv st M → Gd p l e (rmD 0) s m args below meth c 10 D ca ad A 0 0 (MQ below (QC D ca ad A Q) args s 0 0 A) 52 lv st M :=
  (sd_aload_n hX dX6_isBefore_52 rfl (sd_geti hX fl_152 (by decide) dX6_isBefore_53 (sd_if_le hX dX6_isBefore_56 (by decide) sd_at (sd_iconst hX dX6_isBefore_59 rfl (sd_goto hX dX6_isBefore_60 (by decide) sd_at)))))
def BX6_isBefore_63 (G : Nat → KT) (Q : Option mV → mM → Prop) : KT := (s_iconst (0) (s_at G 64 [true, true, true, true, true, true, true, false, false, false]))
set_option maxRecDepth 4000 in
theorem bsX6_isBefore_63 {p : Program} {l : Launch} {e : Env} {s : State} {m : MethodId} {args : Array Value} {below : List Frame} {meth : Method} {c : Code} {D : va_G} {ca : Nat → ClassId} {ad : Nat → Nat} {A : Nat → Prop} {Q : Option mV → mM → Prop} (hX : CX p s m args meth c 10 cX6_isBefore "FairBlocks$Scheduler" D ca ad A) (hr : meth.sig.returnType = (Option.some FieldType.boolean)) : ∀ lv st M, BX6_isBefore_63 (Gd p l e (rmD 0) s m args below meth c 10 D ca ad A 0 0 (MQ below (QC D ca ad A Q) args s 0 0 A)) Q lv st M → Gd p l e (rmD 0) s m args below meth c 10 D ca ad A 0 0 (MQ below (QC D ca ad A Q) args s 0 0 A) 63 lv st M :=
  (sd_iconst hX dX6_isBefore_63 rfl sd_at)
def BX6_isBefore_64 (G : Nat → KT) (Q : Option mV → mM → Prop) : KT := (s_istore 7 (s_iload 6 (s_if (fun x => x = 0) ((s_iload 7 (s_if (fun x => x = 0) (s_at G 92 [true, true, true, true, true, true, true, true, false, false]) (s_aload 4 (s_geti 10 7 (s_aload 1 (s_geti 8 1 (s_icmp (fun x y => x < y) (s_at G 92 [true, true, true, true, true, true, true, true, false, false]) (s_at G 88 [true, true, true, true, true, true, true, true, false, false]))))))))) (s_at G 88 [true, true, true, true, true, true, true, true, false, false]))))
set_option maxRecDepth 4000 in
theorem bsX6_isBefore_64 {p : Program} {l : Launch} {e : Env} {s : State} {m : MethodId} {args : Array Value} {below : List Frame} {meth : Method} {c : Code} {D : va_G} {ca : Nat → ClassId} {ad : Nat → Nat} {A : Nat → Prop} {Q : Option mV → mM → Prop} (hX : CX p s m args meth c 10 cX6_isBefore "FairBlocks$Scheduler" D ca ad A) (hr : meth.sig.returnType = (Option.some FieldType.boolean)) : ∀ lv st M, BX6_isBefore_64 (Gd p l e (rmD 0) s m args below meth c 10 D ca ad A 0 0 (MQ below (QC D ca ad A Q) args s 0 0 A)) Q lv st M → Gd p l e (rmD 0) s m args below meth c 10 D ca ad A 0 0 (MQ below (QC D ca ad A Q) args s 0 0 A) 64 lv st M :=
  (sd_istore hX (by decide) dX6_isBefore_64 (sd_iload hX dX6_isBefore_66 (sd_if_ne hX dX6_isBefore_68 (by decide) sd_at (sd_iload hX dX6_isBefore_71 (sd_if_eq hX dX6_isBefore_73 (by decide) sd_at (sd_aload hX dX6_isBefore_76 (sd_geti hX fl_117 (by decide) dX6_isBefore_78 (sd_aload_n hX dX6_isBefore_81 rfl (sd_geti hX fl_152 (by decide) dX6_isBefore_82 (sd_icmp_lt hX dX6_isBefore_85 (by decide) sd_at sd_at))))))))))
def BX6_isBefore_88 (G : Nat → KT) (Q : Option mV → mM → Prop) : KT := (s_iconst (1) (s_at G 93 [true, true, true, true, true, true, true, true, false, false]))
set_option maxRecDepth 4000 in
theorem bsX6_isBefore_88 {p : Program} {l : Launch} {e : Env} {s : State} {m : MethodId} {args : Array Value} {below : List Frame} {meth : Method} {c : Code} {D : va_G} {ca : Nat → ClassId} {ad : Nat → Nat} {A : Nat → Prop} {Q : Option mV → mM → Prop} (hX : CX p s m args meth c 10 cX6_isBefore "FairBlocks$Scheduler" D ca ad A) (hr : meth.sig.returnType = (Option.some FieldType.boolean)) : ∀ lv st M, BX6_isBefore_88 (Gd p l e (rmD 0) s m args below meth c 10 D ca ad A 0 0 (MQ below (QC D ca ad A Q) args s 0 0 A)) Q lv st M → Gd p l e (rmD 0) s m args below meth c 10 D ca ad A 0 0 (MQ below (QC D ca ad A Q) args s 0 0 A) 88 lv st M :=
  (sd_iconst hX dX6_isBefore_88 rfl (sd_goto hX dX6_isBefore_89 (by decide) sd_at))
def BX6_isBefore_92 (G : Nat → KT) (Q : Option mV → mM → Prop) : KT := (s_iconst (0) (s_at G 93 [true, true, true, true, true, true, true, true, false, false]))
set_option maxRecDepth 4000 in
theorem bsX6_isBefore_92 {p : Program} {l : Launch} {e : Env} {s : State} {m : MethodId} {args : Array Value} {below : List Frame} {meth : Method} {c : Code} {D : va_G} {ca : Nat → ClassId} {ad : Nat → Nat} {A : Nat → Prop} {Q : Option mV → mM → Prop} (hX : CX p s m args meth c 10 cX6_isBefore "FairBlocks$Scheduler" D ca ad A) (hr : meth.sig.returnType = (Option.some FieldType.boolean)) : ∀ lv st M, BX6_isBefore_92 (Gd p l e (rmD 0) s m args below meth c 10 D ca ad A 0 0 (MQ below (QC D ca ad A Q) args s 0 0 A)) Q lv st M → Gd p l e (rmD 0) s m args below meth c 10 D ca ad A 0 0 (MQ below (QC D ca ad A Q) args s 0 0 A) 92 lv st M :=
  (sd_iconst hX dX6_isBefore_92 rfl sd_at)
def BX6_isBefore_93 (G : Nat → KT) (Q : Option mV → mM → Prop) : KT := (s_istore 8 (s_iload 6 (s_if (fun x => x = 0) ((s_iload 7 (s_if (fun x => x = 0) (s_at G 121 [true, false, true, true, true, true, false, false, true, false]) (s_aload 5 (s_geti 10 7 (s_aload 1 (s_geti 8 1 (s_icmp (fun x y => x < y) (s_at G 121 [true, false, true, true, true, true, false, false, true, false]) (s_at G 117 [true, false, true, true, true, true, false, false, true, false]))))))))) (s_at G 117 [true, false, true, true, true, true, false, false, true, false]))))
set_option maxRecDepth 4000 in
theorem bsX6_isBefore_93 {p : Program} {l : Launch} {e : Env} {s : State} {m : MethodId} {args : Array Value} {below : List Frame} {meth : Method} {c : Code} {D : va_G} {ca : Nat → ClassId} {ad : Nat → Nat} {A : Nat → Prop} {Q : Option mV → mM → Prop} (hX : CX p s m args meth c 10 cX6_isBefore "FairBlocks$Scheduler" D ca ad A) (hr : meth.sig.returnType = (Option.some FieldType.boolean)) : ∀ lv st M, BX6_isBefore_93 (Gd p l e (rmD 0) s m args below meth c 10 D ca ad A 0 0 (MQ below (QC D ca ad A Q) args s 0 0 A)) Q lv st M → Gd p l e (rmD 0) s m args below meth c 10 D ca ad A 0 0 (MQ below (QC D ca ad A Q) args s 0 0 A) 93 lv st M :=
  (sd_istore hX (by decide) dX6_isBefore_93 (sd_iload hX dX6_isBefore_95 (sd_if_ne hX dX6_isBefore_97 (by decide) sd_at (sd_iload hX dX6_isBefore_100 (sd_if_eq hX dX6_isBefore_102 (by decide) sd_at (sd_aload hX dX6_isBefore_105 (sd_geti hX fl_117 (by decide) dX6_isBefore_107 (sd_aload_n hX dX6_isBefore_110 rfl (sd_geti hX fl_152 (by decide) dX6_isBefore_111 (sd_icmp_lt hX dX6_isBefore_114 (by decide) sd_at sd_at))))))))))
def BX6_isBefore_117 (G : Nat → KT) (Q : Option mV → mM → Prop) : KT := (s_iconst (1) (s_at G 122 [true, false, true, true, true, true, false, false, true, false]))
set_option maxRecDepth 4000 in
theorem bsX6_isBefore_117 {p : Program} {l : Launch} {e : Env} {s : State} {m : MethodId} {args : Array Value} {below : List Frame} {meth : Method} {c : Code} {D : va_G} {ca : Nat → ClassId} {ad : Nat → Nat} {A : Nat → Prop} {Q : Option mV → mM → Prop} (hX : CX p s m args meth c 10 cX6_isBefore "FairBlocks$Scheduler" D ca ad A) (hr : meth.sig.returnType = (Option.some FieldType.boolean)) : ∀ lv st M, BX6_isBefore_117 (Gd p l e (rmD 0) s m args below meth c 10 D ca ad A 0 0 (MQ below (QC D ca ad A Q) args s 0 0 A)) Q lv st M → Gd p l e (rmD 0) s m args below meth c 10 D ca ad A 0 0 (MQ below (QC D ca ad A Q) args s 0 0 A) 117 lv st M :=
  (sd_iconst hX dX6_isBefore_117 rfl (sd_goto hX dX6_isBefore_118 (by decide) sd_at))
def BX6_isBefore_121 (G : Nat → KT) (Q : Option mV → mM → Prop) : KT := (s_iconst (0) (s_at G 122 [true, false, true, true, true, true, false, false, true, false]))
set_option maxRecDepth 4000 in
theorem bsX6_isBefore_121 {p : Program} {l : Launch} {e : Env} {s : State} {m : MethodId} {args : Array Value} {below : List Frame} {meth : Method} {c : Code} {D : va_G} {ca : Nat → ClassId} {ad : Nat → Nat} {A : Nat → Prop} {Q : Option mV → mM → Prop} (hX : CX p s m args meth c 10 cX6_isBefore "FairBlocks$Scheduler" D ca ad A) (hr : meth.sig.returnType = (Option.some FieldType.boolean)) : ∀ lv st M, BX6_isBefore_121 (Gd p l e (rmD 0) s m args below meth c 10 D ca ad A 0 0 (MQ below (QC D ca ad A Q) args s 0 0 A)) Q lv st M → Gd p l e (rmD 0) s m args below meth c 10 D ca ad A 0 0 (MQ below (QC D ca ad A Q) args s 0 0 A) 121 lv st M :=
  (sd_iconst hX dX6_isBefore_121 rfl sd_at)
def BX6_isBefore_122 (G : Nat → KT) (Q : Option mV → mM → Prop) : KT := (s_istore 9 (s_iload 8 (s_iload 9 (s_icmp (fun x y => x = y) (s_at G 134 [true, false, true, true, true, true, false, false, true, false]) (s_iload 8 (s_zret Q))))))
set_option maxRecDepth 4000 in
theorem bsX6_isBefore_122 {p : Program} {l : Launch} {e : Env} {s : State} {m : MethodId} {args : Array Value} {below : List Frame} {meth : Method} {c : Code} {D : va_G} {ca : Nat → ClassId} {ad : Nat → Nat} {A : Nat → Prop} {Q : Option mV → mM → Prop} (hX : CX p s m args meth c 10 cX6_isBefore "FairBlocks$Scheduler" D ca ad A) (hr : meth.sig.returnType = (Option.some FieldType.boolean)) : ∀ lv st M, BX6_isBefore_122 (Gd p l e (rmD 0) s m args below meth c 10 D ca ad A 0 0 (MQ below (QC D ca ad A Q) args s 0 0 A)) Q lv st M → Gd p l e (rmD 0) s m args below meth c 10 D ca ad A 0 0 (MQ below (QC D ca ad A Q) args s 0 0 A) 122 lv st M :=
  (sd_istore hX (by decide) dX6_isBefore_122 (sd_iload hX dX6_isBefore_124 (sd_iload hX dX6_isBefore_126 (sd_icmp_eq hX dX6_isBefore_128 (by decide) sd_at (sd_iload hX dX6_isBefore_131 (sd_zret hX hr dX6_isBefore_133))))))
def BX6_isBefore_134 (G : Nat → KT) (Q : Option mV → mM → Prop) : KT := (s_iload 8 (s_if (fun x => x = 0) (s_at G 158 [true, false, true, true, true, true, false, false, false, false]) (s_aload 4 (s_geti 10 7 (s_aload 5 (s_geti 10 7 (s_icmp (fun x y => x ≤ y) (s_at G 156 [false, false, false, false, false, false, false, false, false, false]) (s_iconst (1) (s_at G 157 [false, false, false, false, false, false, false, false, false, false])))))))))
set_option maxRecDepth 4000 in
theorem bsX6_isBefore_134 {p : Program} {l : Launch} {e : Env} {s : State} {m : MethodId} {args : Array Value} {below : List Frame} {meth : Method} {c : Code} {D : va_G} {ca : Nat → ClassId} {ad : Nat → Nat} {A : Nat → Prop} {Q : Option mV → mM → Prop} (hX : CX p s m args meth c 10 cX6_isBefore "FairBlocks$Scheduler" D ca ad A) (hr : meth.sig.returnType = (Option.some FieldType.boolean)) : ∀ lv st M, BX6_isBefore_134 (Gd p l e (rmD 0) s m args below meth c 10 D ca ad A 0 0 (MQ below (QC D ca ad A Q) args s 0 0 A)) Q lv st M → Gd p l e (rmD 0) s m args below meth c 10 D ca ad A 0 0 (MQ below (QC D ca ad A Q) args s 0 0 A) 134 lv st M :=
  (sd_iload hX dX6_isBefore_134 (sd_if_eq hX dX6_isBefore_136 (by decide) sd_at (sd_aload hX dX6_isBefore_139 (sd_geti hX fl_117 (by decide) dX6_isBefore_141 (sd_aload hX dX6_isBefore_144 (sd_geti hX fl_117 (by decide) dX6_isBefore_146 (sd_icmp_le hX dX6_isBefore_149 (by decide) sd_at (sd_iconst hX dX6_isBefore_152 rfl (sd_goto hX dX6_isBefore_153 (by decide) sd_at)))))))))
def BX6_isBefore_156 (G : Nat → KT) (Q : Option mV → mM → Prop) : KT := (s_iconst (0) (s_at G 157 [false, false, false, false, false, false, false, false, false, false]))
set_option maxRecDepth 4000 in
theorem bsX6_isBefore_156 {p : Program} {l : Launch} {e : Env} {s : State} {m : MethodId} {args : Array Value} {below : List Frame} {meth : Method} {c : Code} {D : va_G} {ca : Nat → ClassId} {ad : Nat → Nat} {A : Nat → Prop} {Q : Option mV → mM → Prop} (hX : CX p s m args meth c 10 cX6_isBefore "FairBlocks$Scheduler" D ca ad A) (hr : meth.sig.returnType = (Option.some FieldType.boolean)) : ∀ lv st M, BX6_isBefore_156 (Gd p l e (rmD 0) s m args below meth c 10 D ca ad A 0 0 (MQ below (QC D ca ad A Q) args s 0 0 A)) Q lv st M → Gd p l e (rmD 0) s m args below meth c 10 D ca ad A 0 0 (MQ below (QC D ca ad A Q) args s 0 0 A) 156 lv st M :=
  (sd_iconst hX dX6_isBefore_156 rfl sd_at)
def BX6_isBefore_157 (G : Nat → KT) (Q : Option mV → mM → Prop) : KT := (s_zret Q)
set_option maxRecDepth 4000 in
theorem bsX6_isBefore_157 {p : Program} {l : Launch} {e : Env} {s : State} {m : MethodId} {args : Array Value} {below : List Frame} {meth : Method} {c : Code} {D : va_G} {ca : Nat → ClassId} {ad : Nat → Nat} {A : Nat → Prop} {Q : Option mV → mM → Prop} (hX : CX p s m args meth c 10 cX6_isBefore "FairBlocks$Scheduler" D ca ad A) (hr : meth.sig.returnType = (Option.some FieldType.boolean)) : ∀ lv st M, BX6_isBefore_157 (Gd p l e (rmD 0) s m args below meth c 10 D ca ad A 0 0 (MQ below (QC D ca ad A Q) args s 0 0 A)) Q lv st M → Gd p l e (rmD 0) s m args below meth c 10 D ca ad A 0 0 (MQ below (QC D ca ad A Q) args s 0 0 A) 157 lv st M :=
  sd_zret hX hr dX6_isBefore_157
def BX6_isBefore_158 (G : Nat → KT) (Q : Option mV → mM → Prop) : KT := (s_aload 0 (s_getr 6 13 (fun _ => 22) (s_iload 2 (s_iald (s_aload 4 (s_geti 10 1 (s_bin (fun x y => x * y) (s_aload 5 (s_geti 10 6 (s_iconst (1) (s_bin (fun x y => x + y) (s_bin (fun x y => x * y) (s_aload 0 (s_getr 6 13 (fun _ => 22) (s_iload 3 (s_iald (s_aload 5 (s_geti 10 1 (s_bin (fun x y => x * y) (s_aload 4 (s_geti 10 6 (s_iconst (1) (s_bin (fun x y => x + y) (s_bin (fun x y => x * y) (s_icmp (fun x y => x ≤ y) (s_at G 205 [false, false, false, false, false, false, false, false, false, false]) (s_iconst (1) (s_at G 206 [false, false, false, false, false, false, false, false, false, false])))))))))))))))))))))))))))
set_option maxRecDepth 4000 in
theorem bsX6_isBefore_158 {p : Program} {l : Launch} {e : Env} {s : State} {m : MethodId} {args : Array Value} {below : List Frame} {meth : Method} {c : Code} {D : va_G} {ca : Nat → ClassId} {ad : Nat → Nat} {A : Nat → Prop} {Q : Option mV → mM → Prop} (hX : CX p s m args meth c 10 cX6_isBefore "FairBlocks$Scheduler" D ca ad A) (hr : meth.sig.returnType = (Option.some FieldType.boolean)) : ∀ lv st M, BX6_isBefore_158 (Gd p l e (rmD 0) s m args below meth c 10 D ca ad A 0 0 (MQ below (QC D ca ad A Q) args s 0 0 A)) Q lv st M → Gd p l e (rmD 0) s m args below meth c 10 D ca ad A 0 0 (MQ below (QC D ca ad A Q) args s 0 0 A) 158 lv st M :=
  (sd_aload_n hX dX6_isBefore_158 rfl (sd_getr hX fl_172 (fun _ => rfl) (fun _ _ _ => by decide +kernel) dX6_isBefore_159 (sd_iload_n hX dX6_isBefore_162 rfl (sd_iald hX dX6_isBefore_163 (sd_aload hX dX6_isBefore_164 (sd_geti hX fl_98 (by decide) dX6_isBefore_166 (sd_imul hX dX6_isBefore_169 (sd_aload hX dX6_isBefore_170 (sd_geti hX fl_112 (by decide) dX6_isBefore_172 (sd_iconst hX dX6_isBefore_175 rfl (sd_iadd hX dX6_isBefore_176 (sd_imul hX dX6_isBefore_177 (sd_aload_n hX dX6_isBefore_178 rfl (sd_getr hX fl_172 (fun _ => rfl) (fun _ _ _ => by decide +kernel) dX6_isBefore_179 (sd_iload_n hX dX6_isBefore_182 rfl (sd_iald hX dX6_isBefore_183 (sd_aload hX dX6_isBefore_184 (sd_geti hX fl_98 (by decide) dX6_isBefore_186 (sd_imul hX dX6_isBefore_189 (sd_aload hX dX6_isBefore_190 (sd_geti hX fl_112 (by decide) dX6_isBefore_192 (sd_iconst hX dX6_isBefore_195 rfl (sd_iadd hX dX6_isBefore_196 (sd_imul hX dX6_isBefore_197 (sd_icmp_le hX dX6_isBefore_198 (by decide) sd_at (sd_iconst hX dX6_isBefore_201 rfl (sd_goto hX dX6_isBefore_202 (by decide) sd_at)))))))))))))))))))))))))))
def BX6_isBefore_205 (G : Nat → KT) (Q : Option mV → mM → Prop) : KT := (s_iconst (0) (s_at G 206 [false, false, false, false, false, false, false, false, false, false]))
set_option maxRecDepth 4000 in
theorem bsX6_isBefore_205 {p : Program} {l : Launch} {e : Env} {s : State} {m : MethodId} {args : Array Value} {below : List Frame} {meth : Method} {c : Code} {D : va_G} {ca : Nat → ClassId} {ad : Nat → Nat} {A : Nat → Prop} {Q : Option mV → mM → Prop} (hX : CX p s m args meth c 10 cX6_isBefore "FairBlocks$Scheduler" D ca ad A) (hr : meth.sig.returnType = (Option.some FieldType.boolean)) : ∀ lv st M, BX6_isBefore_205 (Gd p l e (rmD 0) s m args below meth c 10 D ca ad A 0 0 (MQ below (QC D ca ad A Q) args s 0 0 A)) Q lv st M → Gd p l e (rmD 0) s m args below meth c 10 D ca ad A 0 0 (MQ below (QC D ca ad A Q) args s 0 0 A) 205 lv st M :=
  (sd_iconst hX dX6_isBefore_205 rfl sd_at)
def BX6_isBefore_206 (G : Nat → KT) (Q : Option mV → mM → Prop) : KT := (s_zret Q)
set_option maxRecDepth 4000 in
theorem bsX6_isBefore_206 {p : Program} {l : Launch} {e : Env} {s : State} {m : MethodId} {args : Array Value} {below : List Frame} {meth : Method} {c : Code} {D : va_G} {ca : Nat → ClassId} {ad : Nat → Nat} {A : Nat → Prop} {Q : Option mV → mM → Prop} (hX : CX p s m args meth c 10 cX6_isBefore "FairBlocks$Scheduler" D ca ad A) (hr : meth.sig.returnType = (Option.some FieldType.boolean)) : ∀ lv st M, BX6_isBefore_206 (Gd p l e (rmD 0) s m args below meth c 10 D ca ad A 0 0 (MQ below (QC D ca ad A Q) args s 0 0 A)) Q lv st M → Gd p l e (rmD 0) s m args below meth c 10 D ca ad A 0 0 (MQ below (QC D ca ad A Q) args s 0 0 A) 206 lv st M :=
  sd_zret hX hr dX6_isBefore_206
set_option maxHeartbeats 400000 in
theorem pf_X6_isBefore (G : Nat → KT) (Q : Option mV → mM → Prop) (h0 : ∀ lv st M, BX6_isBefore_0 G Q lv st M → G 0 lv st M) (h28 : ∀ lv st M, BX6_isBefore_28 G Q lv st M → G 28 lv st M) (h29 : ∀ lv st M, BX6_isBefore_29 G Q lv st M → G 29 lv st M) (h45 : ∀ lv st M, BX6_isBefore_45 G Q lv st M → G 45 lv st M) (h46 : ∀ lv st M, BX6_isBefore_46 G Q lv st M → G 46 lv st M) (h52 : ∀ lv st M, BX6_isBefore_52 G Q lv st M → G 52 lv st M) (h63 : ∀ lv st M, BX6_isBefore_63 G Q lv st M → G 63 lv st M) (h64 : ∀ lv st M, BX6_isBefore_64 G Q lv st M → G 64 lv st M) (h88 : ∀ lv st M, BX6_isBefore_88 G Q lv st M → G 88 lv st M) (h92 : ∀ lv st M, BX6_isBefore_92 G Q lv st M → G 92 lv st M) (h93 : ∀ lv st M, BX6_isBefore_93 G Q lv st M → G 93 lv st M) (h117 : ∀ lv st M, BX6_isBefore_117 G Q lv st M → G 117 lv st M) (h121 : ∀ lv st M, BX6_isBefore_121 G Q lv st M → G 121 lv st M) (h122 : ∀ lv st M, BX6_isBefore_122 G Q lv st M → G 122 lv st M) (h134 : ∀ lv st M, BX6_isBefore_134 G Q lv st M → G 134 lv st M) (h156 : ∀ lv st M, BX6_isBefore_156 G Q lv st M → G 156 lv st M) (h157 : ∀ lv st M, BX6_isBefore_157 G Q lv st M → G 157 lv st M) (h158 : ∀ lv st M, BX6_isBefore_158 G Q lv st M → G 158 lv st M) (h205 : ∀ lv st M, BX6_isBefore_205 G Q lv st M → G 205 lv st M) (h206 : ∀ lv st M, BX6_isBefore_206 G Q lv st M → G 206 lv st M) (as : List mV) (M : mM) (ho : ∀ v ∈ as, okV v) (hp : pre_X6_isBefore as M) (hQ : Q (fn_X6_isBefore as M).1 (fn_X6_isBefore as M).2) : G 0 (inL as ++ List.replicate (10 - (inL as).length) none) [] M := by
  obtain ⟨g, k, a, b, rfl, ⟨i, hi, rfl⟩, j, hj, rfl⟩ := hp
  have hk : kof k = 8 := ho (.inr (.inr (8, k))) (by simp)
  have hl := lnU hk
  have ei : (nI i).toNatClampNeg = i := nI_clamp (by omega)
  have ej : (nI j).toNatClampNeg = j := nI_clamp (by omega)
  have hvi : vp_in (nI i) 5 := vp_in_nI hi (by decide)
  have hvj : vp_in (nI j) 5 := vp_in_nI hj (by decide)
  simp only [fn_X6_isBefore, ei, ej] at hQ
  have L158 : Q (some (.inl (ib2 M k i j 0))) M → G 158 [some (.inr (.inr (6, g))), none, some (.inl (nI i)), some (.inl (nI j)), some (.inr (.inr (10, k + 1 + 1 + i))), some (.inr (.inr (10, k + 1 + 1 + j))), none, none, none, none] [] M := by
    intro hQ
    simp only [ib2, if_true] at hQ
    (apply h158; simp only [BX6_isBefore_158, s_mth, s_mab, s_at, s_iconst, s_lconst, s_iload, s_lload, s_aload, s_istore, s_lstore, s_astore, s_iinc, s_bin, s_binG, s_un, s_lbin, s_lbinG, s_lsh, s_lcmp, s_i2l, s_l2i, s_dup, s_dup2, s_pop, s_if, s_icmp, s_geti, s_getl, s_getr, s_puti, s_putz, s_putl, s_iald, s_zald, s_iast, s_zast, s_aaldS, s_aaldU, s_gets, s_tald, s_tsw, tsw, s_iret, s_zret, s_lret, s_aret, s_vret, s_callV, s_callS, c1, nl1, keepL, csum, pushR, inL, List.getD_cons_zero, List.getD_cons_succ, List.set_cons_zero, List.set_cons_succ, List.cons_append, List.nil_append, List.append_nil, List.replicate, List.length_cons, List.length_nil, List.take_succ_cons, List.take_zero, List.drop_succ_cons, List.drop_zero, List.reverse_cons, List.reverse_nil, true_and, and_true, forall_const, not_true_eq_false, not_false_eq_true, false_implies, true_implies, implies_true, one0, m10, Nat.reduceAdd, Nat.reduceSub, Nat.reduceLeDiff, Nat.zero_add, Nat.add_zero])
    simp only [l22, ei, ej]
    refine ⟨hvi, hvj, fun h => ?_, fun h => ?_⟩
    · rw [if_pos h] at hQ
      (apply h205; simp only [BX6_isBefore_205, s_mth, s_mab, s_at, s_iconst, s_lconst, s_iload, s_lload, s_aload, s_istore, s_lstore, s_astore, s_iinc, s_bin, s_binG, s_un, s_lbin, s_lbinG, s_lsh, s_lcmp, s_i2l, s_l2i, s_dup, s_dup2, s_pop, s_if, s_icmp, s_geti, s_getl, s_getr, s_puti, s_putz, s_putl, s_iald, s_zald, s_iast, s_zast, s_aaldS, s_aaldU, s_gets, s_tald, s_tsw, tsw, s_iret, s_zret, s_lret, s_aret, s_vret, s_callV, s_callS, c1, nl1, keepL, csum, pushR, inL, List.getD_cons_zero, List.getD_cons_succ, List.set_cons_zero, List.set_cons_succ, List.cons_append, List.nil_append, List.append_nil, List.replicate, List.length_cons, List.length_nil, List.take_succ_cons, List.take_zero, List.drop_succ_cons, List.drop_zero, List.reverse_cons, List.reverse_nil, true_and, and_true, forall_const, not_true_eq_false, not_false_eq_true, false_implies, true_implies, implies_true, one0, m10, Nat.reduceAdd, Nat.reduceSub, Nat.reduceLeDiff, Nat.zero_add, Nat.add_zero])
      (apply h206; simp only [BX6_isBefore_206, s_mth, s_mab, s_at, s_iconst, s_lconst, s_iload, s_lload, s_aload, s_istore, s_lstore, s_astore, s_iinc, s_bin, s_binG, s_un, s_lbin, s_lbinG, s_lsh, s_lcmp, s_i2l, s_l2i, s_dup, s_dup2, s_pop, s_if, s_icmp, s_geti, s_getl, s_getr, s_puti, s_putz, s_putl, s_iald, s_zald, s_iast, s_zast, s_aaldS, s_aaldU, s_gets, s_tald, s_tsw, tsw, s_iret, s_zret, s_lret, s_aret, s_vret, s_callV, s_callS, c1, nl1, keepL, csum, pushR, inL, List.getD_cons_zero, List.getD_cons_succ, List.set_cons_zero, List.set_cons_succ, List.cons_append, List.nil_append, List.append_nil, List.replicate, List.length_cons, List.length_nil, List.take_succ_cons, List.take_zero, List.drop_succ_cons, List.drop_zero, List.reverse_cons, List.reverse_nil, true_and, and_true, forall_const, not_true_eq_false, not_false_eq_true, false_implies, true_implies, implies_true, one0, m10, Nat.reduceAdd, Nat.reduceSub, Nat.reduceLeDiff, Nat.zero_add, Nat.add_zero])
      exact ⟨by simp, hQ⟩
    · rw [if_neg h] at hQ
      (apply h206; simp only [BX6_isBefore_206, s_mth, s_mab, s_at, s_iconst, s_lconst, s_iload, s_lload, s_aload, s_istore, s_lstore, s_astore, s_iinc, s_bin, s_binG, s_un, s_lbin, s_lbinG, s_lsh, s_lcmp, s_i2l, s_l2i, s_dup, s_dup2, s_pop, s_if, s_icmp, s_geti, s_getl, s_getr, s_puti, s_putz, s_putl, s_iald, s_zald, s_iast, s_zast, s_aaldS, s_aaldU, s_gets, s_tald, s_tsw, tsw, s_iret, s_zret, s_lret, s_aret, s_vret, s_callV, s_callS, c1, nl1, keepL, csum, pushR, inL, List.getD_cons_zero, List.getD_cons_succ, List.set_cons_zero, List.set_cons_succ, List.cons_append, List.nil_append, List.append_nil, List.replicate, List.length_cons, List.length_nil, List.take_succ_cons, List.take_zero, List.drop_succ_cons, List.drop_zero, List.reverse_cons, List.reverse_nil, true_and, and_true, forall_const, not_true_eq_false, not_false_eq_true, false_implies, true_implies, implies_true, one0, m10, Nat.reduceAdd, Nat.reduceSub, Nat.reduceLeDiff, Nat.zero_add, Nat.add_zero])
      exact ⟨by simp, hQ⟩
  have L134 : ∀ u : Int32, (u = 0 ∨ u = 1) → Q (some (.inl (ib2 M k i j u))) M → G 134 [some (.inr (.inr (6, g))), none, some (.inl (nI i)), some (.inl (nI j)), some (.inr (.inr (10, k + 1 + 1 + i))), some (.inr (.inr (10, k + 1 + 1 + j))), none, none, some (.inl u), none] [] M := by
    intro u hu hQ
    rcases hu with rfl | rfl
    · (apply h134; simp only [BX6_isBefore_134, s_mth, s_mab, s_at, s_iconst, s_lconst, s_iload, s_lload, s_aload, s_istore, s_lstore, s_astore, s_iinc, s_bin, s_binG, s_un, s_lbin, s_lbinG, s_lsh, s_lcmp, s_i2l, s_l2i, s_dup, s_dup2, s_pop, s_if, s_icmp, s_geti, s_getl, s_getr, s_puti, s_putz, s_putl, s_iald, s_zald, s_iast, s_zast, s_aaldS, s_aaldU, s_gets, s_tald, s_tsw, tsw, s_iret, s_zret, s_lret, s_aret, s_vret, s_callV, s_callS, c1, nl1, keepL, csum, pushR, inL, List.getD_cons_zero, List.getD_cons_succ, List.set_cons_zero, List.set_cons_succ, List.cons_append, List.nil_append, List.append_nil, List.replicate, List.length_cons, List.length_nil, List.take_succ_cons, List.take_zero, List.drop_succ_cons, List.drop_zero, List.reverse_cons, List.reverse_nil, true_and, and_true, forall_const, not_true_eq_false, not_false_eq_true, false_implies, true_implies, implies_true, one0, m10, Nat.reduceAdd, Nat.reduceSub, Nat.reduceLeDiff, Nat.zero_add, Nat.add_zero])
      exact L158 hQ
    · simp only [ib2, one0, if_false] at hQ
      (apply h134; simp only [BX6_isBefore_134, s_mth, s_mab, s_at, s_iconst, s_lconst, s_iload, s_lload, s_aload, s_istore, s_lstore, s_astore, s_iinc, s_bin, s_binG, s_un, s_lbin, s_lbinG, s_lsh, s_lcmp, s_i2l, s_l2i, s_dup, s_dup2, s_pop, s_if, s_icmp, s_geti, s_getl, s_getr, s_puti, s_putz, s_putl, s_iald, s_zald, s_iast, s_zast, s_aaldS, s_aaldU, s_gets, s_tald, s_tsw, tsw, s_iret, s_zret, s_lret, s_aret, s_vret, s_callV, s_callS, c1, nl1, keepL, csum, pushR, inL, List.getD_cons_zero, List.getD_cons_succ, List.set_cons_zero, List.set_cons_succ, List.cons_append, List.nil_append, List.append_nil, List.replicate, List.length_cons, List.length_nil, List.take_succ_cons, List.take_zero, List.drop_succ_cons, List.drop_zero, List.reverse_cons, List.reverse_nil, true_and, and_true, forall_const, not_true_eq_false, not_false_eq_true, false_implies, true_implies, implies_true, one0, m10, Nat.reduceAdd, Nat.reduceSub, Nat.reduceLeDiff, Nat.zero_add, Nat.add_zero])
      refine ⟨fun h => ?_, fun h => ?_⟩
      · rw [if_pos h] at hQ
        (apply h156; simp only [BX6_isBefore_156, s_mth, s_mab, s_at, s_iconst, s_lconst, s_iload, s_lload, s_aload, s_istore, s_lstore, s_astore, s_iinc, s_bin, s_binG, s_un, s_lbin, s_lbinG, s_lsh, s_lcmp, s_i2l, s_l2i, s_dup, s_dup2, s_pop, s_if, s_icmp, s_geti, s_getl, s_getr, s_puti, s_putz, s_putl, s_iald, s_zald, s_iast, s_zast, s_aaldS, s_aaldU, s_gets, s_tald, s_tsw, tsw, s_iret, s_zret, s_lret, s_aret, s_vret, s_callV, s_callS, c1, nl1, keepL, csum, pushR, inL, List.getD_cons_zero, List.getD_cons_succ, List.set_cons_zero, List.set_cons_succ, List.cons_append, List.nil_append, List.append_nil, List.replicate, List.length_cons, List.length_nil, List.take_succ_cons, List.take_zero, List.drop_succ_cons, List.drop_zero, List.reverse_cons, List.reverse_nil, true_and, and_true, forall_const, not_true_eq_false, not_false_eq_true, false_implies, true_implies, implies_true, one0, m10, Nat.reduceAdd, Nat.reduceSub, Nat.reduceLeDiff, Nat.zero_add, Nat.add_zero])
        (apply h157; simp only [BX6_isBefore_157, s_mth, s_mab, s_at, s_iconst, s_lconst, s_iload, s_lload, s_aload, s_istore, s_lstore, s_astore, s_iinc, s_bin, s_binG, s_un, s_lbin, s_lbinG, s_lsh, s_lcmp, s_i2l, s_l2i, s_dup, s_dup2, s_pop, s_if, s_icmp, s_geti, s_getl, s_getr, s_puti, s_putz, s_putl, s_iald, s_zald, s_iast, s_zast, s_aaldS, s_aaldU, s_gets, s_tald, s_tsw, tsw, s_iret, s_zret, s_lret, s_aret, s_vret, s_callV, s_callS, c1, nl1, keepL, csum, pushR, inL, List.getD_cons_zero, List.getD_cons_succ, List.set_cons_zero, List.set_cons_succ, List.cons_append, List.nil_append, List.append_nil, List.replicate, List.length_cons, List.length_nil, List.take_succ_cons, List.take_zero, List.drop_succ_cons, List.drop_zero, List.reverse_cons, List.reverse_nil, true_and, and_true, forall_const, not_true_eq_false, not_false_eq_true, false_implies, true_implies, implies_true, one0, m10, Nat.reduceAdd, Nat.reduceSub, Nat.reduceLeDiff, Nat.zero_add, Nat.add_zero])
        exact ⟨by simp, hQ⟩
      · rw [if_neg h] at hQ
        (apply h157; simp only [BX6_isBefore_157, s_mth, s_mab, s_at, s_iconst, s_lconst, s_iload, s_lload, s_aload, s_istore, s_lstore, s_astore, s_iinc, s_bin, s_binG, s_un, s_lbin, s_lbinG, s_lsh, s_lcmp, s_i2l, s_l2i, s_dup, s_dup2, s_pop, s_if, s_icmp, s_geti, s_getl, s_getr, s_puti, s_putz, s_putl, s_iald, s_zald, s_iast, s_zast, s_aaldS, s_aaldU, s_gets, s_tald, s_tsw, tsw, s_iret, s_zret, s_lret, s_aret, s_vret, s_callV, s_callS, c1, nl1, keepL, csum, pushR, inL, List.getD_cons_zero, List.getD_cons_succ, List.set_cons_zero, List.set_cons_succ, List.cons_append, List.nil_append, List.append_nil, List.replicate, List.length_cons, List.length_nil, List.take_succ_cons, List.take_zero, List.drop_succ_cons, List.drop_zero, List.reverse_cons, List.reverse_nil, true_and, and_true, forall_const, not_true_eq_false, not_false_eq_true, false_implies, true_implies, implies_true, one0, m10, Nat.reduceAdd, Nat.reduceSub, Nat.reduceLeDiff, Nat.zero_add, Nat.add_zero])
        exact ⟨by simp, hQ⟩
  have L122 : ∀ u w : Int32, (u = 0 ∨ u = 1) → Q (some (.inl (if u = w then ib2 M k i j u else u))) M → G 122 [some (.inr (.inr (6, g))), none, some (.inl (nI i)), some (.inl (nI j)), some (.inr (.inr (10, k + 1 + 1 + i))), some (.inr (.inr (10, k + 1 + 1 + j))), none, none, some (.inl u), none] [.inl w] M := by
    intro u w hu hQ
    (apply h122; simp only [BX6_isBefore_122, s_mth, s_mab, s_at, s_iconst, s_lconst, s_iload, s_lload, s_aload, s_istore, s_lstore, s_astore, s_iinc, s_bin, s_binG, s_un, s_lbin, s_lbinG, s_lsh, s_lcmp, s_i2l, s_l2i, s_dup, s_dup2, s_pop, s_if, s_icmp, s_geti, s_getl, s_getr, s_puti, s_putz, s_putl, s_iald, s_zald, s_iast, s_zast, s_aaldS, s_aaldU, s_gets, s_tald, s_tsw, tsw, s_iret, s_zret, s_lret, s_aret, s_vret, s_callV, s_callS, c1, nl1, keepL, csum, pushR, inL, List.getD_cons_zero, List.getD_cons_succ, List.set_cons_zero, List.set_cons_succ, List.cons_append, List.nil_append, List.append_nil, List.replicate, List.length_cons, List.length_nil, List.take_succ_cons, List.take_zero, List.drop_succ_cons, List.drop_zero, List.reverse_cons, List.reverse_nil, true_and, and_true, forall_const, not_true_eq_false, not_false_eq_true, false_implies, true_implies, implies_true, one0, m10, Nat.reduceAdd, Nat.reduceSub, Nat.reduceLeDiff, Nat.zero_add, Nat.add_zero])
    refine ⟨fun h => ?_, fun h => ?_⟩
    · rw [if_pos h] at hQ
      exact L134 u hu hQ
    · rw [if_neg h] at hQ
      exact ⟨hu, hQ⟩
  have L93 : ∀ (r u : Int32), (r = 0 ∨ r = 1) → (u = 0 ∨ u = 1) → Q (some (.inl (if u = urg M k (k + 1 + 1 + j) r then ib2 M k i j u else u))) M → G 93 [some (.inr (.inr (6, g))), some (.inr (.inr (8, k))), some (.inl (nI i)), some (.inl (nI j)), some (.inr (.inr (10, k + 1 + 1 + i))), some (.inr (.inr (10, k + 1 + 1 + j))), some (.inl r), some (.inl (pz (M.1 k 1))), none, none] [.inl u] M := by
    intro r u hr hu hQ
    have T : Q (some (.inl (if u = 1 then ib2 M k i j u else u))) M → G 117 [some (.inr (.inr (6, g))), none, some (.inl (nI i)), some (.inl (nI j)), some (.inr (.inr (10, k + 1 + 1 + i))), some (.inr (.inr (10, k + 1 + 1 + j))), none, none, some (.inl u), none] [] M := by
      intro hQ
      (apply h117; simp only [BX6_isBefore_117, s_mth, s_mab, s_at, s_iconst, s_lconst, s_iload, s_lload, s_aload, s_istore, s_lstore, s_astore, s_iinc, s_bin, s_binG, s_un, s_lbin, s_lbinG, s_lsh, s_lcmp, s_i2l, s_l2i, s_dup, s_dup2, s_pop, s_if, s_icmp, s_geti, s_getl, s_getr, s_puti, s_putz, s_putl, s_iald, s_zald, s_iast, s_zast, s_aaldS, s_aaldU, s_gets, s_tald, s_tsw, tsw, s_iret, s_zret, s_lret, s_aret, s_vret, s_callV, s_callS, c1, nl1, keepL, csum, pushR, inL, List.getD_cons_zero, List.getD_cons_succ, List.set_cons_zero, List.set_cons_succ, List.cons_append, List.nil_append, List.append_nil, List.replicate, List.length_cons, List.length_nil, List.take_succ_cons, List.take_zero, List.drop_succ_cons, List.drop_zero, List.reverse_cons, List.reverse_nil, true_and, and_true, forall_const, not_true_eq_false, not_false_eq_true, false_implies, true_implies, implies_true, one0, m10, Nat.reduceAdd, Nat.reduceSub, Nat.reduceLeDiff, Nat.zero_add, Nat.add_zero])
      exact L122 u 1 hu hQ
    have F : Q (some (.inl (if u = 0 then ib2 M k i j u else u))) M → G 121 [some (.inr (.inr (6, g))), none, some (.inl (nI i)), some (.inl (nI j)), some (.inr (.inr (10, k + 1 + 1 + i))), some (.inr (.inr (10, k + 1 + 1 + j))), none, none, some (.inl u), none] [] M := by
      intro hQ
      (apply h121; simp only [BX6_isBefore_121, s_mth, s_mab, s_at, s_iconst, s_lconst, s_iload, s_lload, s_aload, s_istore, s_lstore, s_astore, s_iinc, s_bin, s_binG, s_un, s_lbin, s_lbinG, s_lsh, s_lcmp, s_i2l, s_l2i, s_dup, s_dup2, s_pop, s_if, s_icmp, s_geti, s_getl, s_getr, s_puti, s_putz, s_putl, s_iald, s_zald, s_iast, s_zast, s_aaldS, s_aaldU, s_gets, s_tald, s_tsw, tsw, s_iret, s_zret, s_lret, s_aret, s_vret, s_callV, s_callS, c1, nl1, keepL, csum, pushR, inL, List.getD_cons_zero, List.getD_cons_succ, List.set_cons_zero, List.set_cons_succ, List.cons_append, List.nil_append, List.append_nil, List.replicate, List.length_cons, List.length_nil, List.take_succ_cons, List.take_zero, List.drop_succ_cons, List.drop_zero, List.reverse_cons, List.reverse_nil, true_and, and_true, forall_const, not_true_eq_false, not_false_eq_true, false_implies, true_implies, implies_true, one0, m10, Nat.reduceAdd, Nat.reduceSub, Nat.reduceLeDiff, Nat.zero_add, Nat.add_zero])
      exact L122 u 0 hu hQ
    unfold urg at hQ
    (apply h93; simp only [BX6_isBefore_93, s_mth, s_mab, s_at, s_iconst, s_lconst, s_iload, s_lload, s_aload, s_istore, s_lstore, s_astore, s_iinc, s_bin, s_binG, s_un, s_lbin, s_lbinG, s_lsh, s_lcmp, s_i2l, s_l2i, s_dup, s_dup2, s_pop, s_if, s_icmp, s_geti, s_getl, s_getr, s_puti, s_putz, s_putl, s_iald, s_zald, s_iast, s_zast, s_aaldS, s_aaldU, s_gets, s_tald, s_tsw, tsw, s_iret, s_zret, s_lret, s_aret, s_vret, s_callV, s_callS, c1, nl1, keepL, csum, pushR, inL, List.getD_cons_zero, List.getD_cons_succ, List.set_cons_zero, List.set_cons_succ, List.cons_append, List.nil_append, List.append_nil, List.replicate, List.length_cons, List.length_nil, List.take_succ_cons, List.take_zero, List.drop_succ_cons, List.drop_zero, List.reverse_cons, List.reverse_nil, true_and, and_true, forall_const, not_true_eq_false, not_false_eq_true, false_implies, true_implies, implies_true, one0, m10, Nat.reduceAdd, Nat.reduceSub, Nat.reduceLeDiff, Nat.zero_add, Nat.add_zero])
    refine ⟨fun h => ⟨fun h2 => ?_, fun h2 => ⟨fun h3 => ?_, fun h3 => ?_⟩⟩, fun h => ?_⟩
    · rw [if_pos h, if_pos h2] at hQ; exact F hQ
    · rw [if_pos h, if_neg h2, if_pos h3] at hQ; exact F hQ
    · rw [if_pos h, if_neg h2, if_neg h3] at hQ; exact T hQ
    · rw [if_neg h] at hQ; exact T hQ
  have L64 : ∀ (r : Int32), (r = 0 ∨ r = 1) → Q (some (.inl (ib1 M k i j r))) M → G 64 [some (.inr (.inr (6, g))), some (.inr (.inr (8, k))), some (.inl (nI i)), some (.inl (nI j)), some (.inr (.inr (10, k + 1 + 1 + i))), some (.inr (.inr (10, k + 1 + 1 + j))), some (.inl r), none, none, none] [.inl (pz (M.1 k 1))] M := by
    intro r hr hQ
    have T : urg M k (k + 1 + 1 + i) r = 1 → G 88 [some (.inr (.inr (6, g))), some (.inr (.inr (8, k))), some (.inl (nI i)), some (.inl (nI j)), some (.inr (.inr (10, k + 1 + 1 + i))), some (.inr (.inr (10, k + 1 + 1 + j))), some (.inl r), some (.inl (pz (M.1 k 1))), none, none] [] M := by
      intro h
      rw [ib1, h] at hQ
      (apply h88; simp only [BX6_isBefore_88, s_mth, s_mab, s_at, s_iconst, s_lconst, s_iload, s_lload, s_aload, s_istore, s_lstore, s_astore, s_iinc, s_bin, s_binG, s_un, s_lbin, s_lbinG, s_lsh, s_lcmp, s_i2l, s_l2i, s_dup, s_dup2, s_pop, s_if, s_icmp, s_geti, s_getl, s_getr, s_puti, s_putz, s_putl, s_iald, s_zald, s_iast, s_zast, s_aaldS, s_aaldU, s_gets, s_tald, s_tsw, tsw, s_iret, s_zret, s_lret, s_aret, s_vret, s_callV, s_callS, c1, nl1, keepL, csum, pushR, inL, List.getD_cons_zero, List.getD_cons_succ, List.set_cons_zero, List.set_cons_succ, List.cons_append, List.nil_append, List.append_nil, List.replicate, List.length_cons, List.length_nil, List.take_succ_cons, List.take_zero, List.drop_succ_cons, List.drop_zero, List.reverse_cons, List.reverse_nil, true_and, and_true, forall_const, not_true_eq_false, not_false_eq_true, false_implies, true_implies, implies_true, one0, m10, Nat.reduceAdd, Nat.reduceSub, Nat.reduceLeDiff, Nat.zero_add, Nat.add_zero])
      exact L93 r 1 hr (Or.inr rfl) hQ
    have F : urg M k (k + 1 + 1 + i) r = 0 → G 92 [some (.inr (.inr (6, g))), some (.inr (.inr (8, k))), some (.inl (nI i)), some (.inl (nI j)), some (.inr (.inr (10, k + 1 + 1 + i))), some (.inr (.inr (10, k + 1 + 1 + j))), some (.inl r), some (.inl (pz (M.1 k 1))), none, none] [] M := by
      intro h
      rw [ib1, h] at hQ
      (apply h92; simp only [BX6_isBefore_92, s_mth, s_mab, s_at, s_iconst, s_lconst, s_iload, s_lload, s_aload, s_istore, s_lstore, s_astore, s_iinc, s_bin, s_binG, s_un, s_lbin, s_lbinG, s_lsh, s_lcmp, s_i2l, s_l2i, s_dup, s_dup2, s_pop, s_if, s_icmp, s_geti, s_getl, s_getr, s_puti, s_putz, s_putl, s_iald, s_zald, s_iast, s_zast, s_aaldS, s_aaldU, s_gets, s_tald, s_tsw, tsw, s_iret, s_zret, s_lret, s_aret, s_vret, s_callV, s_callS, c1, nl1, keepL, csum, pushR, inL, List.getD_cons_zero, List.getD_cons_succ, List.set_cons_zero, List.set_cons_succ, List.cons_append, List.nil_append, List.append_nil, List.replicate, List.length_cons, List.length_nil, List.take_succ_cons, List.take_zero, List.drop_succ_cons, List.drop_zero, List.reverse_cons, List.reverse_nil, true_and, and_true, forall_const, not_true_eq_false, not_false_eq_true, false_implies, true_implies, implies_true, one0, m10, Nat.reduceAdd, Nat.reduceSub, Nat.reduceLeDiff, Nat.zero_add, Nat.add_zero])
      exact L93 r 0 hr (Or.inl rfl) hQ
    unfold urg at T F
    (apply h64; simp only [BX6_isBefore_64, s_mth, s_mab, s_at, s_iconst, s_lconst, s_iload, s_lload, s_aload, s_istore, s_lstore, s_astore, s_iinc, s_bin, s_binG, s_un, s_lbin, s_lbinG, s_lsh, s_lcmp, s_i2l, s_l2i, s_dup, s_dup2, s_pop, s_if, s_icmp, s_geti, s_getl, s_getr, s_puti, s_putz, s_putl, s_iald, s_zald, s_iast, s_zast, s_aaldS, s_aaldU, s_gets, s_tald, s_tsw, tsw, s_iret, s_zret, s_lret, s_aret, s_vret, s_callV, s_callS, c1, nl1, keepL, csum, pushR, inL, List.getD_cons_zero, List.getD_cons_succ, List.set_cons_zero, List.set_cons_succ, List.cons_append, List.nil_append, List.append_nil, List.replicate, List.length_cons, List.length_nil, List.take_succ_cons, List.take_zero, List.drop_succ_cons, List.drop_zero, List.reverse_cons, List.reverse_nil, true_and, and_true, forall_const, not_true_eq_false, not_false_eq_true, false_implies, true_implies, implies_true, one0, m10, Nat.reduceAdd, Nat.reduceSub, Nat.reduceLeDiff, Nat.zero_add, Nat.add_zero])
    refine ⟨fun h => ⟨fun h2 => ?_, fun h2 => ⟨fun h3 => ?_, fun h3 => ?_⟩⟩, fun h => ?_⟩
    · exact F (by rw [if_pos h, if_pos h2])
    · exact F (by rw [if_pos h, if_neg h2, if_pos h3])
    · exact T (by rw [if_pos h, if_neg h2, if_neg h3])
    · exact T (by rw [if_neg h])
  have L46 : ∀ (r w : Int32), (r = 0 ∨ r = 1) → Q (some (.inl (if r = w then ib1 M k i j r else r))) M → G 46 [some (.inr (.inr (6, g))), some (.inr (.inr (8, k))), some (.inl (nI i)), some (.inl (nI j)), some (.inr (.inr (10, k + 1 + 1 + i))), some (.inr (.inr (10, k + 1 + 1 + j))), some (.inl r), none, none, none] [.inl w, .inl r] M := by
    intro r w hr hQ
    (apply h46; simp only [BX6_isBefore_46, s_mth, s_mab, s_at, s_iconst, s_lconst, s_iload, s_lload, s_aload, s_istore, s_lstore, s_astore, s_iinc, s_bin, s_binG, s_un, s_lbin, s_lbinG, s_lsh, s_lcmp, s_i2l, s_l2i, s_dup, s_dup2, s_pop, s_if, s_icmp, s_geti, s_getl, s_getr, s_puti, s_putz, s_putl, s_iald, s_zald, s_iast, s_zast, s_aaldS, s_aaldU, s_gets, s_tald, s_tsw, tsw, s_iret, s_zret, s_lret, s_aret, s_vret, s_callV, s_callS, c1, nl1, keepL, csum, pushR, inL, List.getD_cons_zero, List.getD_cons_succ, List.set_cons_zero, List.set_cons_succ, List.cons_append, List.nil_append, List.append_nil, List.replicate, List.length_cons, List.length_nil, List.take_succ_cons, List.take_zero, List.drop_succ_cons, List.drop_zero, List.reverse_cons, List.reverse_nil, true_and, and_true, forall_const, not_true_eq_false, not_false_eq_true, false_implies, true_implies, implies_true, one0, m10, Nat.reduceAdd, Nat.reduceSub, Nat.reduceLeDiff, Nat.zero_add, Nat.add_zero])
    refine ⟨fun h => ?_, fun h => ?_⟩
    · rw [if_pos h] at hQ
      (apply h52; simp only [BX6_isBefore_52, s_mth, s_mab, s_at, s_iconst, s_lconst, s_iload, s_lload, s_aload, s_istore, s_lstore, s_astore, s_iinc, s_bin, s_binG, s_un, s_lbin, s_lbinG, s_lsh, s_lcmp, s_i2l, s_l2i, s_dup, s_dup2, s_pop, s_if, s_icmp, s_geti, s_getl, s_getr, s_puti, s_putz, s_putl, s_iald, s_zald, s_iast, s_zast, s_aaldS, s_aaldU, s_gets, s_tald, s_tsw, tsw, s_iret, s_zret, s_lret, s_aret, s_vret, s_callV, s_callS, c1, nl1, keepL, csum, pushR, inL, List.getD_cons_zero, List.getD_cons_succ, List.set_cons_zero, List.set_cons_succ, List.cons_append, List.nil_append, List.append_nil, List.replicate, List.length_cons, List.length_nil, List.take_succ_cons, List.take_zero, List.drop_succ_cons, List.drop_zero, List.reverse_cons, List.reverse_nil, true_and, and_true, forall_const, not_true_eq_false, not_false_eq_true, false_implies, true_implies, implies_true, one0, m10, Nat.reduceAdd, Nat.reduceSub, Nat.reduceLeDiff, Nat.zero_add, Nat.add_zero])
      have e := L64 r hr hQ
      unfold pz at e
      refine ⟨fun h2 => ?_, fun h2 => ?_⟩
      · rw [if_pos h2] at e
        (apply h63; simp only [BX6_isBefore_63, s_mth, s_mab, s_at, s_iconst, s_lconst, s_iload, s_lload, s_aload, s_istore, s_lstore, s_astore, s_iinc, s_bin, s_binG, s_un, s_lbin, s_lbinG, s_lsh, s_lcmp, s_i2l, s_l2i, s_dup, s_dup2, s_pop, s_if, s_icmp, s_geti, s_getl, s_getr, s_puti, s_putz, s_putl, s_iald, s_zald, s_iast, s_zast, s_aaldS, s_aaldU, s_gets, s_tald, s_tsw, tsw, s_iret, s_zret, s_lret, s_aret, s_vret, s_callV, s_callS, c1, nl1, keepL, csum, pushR, inL, List.getD_cons_zero, List.getD_cons_succ, List.set_cons_zero, List.set_cons_succ, List.cons_append, List.nil_append, List.append_nil, List.replicate, List.length_cons, List.length_nil, List.take_succ_cons, List.take_zero, List.drop_succ_cons, List.drop_zero, List.reverse_cons, List.reverse_nil, true_and, and_true, forall_const, not_true_eq_false, not_false_eq_true, false_implies, true_implies, implies_true, one0, m10, Nat.reduceAdd, Nat.reduceSub, Nat.reduceLeDiff, Nat.zero_add, Nat.add_zero])
        exact e
      · rw [if_neg h2] at e
        exact e
    · rw [if_neg h] at hQ
      exact ⟨hr, hQ⟩
  have L29 : ∀ (r : Int32), (r = 0 ∨ r = 1) → Q (some (.inl (if r = pz (M.1 (k + 1 + 1 + j) 5) then ib1 M k i j r else r))) M → G 29 [some (.inr (.inr (6, g))), some (.inr (.inr (8, k))), some (.inl (nI i)), some (.inl (nI j)), some (.inr (.inr (10, k + 1 + 1 + i))), some (.inr (.inr (10, k + 1 + 1 + j))), none, none, none, none] [.inl r] M := by
    intro r hr hQ
    have e := L46 r _ hr hQ
    unfold pz at e
    (apply h29; simp only [BX6_isBefore_29, s_mth, s_mab, s_at, s_iconst, s_lconst, s_iload, s_lload, s_aload, s_istore, s_lstore, s_astore, s_iinc, s_bin, s_binG, s_un, s_lbin, s_lbinG, s_lsh, s_lcmp, s_i2l, s_l2i, s_dup, s_dup2, s_pop, s_if, s_icmp, s_geti, s_getl, s_getr, s_puti, s_putz, s_putl, s_iald, s_zald, s_iast, s_zast, s_aaldS, s_aaldU, s_gets, s_tald, s_tsw, tsw, s_iret, s_zret, s_lret, s_aret, s_vret, s_callV, s_callS, c1, nl1, keepL, csum, pushR, inL, List.getD_cons_zero, List.getD_cons_succ, List.set_cons_zero, List.set_cons_succ, List.cons_append, List.nil_append, List.append_nil, List.replicate, List.length_cons, List.length_nil, List.take_succ_cons, List.take_zero, List.drop_succ_cons, List.drop_zero, List.reverse_cons, List.reverse_nil, true_and, and_true, forall_const, not_true_eq_false, not_false_eq_true, false_implies, true_implies, implies_true, one0, m10, Nat.reduceAdd, Nat.reduceSub, Nat.reduceLeDiff, Nat.zero_add, Nat.add_zero])
    refine ⟨fun h2 => ?_, fun h2 => ?_⟩
    · rw [if_pos h2] at e
      (apply h45; simp only [BX6_isBefore_45, s_mth, s_mab, s_at, s_iconst, s_lconst, s_iload, s_lload, s_aload, s_istore, s_lstore, s_astore, s_iinc, s_bin, s_binG, s_un, s_lbin, s_lbinG, s_lsh, s_lcmp, s_i2l, s_l2i, s_dup, s_dup2, s_pop, s_if, s_icmp, s_geti, s_getl, s_getr, s_puti, s_putz, s_putl, s_iald, s_zald, s_iast, s_zast, s_aaldS, s_aaldU, s_gets, s_tald, s_tsw, tsw, s_iret, s_zret, s_lret, s_aret, s_vret, s_callV, s_callS, c1, nl1, keepL, csum, pushR, inL, List.getD_cons_zero, List.getD_cons_succ, List.set_cons_zero, List.set_cons_succ, List.cons_append, List.nil_append, List.append_nil, List.replicate, List.length_cons, List.length_nil, List.take_succ_cons, List.take_zero, List.drop_succ_cons, List.drop_zero, List.reverse_cons, List.reverse_nil, true_and, and_true, forall_const, not_true_eq_false, not_false_eq_true, false_implies, true_implies, implies_true, one0, m10, Nat.reduceAdd, Nat.reduceSub, Nat.reduceLeDiff, Nat.zero_add, Nat.add_zero])
      exact e
    · rw [if_neg h2] at e
      exact e
  have e := L29 _ (pz_01 _) hQ
  unfold pz at e
  (apply h0; simp only [BX6_isBefore_0, s_mth, s_mab, s_at, s_iconst, s_lconst, s_iload, s_lload, s_aload, s_istore, s_lstore, s_astore, s_iinc, s_bin, s_binG, s_un, s_lbin, s_lbinG, s_lsh, s_lcmp, s_i2l, s_l2i, s_dup, s_dup2, s_pop, s_if, s_icmp, s_geti, s_getl, s_getr, s_puti, s_putz, s_putl, s_iald, s_zald, s_iast, s_zast, s_aaldS, s_aaldU, s_gets, s_tald, s_tsw, tsw, s_iret, s_zret, s_lret, s_aret, s_vret, s_callV, s_callS, c1, nl1, keepL, csum, pushR, inL, List.getD_cons_zero, List.getD_cons_succ, List.set_cons_zero, List.set_cons_succ, List.cons_append, List.nil_append, List.append_nil, List.replicate, List.length_cons, List.length_nil, List.take_succ_cons, List.take_zero, List.drop_succ_cons, List.drop_zero, List.reverse_cons, List.reverse_nil, true_and, and_true, forall_const, not_true_eq_false, not_false_eq_true, false_implies, true_implies, implies_true, one0, m10, Nat.reduceAdd, Nat.reduceSub, Nat.reduceLeDiff, Nat.zero_add, Nat.add_zero])
  simp only [hl, ei, ej]
  refine ⟨hvi, hvj, fun h2 => ?_, fun h2 => ?_⟩
  · rw [if_pos h2] at e
    (apply h28; simp only [BX6_isBefore_28, s_mth, s_mab, s_at, s_iconst, s_lconst, s_iload, s_lload, s_aload, s_istore, s_lstore, s_astore, s_iinc, s_bin, s_binG, s_un, s_lbin, s_lbinG, s_lsh, s_lcmp, s_i2l, s_l2i, s_dup, s_dup2, s_pop, s_if, s_icmp, s_geti, s_getl, s_getr, s_puti, s_putz, s_putl, s_iald, s_zald, s_iast, s_zast, s_aaldS, s_aaldU, s_gets, s_tald, s_tsw, tsw, s_iret, s_zret, s_lret, s_aret, s_vret, s_callV, s_callS, c1, nl1, keepL, csum, pushR, inL, List.getD_cons_zero, List.getD_cons_succ, List.set_cons_zero, List.set_cons_succ, List.cons_append, List.nil_append, List.append_nil, List.replicate, List.length_cons, List.length_nil, List.take_succ_cons, List.take_zero, List.drop_succ_cons, List.drop_zero, List.reverse_cons, List.reverse_nil, true_and, and_true, forall_const, not_true_eq_false, not_false_eq_true, false_implies, true_implies, implies_true, one0, m10, Nat.reduceAdd, Nat.reduceSub, Nat.reduceLeDiff, Nat.zero_add, Nat.add_zero])
    exact e
  · rw [if_neg h2] at e
    exact e
theorem ct_X6_isBefore (l : Launch) : Con l yX6_isBefore cX6_isBefore 10 (Option.some FieldType.boolean) 0 pre_X6_isBefore fn_X6_isBefore := con_of (by decide +kernel) ok_X6_isBefore len_X6_isBefore (fun p e s m args below meth c D ca ad A as M hX hr hp ho => pf_X6_isBefore _ _ (bsX6_isBefore_0 hX hr) (bsX6_isBefore_28 hX hr) (bsX6_isBefore_29 hX hr) (bsX6_isBefore_45 hX hr) (bsX6_isBefore_46 hX hr) (bsX6_isBefore_52 hX hr) (bsX6_isBefore_63 hX hr) (bsX6_isBefore_64 hX hr) (bsX6_isBefore_88 hX hr) (bsX6_isBefore_92 hX hr) (bsX6_isBefore_93 hX hr) (bsX6_isBefore_117 hX hr) (bsX6_isBefore_121 hX hr) (bsX6_isBefore_122 hX hr) (bsX6_isBefore_134 hX hr) (bsX6_isBefore_156 hX hr) (bsX6_isBefore_157 hX hr) (bsX6_isBefore_158 hX hr) (bsX6_isBefore_205 hX hr) (bsX6_isBefore_206 hX hr) as M ho hp ⟨rfl, rfl⟩)
def duS (M : mM) (k : Nat) (b : Int32) (i : Nat) (d : Int32) : Int32 := if mh M (k + 1 + 1 + i) i b = 0 then d else if d = -9 then nI i else if ib M k i d.toNatClampNeg = 0 then d else nI i
theorem duS_rng {M : mM} {k i N : Nat} {b d : Int32} (hi : i < N) (h : d = -9 ∨ ∃ j, j < N ∧ d = nI j) : duS M k b i d = -9 ∨ ∃ j, j < N ∧ duS M k b i d = nI j := by
  unfold duS
  split
  · exact h
  · split
    · exact Or.inr ⟨i, hi, rfl⟩
    · split
      · exact h
      · exact Or.inr ⟨i, hi, rfl⟩
def nU (M : mM) : Nat := (M.1 4 2).toNatClampNeg
def df (M : mM) (k : Nat) (b : Int32) : Int32 := itr (duS M k b) 0 (nU M) (-9)
theorem itr_inv {S : Type} (f : Nat → S → S) (I : S → Prop) : ∀ (n i : Nat) (s : S), (∀ j s, i ≤ j → j < i + n → I s → I (f j s)) → I s → I (itr f i n s)
  | 0, _, _, _, h => h
  | n + 1, i, s, hf, h => itr_inv f I n (i + 1) (f i s) (fun j s h1 h2 => hf j s (by omega) (by omega)) (hf i s (by omega) (by omega) h)
theorem df_rng {M : mM} {k : Nat} {b : Int32} : df M k b = -9 ∨ ∃ j, j < nU M ∧ df M k b = nI j :=
  itr_inv _ (fun d => d = -9 ∨ ∃ j, j < nU M ∧ d = nI j) _ _ _ (fun j s h1 h2 h => duS_rng (by omega) h) (Or.inl rfl)
def pre_X6_dueFor (as : List mV) (M : mM) : Prop := ∃ g k b, as = [.inr (.inr (6, g)), .inr (.inr (8, k)), .inl b] ∧ PL M
def fn_X6_dueFor : List mV → mM → Option mV × mM
  | [.inr (.inr (_, g)), .inr (.inr (_, k)), .inl b], M => (some (.inl (df M k b)), M)
  | _, M => (none, M)
theorem ok_X6_dueFor (as : List mV) (M : mM) (h : pre_X6_dueFor as M) (_ : ∀ v ∈ as, okV v) : okR (fn_X6_dueFor as M).1 := by
  obtain ⟨g, k, b, rfl, -⟩ := h
  first | trivial | exact (by decide +kernel : kof 14 = 8)
theorem len_X6_dueFor (as : List mV) (M : mM) (h : pre_X6_dueFor as M) : (inL as).length ≤ 5 := by
  obtain ⟨g, k, b, rfl, -⟩ := h
  exact Nat.le_of_ble_eq_true rfl

theorem fl_171 : FLk "FairBlocks$Scheduler" 24 6 0 8 := ⟨RX6, TX6, 5, rfl, inX6, by decide, w_171, by decide, rfl⟩
theorem fl_63 : FLk "FairBlocks$Scheduler" 66 5 2 0 := ⟨RX5, TX5, 5, rfl, inX5, by decide, w_63, by decide, rfl⟩
theorem dX6_dueFor_0 : decode cX6_dueFor 0 = .ok (.bipush (-9), 2) := by decide +kernel
theorem dX6_dueFor_2 : decode cX6_dueFor 2 = .ok (.istore_n 3, 1) := by decide +kernel
theorem dX6_dueFor_3 : decode cX6_dueFor 3 = .ok (.iconst 0, 1) := by decide +kernel
theorem dX6_dueFor_4 : decode cX6_dueFor 4 = .ok (.istore 4, 2) := by decide +kernel
theorem dX6_dueFor_6 : decode cX6_dueFor 6 = .ok (.iload 4, 2) := by decide +kernel
theorem dX6_dueFor_8 : decode cX6_dueFor 8 = .ok (.aload_n 0, 1) := by decide +kernel
theorem dX6_dueFor_9 : decode cX6_dueFor 9 = .ok (.getfield 24, 3) := by decide +kernel
theorem dX6_dueFor_12 : decode cX6_dueFor 12 = .ok (.getfield 66, 3) := by decide +kernel
theorem dX6_dueFor_15 : decode cX6_dueFor 15 = .ok (.if_icmp .ge 46, 3) := by decide +kernel
theorem dX6_dueFor_18 : decode cX6_dueFor 18 = .ok (.aload_n 0, 1) := by decide +kernel
theorem dX6_dueFor_19 : decode cX6_dueFor 19 = .ok (.aload_n 1, 1) := by decide +kernel
theorem dX6_dueFor_20 : decode cX6_dueFor 20 = .ok (.getfield 46, 3) := by decide +kernel
theorem dX6_dueFor_23 : decode cX6_dueFor 23 = .ok (.iload 4, 2) := by decide +kernel
theorem dX6_dueFor_25 : decode cX6_dueFor 25 = .ok (.aaload, 1) := by decide +kernel
theorem dX6_dueFor_26 : decode cX6_dueFor 26 = .ok (.iload 4, 2) := by decide +kernel
theorem dX6_dueFor_28 : decode cX6_dueFor 28 = .ok (.iload_n 2, 1) := by decide +kernel
theorem dX6_dueFor_29 : decode cX6_dueFor 29 = .ok (.invokevirtual 99, 3) := by decide +kernel
theorem dX6_dueFor_32 : decode cX6_dueFor 32 = .ok (.ifCond .eq 23, 3) := by decide +kernel
theorem dX6_dueFor_35 : decode cX6_dueFor 35 = .ok (.iload_n 3, 1) := by decide +kernel
theorem dX6_dueFor_36 : decode cX6_dueFor 36 = .ok (.bipush (-9), 2) := by decide +kernel
theorem dX6_dueFor_38 : decode cX6_dueFor 38 = .ok (.if_icmp .eq 14, 3) := by decide +kernel
theorem dX6_dueFor_41 : decode cX6_dueFor 41 = .ok (.aload_n 0, 1) := by decide +kernel
theorem dX6_dueFor_42 : decode cX6_dueFor 42 = .ok (.aload_n 1, 1) := by decide +kernel
theorem dX6_dueFor_43 : decode cX6_dueFor 43 = .ok (.iload 4, 2) := by decide +kernel
theorem dX6_dueFor_45 : decode cX6_dueFor 45 = .ok (.iload_n 3, 1) := by decide +kernel
theorem dX6_dueFor_46 : decode cX6_dueFor 46 = .ok (.invokevirtual 103, 3) := by decide +kernel
theorem dX6_dueFor_49 : decode cX6_dueFor 49 = .ok (.ifCond .eq 6, 3) := by decide +kernel
theorem dX6_dueFor_52 : decode cX6_dueFor 52 = .ok (.iload 4, 2) := by decide +kernel
theorem dX6_dueFor_54 : decode cX6_dueFor 54 = .ok (.istore_n 3, 1) := by decide +kernel
theorem dX6_dueFor_55 : decode cX6_dueFor 55 = .ok (.iinc 4 1, 3) := by decide +kernel
theorem dX6_dueFor_58 : decode cX6_dueFor 58 = .ok (.goto (-52), 3) := by decide +kernel
theorem dX6_dueFor_61 : decode cX6_dueFor 61 = .ok (.iload_n 3, 1) := by decide +kernel
theorem dX6_dueFor_62 : decode cX6_dueFor 62 = .ok (.ireturn, 1) := by decide +kernel
theorem mk_X6_dueFor : MVk yX6_dueFor "FairBlocks$Scheduler" cX6_dueFor 5 (Option.some FieldType.int) 2 := ⟨w_445, w_444, wp_2, w_7, rfl, by decide +kernel, by decide +kernel, by decide +kernel⟩
def BX6_dueFor_0 (G : Nat → KT) (Q : Option mV → mM → Prop) : KT := (s_iconst (-9) (s_istore 3 (s_iconst (0) (s_istore 4 (s_at G 6 [true, true, true, true, true])))))
set_option maxRecDepth 4000 in
theorem bsX6_dueFor_0 {p : Program} {l : Launch} {e : Env} {s : State} {m : MethodId} {args : Array Value} {below : List Frame} {meth : Method} {c : Code} {D : va_G} {ca : Nat → ClassId} {ad : Nat → Nat} {A : Nat → Prop} {Q : Option mV → mM → Prop} (hX : CX p s m args meth c 5 cX6_dueFor "FairBlocks$Scheduler" D ca ad A) (hr : meth.sig.returnType = (Option.some FieldType.int)) : ∀ lv st M, BX6_dueFor_0 (Gd p l e (rmD 1) s m args below meth c 5 D ca ad A 0 0 (MQ below (QC D ca ad A Q) args s 0 0 A)) Q lv st M → Gd p l e (rmD 1) s m args below meth c 5 D ca ad A 0 0 (MQ below (QC D ca ad A Q) args s 0 0 A) 0 lv st M :=
  (sd_bipush hX dX6_dueFor_0 rfl (sd_istore_n hX (by decide) dX6_dueFor_2 rfl (sd_iconst hX dX6_dueFor_3 rfl (sd_istore hX (by decide) dX6_dueFor_4 sd_at))))
def BX6_dueFor_6 (G : Nat → KT) (Q : Option mV → mM → Prop) : KT := (s_iload 4 (s_aload 0 (s_getr 6 5 (fun _ => 4) (s_geti 5 2 (s_icmp (fun x y => y ≤ x) (s_at G 61 [false, false, false, true, false]) (s_aload 0 (s_aload 1 (s_getr 8 16 (fun k => k + 1) (s_iload 4 (s_aaldU (s_iload 4 (s_iload 2 (s_callV 6 3 pre_X6_mayHave fn_X6_mayHave (s_if (fun x => x = 0) (s_at G 55 [true, true, true, true, true]) (s_iload 3 (s_iconst (-9) (s_icmp (fun x y => x = y) (s_at G 52 [true, true, true, false, true]) (s_aload 0 (s_aload 1 (s_iload 4 (s_iload 3 (s_callV 6 3 pre_X6_isBefore fn_X6_isBefore (s_if (fun x => x = 0) (s_at G 55 [true, true, true, true, true]) (s_at G 52 [true, true, true, false, true]))))))))))))))))))))))))
set_option maxRecDepth 4000 in
theorem bsX6_dueFor_6 {p : Program} {l : Launch} {e : Env} {s : State} {m : MethodId} {args : Array Value} {below : List Frame} {meth : Method} {c : Code} {D : va_G} {ca : Nat → ClassId} {ad : Nat → Nat} {A : Nat → Prop} {Q : Option mV → mM → Prop} (hX : CX p s m args meth c 5 cX6_dueFor "FairBlocks$Scheduler" D ca ad A) (hr : meth.sig.returnType = (Option.some FieldType.int)) : ∀ lv st M, BX6_dueFor_6 (Gd p l e (rmD 1) s m args below meth c 5 D ca ad A 0 0 (MQ below (QC D ca ad A Q) args s 0 0 A)) Q lv st M → Gd p l e (rmD 1) s m args below meth c 5 D ca ad A 0 0 (MQ below (QC D ca ad A Q) args s 0 0 A) 6 lv st M :=
  (sd_iload hX dX6_dueFor_6 (sd_aload_n hX dX6_dueFor_8 rfl (sd_getr hX fl_171 (fun _ => rfl) (fun _ _ _ => by decide +kernel) dX6_dueFor_9 (sd_geti hX fl_63 (by decide) dX6_dueFor_12 (sd_icmp_ge hX dX6_dueFor_15 (by decide) sd_at (sd_aload_n hX dX6_dueFor_18 rfl (sd_aload_n hX dX6_dueFor_19 rfl (sd_getr hX fl_146 (fun _ => rfl) okA dX6_dueFor_20 (sd_iload hX dX6_dueFor_23 (sd_aaldU hX dX6_dueFor_25 (sd_iload hX dX6_dueFor_26 (sd_iload_n hX dX6_dueFor_28 rfl (sd_callV hX (kd := 6) rfl (by decide) (ct_X6_mayHave l) mk_X6_mayHave w_446 ⟨⟨by decide, by decide⟩, by decide, by decide⟩ dX6_dueFor_29 (sd_if_eq hX dX6_dueFor_32 (by decide) sd_at (sd_iload_n hX dX6_dueFor_35 rfl (sd_bipush hX dX6_dueFor_36 rfl (sd_icmp_eq hX dX6_dueFor_38 (by decide) sd_at (sd_aload_n hX dX6_dueFor_41 rfl (sd_aload_n hX dX6_dueFor_42 rfl (sd_iload hX dX6_dueFor_43 (sd_iload_n hX dX6_dueFor_45 rfl (sd_callV hX (kd := 6) rfl (by decide) (ct_X6_isBefore l) mk_X6_isBefore w_450 ⟨⟨by decide, by decide⟩, by decide, by decide⟩ dX6_dueFor_46 (sd_if_eq hX dX6_dueFor_49 (by decide) sd_at sd_at)))))))))))))))))))))))
def BX6_dueFor_52 (G : Nat → KT) (Q : Option mV → mM → Prop) : KT := (s_iload 4 (s_istore 3 (s_at G 55 [true, true, true, true, true])))
set_option maxRecDepth 4000 in
theorem bsX6_dueFor_52 {p : Program} {l : Launch} {e : Env} {s : State} {m : MethodId} {args : Array Value} {below : List Frame} {meth : Method} {c : Code} {D : va_G} {ca : Nat → ClassId} {ad : Nat → Nat} {A : Nat → Prop} {Q : Option mV → mM → Prop} (hX : CX p s m args meth c 5 cX6_dueFor "FairBlocks$Scheduler" D ca ad A) (hr : meth.sig.returnType = (Option.some FieldType.int)) : ∀ lv st M, BX6_dueFor_52 (Gd p l e (rmD 1) s m args below meth c 5 D ca ad A 0 0 (MQ below (QC D ca ad A Q) args s 0 0 A)) Q lv st M → Gd p l e (rmD 1) s m args below meth c 5 D ca ad A 0 0 (MQ below (QC D ca ad A Q) args s 0 0 A) 52 lv st M :=
  (sd_iload hX dX6_dueFor_52 (sd_istore_n hX (by decide) dX6_dueFor_54 rfl sd_at))
def BX6_dueFor_55 (G : Nat → KT) (Q : Option mV → mM → Prop) : KT := (s_iinc 4 (1) (s_at G 6 [true, true, true, true, true]))
set_option maxRecDepth 4000 in
theorem bsX6_dueFor_55 {p : Program} {l : Launch} {e : Env} {s : State} {m : MethodId} {args : Array Value} {below : List Frame} {meth : Method} {c : Code} {D : va_G} {ca : Nat → ClassId} {ad : Nat → Nat} {A : Nat → Prop} {Q : Option mV → mM → Prop} (hX : CX p s m args meth c 5 cX6_dueFor "FairBlocks$Scheduler" D ca ad A) (hr : meth.sig.returnType = (Option.some FieldType.int)) : ∀ lv st M, BX6_dueFor_55 (Gd p l e (rmD 1) s m args below meth c 5 D ca ad A 0 0 (MQ below (QC D ca ad A Q) args s 0 0 A)) Q lv st M → Gd p l e (rmD 1) s m args below meth c 5 D ca ad A 0 0 (MQ below (QC D ca ad A Q) args s 0 0 A) 55 lv st M :=
  (sd_iinc hX (by decide) dX6_dueFor_55 rfl (sd_goto hX dX6_dueFor_58 (by decide) sd_at))
def BX6_dueFor_61 (G : Nat → KT) (Q : Option mV → mM → Prop) : KT := (s_iload 3 (s_iret Q))
set_option maxRecDepth 4000 in
theorem bsX6_dueFor_61 {p : Program} {l : Launch} {e : Env} {s : State} {m : MethodId} {args : Array Value} {below : List Frame} {meth : Method} {c : Code} {D : va_G} {ca : Nat → ClassId} {ad : Nat → Nat} {A : Nat → Prop} {Q : Option mV → mM → Prop} (hX : CX p s m args meth c 5 cX6_dueFor "FairBlocks$Scheduler" D ca ad A) (hr : meth.sig.returnType = (Option.some FieldType.int)) : ∀ lv st M, BX6_dueFor_61 (Gd p l e (rmD 1) s m args below meth c 5 D ca ad A 0 0 (MQ below (QC D ca ad A Q) args s 0 0 A)) Q lv st M → Gd p l e (rmD 1) s m args below meth c 5 D ca ad A 0 0 (MQ below (QC D ca ad A Q) args s 0 0 A) 61 lv st M :=
  (sd_iload_n hX dX6_dueFor_61 rfl (sd_iret hX hr dX6_dueFor_62))
set_option maxHeartbeats 400000 in
theorem pf_X6_dueFor (G : Nat → KT) (Q : Option mV → mM → Prop) (h0 : ∀ lv st M, BX6_dueFor_0 G Q lv st M → G 0 lv st M) (h6 : ∀ lv st M, BX6_dueFor_6 G Q lv st M → G 6 lv st M) (h52 : ∀ lv st M, BX6_dueFor_52 G Q lv st M → G 52 lv st M) (h55 : ∀ lv st M, BX6_dueFor_55 G Q lv st M → G 55 lv st M) (h61 : ∀ lv st M, BX6_dueFor_61 G Q lv st M → G 61 lv st M) (as : List mV) (M : mM) (ho : ∀ v ∈ as, okV v) (hp : pre_X6_dueFor as M) (hQ : Q (fn_X6_dueFor as M).1 (fn_X6_dueFor as M).2) : G 0 (inL as ++ List.replicate (5 - (inL as).length) none) [] M := by
  obtain ⟨g, k, b, rfl, ⟨N, hN, eN⟩, -⟩ := hp
  have hk : kof k = 8 := ho (.inr (.inr (8, k))) (by simp)
  have hl := lnU hk
  have en : nU M = N := by unfold nU; rw [eN]; exact nI_clamp (by omega)
  simp only [fn_X6_dueFor, df, en] at hQ
  have loop : ∀ (n i : Nat) (d : Int32), i + n = N → (d = -9 ∨ ∃ j, j < N ∧ d = nI j) → Q (some (.inl (itr (duS M k b) i n d))) M → G 6 [some (.inr (.inr (6, g))), some (.inr (.inr (8, k))), some (.inl b), some (.inl d), some (.inl (nI i))] [] M := by
    intro n
    induction n with
    | zero =>
      intro i d hi hd hq
      obtain rfl : i = N := by omega
      (apply h6; simp only [BX6_dueFor_6, s_mth, s_mab, s_at, s_iconst, s_lconst, s_iload, s_lload, s_aload, s_istore, s_lstore, s_astore, s_iinc, s_bin, s_binG, s_un, s_lbin, s_lbinG, s_lsh, s_lcmp, s_i2l, s_l2i, s_dup, s_dup2, s_pop, s_if, s_icmp, s_geti, s_getl, s_getr, s_puti, s_putz, s_putl, s_iald, s_zald, s_iast, s_zast, s_aaldS, s_aaldU, s_gets, s_tald, s_tsw, tsw, s_iret, s_zret, s_lret, s_aret, s_vret, s_callV, s_callS, c1, nl1, keepL, csum, pushR, inL, List.getD_cons_zero, List.getD_cons_succ, List.set_cons_zero, List.set_cons_succ, List.cons_append, List.nil_append, List.append_nil, List.replicate, List.length_cons, List.length_nil, List.take_succ_cons, List.take_zero, List.drop_succ_cons, List.drop_zero, List.reverse_cons, List.reverse_nil, true_and, and_true, forall_const, not_true_eq_false, not_false_eq_true, false_implies, true_implies, implies_true, one0, m10, Nat.reduceAdd, Nat.reduceSub, Nat.reduceLeDiff, Nat.zero_add, Nat.add_zero, fn_X6_isBefore, fn_X6_mayHave])
      rw [eN]
      refine ⟨fun _ => ?_, fun h => absurd (nI_le (Nat.le_refl i) (by omega)) h⟩
      (apply h61; simp only [BX6_dueFor_61, s_mth, s_mab, s_at, s_iconst, s_lconst, s_iload, s_lload, s_aload, s_istore, s_lstore, s_astore, s_iinc, s_bin, s_binG, s_un, s_lbin, s_lbinG, s_lsh, s_lcmp, s_i2l, s_l2i, s_dup, s_dup2, s_pop, s_if, s_icmp, s_geti, s_getl, s_getr, s_puti, s_putz, s_putl, s_iald, s_zald, s_iast, s_zast, s_aaldS, s_aaldU, s_gets, s_tald, s_tsw, tsw, s_iret, s_zret, s_lret, s_aret, s_vret, s_callV, s_callS, c1, nl1, keepL, csum, pushR, inL, List.getD_cons_zero, List.getD_cons_succ, List.set_cons_zero, List.set_cons_succ, List.cons_append, List.nil_append, List.append_nil, List.replicate, List.length_cons, List.length_nil, List.take_succ_cons, List.take_zero, List.drop_succ_cons, List.drop_zero, List.reverse_cons, List.reverse_nil, true_and, and_true, forall_const, not_true_eq_false, not_false_eq_true, false_implies, true_implies, implies_true, one0, m10, Nat.reduceAdd, Nat.reduceSub, Nat.reduceLeDiff, Nat.zero_add, Nat.add_zero, fn_X6_isBefore, fn_X6_mayHave])
      exact hq
    | succ n ih =>
      intro i d hi hd hq
      have ei : (nI i).toNatClampNeg = i := nI_clamp (by omega)
      have step : ∀ d2, d2 = duS M k b i d → G 55 [some (.inr (.inr (6, g))), some (.inr (.inr (8, k))), some (.inl b), some (.inl d2), some (.inl (nI i))] [] M := by
        intro d2 e
        (apply h55; simp only [BX6_dueFor_55, s_mth, s_mab, s_at, s_iconst, s_lconst, s_iload, s_lload, s_aload, s_istore, s_lstore, s_astore, s_iinc, s_bin, s_binG, s_un, s_lbin, s_lbinG, s_lsh, s_lcmp, s_i2l, s_l2i, s_dup, s_dup2, s_pop, s_if, s_icmp, s_geti, s_getl, s_getr, s_puti, s_putz, s_putl, s_iald, s_zald, s_iast, s_zast, s_aaldS, s_aaldU, s_gets, s_tald, s_tsw, tsw, s_iret, s_zret, s_lret, s_aret, s_vret, s_callV, s_callS, c1, nl1, keepL, csum, pushR, inL, List.getD_cons_zero, List.getD_cons_succ, List.set_cons_zero, List.set_cons_succ, List.cons_append, List.nil_append, List.append_nil, List.replicate, List.length_cons, List.length_nil, List.take_succ_cons, List.take_zero, List.drop_succ_cons, List.drop_zero, List.reverse_cons, List.reverse_nil, true_and, and_true, forall_const, not_true_eq_false, not_false_eq_true, false_implies, true_implies, implies_true, one0, m10, Nat.reduceAdd, Nat.reduceSub, Nat.reduceLeDiff, Nat.zero_add, Nat.add_zero, fn_X6_isBefore, fn_X6_mayHave])
        rw [nI_1]
        refine ih (i + 1) d2 (by omega) (by rw [e]; exact duS_rng (by omega) hd) ?_
        rw [e]
        exact hq
      (apply h6; simp only [BX6_dueFor_6, s_mth, s_mab, s_at, s_iconst, s_lconst, s_iload, s_lload, s_aload, s_istore, s_lstore, s_astore, s_iinc, s_bin, s_binG, s_un, s_lbin, s_lbinG, s_lsh, s_lcmp, s_i2l, s_l2i, s_dup, s_dup2, s_pop, s_if, s_icmp, s_geti, s_getl, s_getr, s_puti, s_putz, s_putl, s_iald, s_zald, s_iast, s_zast, s_aaldS, s_aaldU, s_gets, s_tald, s_tsw, tsw, s_iret, s_zret, s_lret, s_aret, s_vret, s_callV, s_callS, c1, nl1, keepL, csum, pushR, inL, List.getD_cons_zero, List.getD_cons_succ, List.set_cons_zero, List.set_cons_succ, List.cons_append, List.nil_append, List.append_nil, List.replicate, List.length_cons, List.length_nil, List.take_succ_cons, List.take_zero, List.drop_succ_cons, List.drop_zero, List.reverse_cons, List.reverse_nil, true_and, and_true, forall_const, not_true_eq_false, not_false_eq_true, false_implies, true_implies, implies_true, one0, m10, Nat.reduceAdd, Nat.reduceSub, Nat.reduceLeDiff, Nat.zero_add, Nat.add_zero, fn_X6_isBefore, fn_X6_mayHave])
      simp only [eN, hl, ei]
      refine ⟨fun h => absurd h (nI_ge (by omega) (by omega)), fun _ => ⟨vp_in_nI (by omega) (by decide), ⟨_, _, _, _, rfl, i, by omega, rfl⟩, fun h => ?_, fun h => ⟨fun h2 => ?_, fun h2 => ?_⟩⟩⟩
      · exact step d (by rw [duS, if_pos h])
      · (apply h52; simp only [BX6_dueFor_52, s_mth, s_mab, s_at, s_iconst, s_lconst, s_iload, s_lload, s_aload, s_istore, s_lstore, s_astore, s_iinc, s_bin, s_binG, s_un, s_lbin, s_lbinG, s_lsh, s_lcmp, s_i2l, s_l2i, s_dup, s_dup2, s_pop, s_if, s_icmp, s_geti, s_getl, s_getr, s_puti, s_putz, s_putl, s_iald, s_zald, s_iast, s_zast, s_aaldS, s_aaldU, s_gets, s_tald, s_tsw, tsw, s_iret, s_zret, s_lret, s_aret, s_vret, s_callV, s_callS, c1, nl1, keepL, csum, pushR, inL, List.getD_cons_zero, List.getD_cons_succ, List.set_cons_zero, List.set_cons_succ, List.cons_append, List.nil_append, List.append_nil, List.replicate, List.length_cons, List.length_nil, List.take_succ_cons, List.take_zero, List.drop_succ_cons, List.drop_zero, List.reverse_cons, List.reverse_nil, true_and, and_true, forall_const, not_true_eq_false, not_false_eq_true, false_implies, true_implies, implies_true, one0, m10, Nat.reduceAdd, Nat.reduceSub, Nat.reduceLeDiff, Nat.zero_add, Nat.add_zero, fn_X6_isBefore, fn_X6_mayHave])
        exact step (nI i) (by rw [duS, if_neg h, if_pos h2])
      · have hd2 : ∃ j, j < N ∧ d = nI j := by
          rcases hd with e | e
          · exact absurd e h2
          · exact e
        obtain ⟨j, hj, e⟩ := hd2
        refine ⟨⟨_, _, _, _, rfl, ⟨i, by omega, rfl⟩, j, by omega, e⟩, fun h3 => ?_, fun h3 => ?_⟩
        · exact step d (by rw [duS, if_neg h, if_neg h2, if_pos h3])
        · (apply h52; simp only [BX6_dueFor_52, s_mth, s_mab, s_at, s_iconst, s_lconst, s_iload, s_lload, s_aload, s_istore, s_lstore, s_astore, s_iinc, s_bin, s_binG, s_un, s_lbin, s_lbinG, s_lsh, s_lcmp, s_i2l, s_l2i, s_dup, s_dup2, s_pop, s_if, s_icmp, s_geti, s_getl, s_getr, s_puti, s_putz, s_putl, s_iald, s_zald, s_iast, s_zast, s_aaldS, s_aaldU, s_gets, s_tald, s_tsw, tsw, s_iret, s_zret, s_lret, s_aret, s_vret, s_callV, s_callS, c1, nl1, keepL, csum, pushR, inL, List.getD_cons_zero, List.getD_cons_succ, List.set_cons_zero, List.set_cons_succ, List.cons_append, List.nil_append, List.append_nil, List.replicate, List.length_cons, List.length_nil, List.take_succ_cons, List.take_zero, List.drop_succ_cons, List.drop_zero, List.reverse_cons, List.reverse_nil, true_and, and_true, forall_const, not_true_eq_false, not_false_eq_true, false_implies, true_implies, implies_true, one0, m10, Nat.reduceAdd, Nat.reduceSub, Nat.reduceLeDiff, Nat.zero_add, Nat.add_zero, fn_X6_isBefore, fn_X6_mayHave])
          exact step (nI i) (by rw [duS, if_neg h, if_neg h2, if_neg h3])
  (apply h0; simp only [BX6_dueFor_0, s_mth, s_mab, s_at, s_iconst, s_lconst, s_iload, s_lload, s_aload, s_istore, s_lstore, s_astore, s_iinc, s_bin, s_binG, s_un, s_lbin, s_lbinG, s_lsh, s_lcmp, s_i2l, s_l2i, s_dup, s_dup2, s_pop, s_if, s_icmp, s_geti, s_getl, s_getr, s_puti, s_putz, s_putl, s_iald, s_zald, s_iast, s_zast, s_aaldS, s_aaldU, s_gets, s_tald, s_tsw, tsw, s_iret, s_zret, s_lret, s_aret, s_vret, s_callV, s_callS, c1, nl1, keepL, csum, pushR, inL, List.getD_cons_zero, List.getD_cons_succ, List.set_cons_zero, List.set_cons_succ, List.cons_append, List.nil_append, List.append_nil, List.replicate, List.length_cons, List.length_nil, List.take_succ_cons, List.take_zero, List.drop_succ_cons, List.drop_zero, List.reverse_cons, List.reverse_nil, true_and, and_true, forall_const, not_true_eq_false, not_false_eq_true, false_implies, true_implies, implies_true, one0, m10, Nat.reduceAdd, Nat.reduceSub, Nat.reduceLeDiff, Nat.zero_add, Nat.add_zero, fn_X6_isBefore, fn_X6_mayHave])
  exact loop N 0 (-9) (by omega) (Or.inl rfl) hQ
theorem ct_X6_dueFor (l : Launch) : Con l yX6_dueFor cX6_dueFor 5 (Option.some FieldType.int) 1 pre_X6_dueFor fn_X6_dueFor := con_of (by decide +kernel) ok_X6_dueFor len_X6_dueFor (fun p e s m args below meth c D ca ad A as M hX hr hp ho => pf_X6_dueFor _ _ (bsX6_dueFor_0 hX hr) (bsX6_dueFor_6 hX hr) (bsX6_dueFor_52 hX hr) (bsX6_dueFor_55 hX hr) (bsX6_dueFor_61 hX hr) as M ho hp ⟨rfl, rfl⟩)
end
section
/-! a slot of the class -/
def tkn (M : mM) (uk : Nat) : mM := mset M uk 4 (if M.1 uk 4 + M.1 uk 0 ≤ 999 then M.1 uk 4 + M.1 uk 0 else 999)
def ciS (k i : Nat) (M : mM) : mM := mset (mset (mset (tkn M (k + 1 + 1 + i)) 22 i (rt (tkn M (k + 1 + 1 + i)) (nI i) ((tkn M (k + 1 + 1 + i)).1 k 2))) 23 i (-1)) 24 i 0
theorem nU_mset {M : mM} {k j : Nat} {v : Int32} (h4 : k ≠ 4) : nU (mset M k j v) = nU M := by unfold nU; rw [mset_n (Ne.symm h4)]
theorem PL_tkn {M : mM} {uk : Nat} (h : PL M) (hk : kof uk = 10) : PL (tkn M uk) := PL_mset h (kne (by rw [hk]; decide +kernel)) (kne (by rw [hk]; decide +kernel))
theorem PL_ciS {M : mM} {k i : Nat} (h : PL M) (hk : kof k = 8) (hi : i < 5) : PL (ciS k i M) :=
  PL_mset (PL_mset (PL_mset (PL_tkn h (kU hk hi)) (by decide) (by decide)) (by decide) (by decide)) (by decide) (by decide)
theorem p4_ciS {M : mM} {k i : Nat} (hk : kof k = 8) (hi : i < 5) : (ciS k i M).1 4 = M.1 4 := by
  unfold ciS tkn
  rw [mset_n (by decide), mset_n (by decide), mset_n (by decide), mset_n (kne (by rw [kU hk hi]; decide +kernel))]
def comeIn (M : mM) (k : Nat) : mM := itr (ciS k) 0 (nU M) M
def pre_X6_comeIn (as : List mV) (M : mM) : Prop := ∃ g k, as = [.inr (.inr (6, g)), .inr (.inr (8, k))] ∧ PL M
def fn_X6_comeIn : List mV → mM → Option mV × mM
  | [.inr (.inr (_, g)), .inr (.inr (_, k))], M => (none, comeIn M k)
  | _, M => (none, M)
theorem ok_X6_comeIn (as : List mV) (M : mM) (h : pre_X6_comeIn as M) (_ : ∀ v ∈ as, okV v) : okR (fn_X6_comeIn as M).1 := by
  obtain ⟨g, k, rfl, -⟩ := h
  first | trivial | exact (by decide +kernel : kof 14 = 8)
theorem len_X6_comeIn (as : List mV) (M : mM) (h : pre_X6_comeIn as M) : (inL as).length ≤ 4 := by
  obtain ⟨g, k, rfl, -⟩ := h
  exact Nat.le_of_ble_eq_true rfl

theorem fl_155 : FLk "FairBlocks$Scheduler" 75 8 2 0 := ⟨RX8, TX8, 3, rfl, inX8, by decide, w_155, by decide, rfl⟩
theorem fl_174 : FLk "FairBlocks$Scheduler" 18 6 3 16 := ⟨RX6, TX6, 5, rfl, inX6, by decide, w_174, by decide, rfl⟩
theorem fl_94 : FLk "FairBlocks$Scheduler" 68 10 0 0 := ⟨RX10, TX10, 10, rfl, inX10, by decide, w_94, by decide, rfl⟩
theorem dX6_comeIn_0 : decode cX6_comeIn 0 = .ok (.iconst 0, 1) := by decide +kernel
theorem dX6_comeIn_1 : decode cX6_comeIn 1 = .ok (.istore_n 2, 1) := by decide +kernel
theorem dX6_comeIn_2 : decode cX6_comeIn 2 = .ok (.iload_n 2, 1) := by decide +kernel
theorem dX6_comeIn_3 : decode cX6_comeIn 3 = .ok (.aload_n 0, 1) := by decide +kernel
theorem dX6_comeIn_4 : decode cX6_comeIn 4 = .ok (.getfield 24, 3) := by decide +kernel
theorem dX6_comeIn_7 : decode cX6_comeIn 7 = .ok (.getfield 66, 3) := by decide +kernel
theorem dX6_comeIn_10 : decode cX6_comeIn 10 = .ok (.if_icmp .ge 56, 3) := by decide +kernel
theorem dX6_comeIn_13 : decode cX6_comeIn 13 = .ok (.aload_n 1, 1) := by decide +kernel
theorem dX6_comeIn_14 : decode cX6_comeIn 14 = .ok (.getfield 46, 3) := by decide +kernel
theorem dX6_comeIn_17 : decode cX6_comeIn 17 = .ok (.iload_n 2, 1) := by decide +kernel
theorem dX6_comeIn_18 : decode cX6_comeIn 18 = .ok (.aaload, 1) := by decide +kernel
theorem dX6_comeIn_19 : decode cX6_comeIn 19 = .ok (.astore_n 3, 1) := by decide +kernel
theorem dX6_comeIn_20 : decode cX6_comeIn 20 = .ok (.aload_n 3, 1) := by decide +kernel
theorem dX6_comeIn_21 : decode cX6_comeIn 21 = .ok (.aload_n 3, 1) := by decide +kernel
theorem dX6_comeIn_22 : decode cX6_comeIn 22 = .ok (.getfield 68, 3) := by decide +kernel
theorem dX6_comeIn_25 : decode cX6_comeIn 25 = .ok (.invokevirtual 71, 3) := by decide +kernel
theorem dX6_comeIn_28 : decode cX6_comeIn 28 = .ok (.aload_n 0, 1) := by decide +kernel
theorem dX6_comeIn_29 : decode cX6_comeIn 29 = .ok (.getfield 9, 3) := by decide +kernel
theorem dX6_comeIn_32 : decode cX6_comeIn 32 = .ok (.iload_n 2, 1) := by decide +kernel
theorem dX6_comeIn_33 : decode cX6_comeIn 33 = .ok (.aload_n 0, 1) := by decide +kernel
theorem dX6_comeIn_34 : decode cX6_comeIn 34 = .ok (.getfield 24, 3) := by decide +kernel
theorem dX6_comeIn_37 : decode cX6_comeIn 37 = .ok (.iload_n 2, 1) := by decide +kernel
theorem dX6_comeIn_38 : decode cX6_comeIn 38 = .ok (.aload_n 1, 1) := by decide +kernel
theorem dX6_comeIn_39 : decode cX6_comeIn 39 = .ok (.getfield 75, 3) := by decide +kernel
theorem dX6_comeIn_42 : decode cX6_comeIn 42 = .ok (.invokevirtual 78, 3) := by decide +kernel
theorem dX6_comeIn_45 : decode cX6_comeIn 45 = .ok (.iastore, 1) := by decide +kernel
theorem dX6_comeIn_46 : decode cX6_comeIn 46 = .ok (.aload_n 0, 1) := by decide +kernel
theorem dX6_comeIn_47 : decode cX6_comeIn 47 = .ok (.getfield 15, 3) := by decide +kernel
theorem dX6_comeIn_50 : decode cX6_comeIn 50 = .ok (.iload_n 2, 1) := by decide +kernel
theorem dX6_comeIn_51 : decode cX6_comeIn 51 = .ok (.iconst (-1), 1) := by decide +kernel
theorem dX6_comeIn_52 : decode cX6_comeIn 52 = .ok (.iastore, 1) := by decide +kernel
theorem dX6_comeIn_53 : decode cX6_comeIn 53 = .ok (.aload_n 0, 1) := by decide +kernel
theorem dX6_comeIn_54 : decode cX6_comeIn 54 = .ok (.getfield 18, 3) := by decide +kernel
theorem dX6_comeIn_57 : decode cX6_comeIn 57 = .ok (.iload_n 2, 1) := by decide +kernel
theorem dX6_comeIn_58 : decode cX6_comeIn 58 = .ok (.iconst 0, 1) := by decide +kernel
theorem dX6_comeIn_59 : decode cX6_comeIn 59 = .ok (.iastore, 1) := by decide +kernel
theorem dX6_comeIn_60 : decode cX6_comeIn 60 = .ok (.iinc 2 1, 3) := by decide +kernel
theorem dX6_comeIn_63 : decode cX6_comeIn 63 = .ok (.goto (-61), 3) := by decide +kernel
theorem dX6_comeIn_66 : decode cX6_comeIn 66 = .ok (.return_, 1) := by decide +kernel
theorem mk_X6_comeIn : MVk yX6_comeIn "FairBlocks$Scheduler" cX6_comeIn 4 (Option.none : Option FieldType) 1 := ⟨w_436, w_435, wp_1, w_7, rfl, by decide +kernel, by decide +kernel, by decide +kernel⟩
def BX6_comeIn_0 (G : Nat → KT) (Q : Option mV → mM → Prop) : KT := (s_iconst (0) (s_istore 2 (s_at G 2 [true, true, true, false])))
set_option maxRecDepth 4000 in
theorem bsX6_comeIn_0 {p : Program} {l : Launch} {e : Env} {s : State} {m : MethodId} {args : Array Value} {below : List Frame} {meth : Method} {c : Code} {D : va_G} {ca : Nat → ClassId} {ad : Nat → Nat} {A : Nat → Prop} {Q : Option mV → mM → Prop} (hX : CX p s m args meth c 4 cX6_comeIn "FairBlocks$Scheduler" D ca ad A) (hr : meth.sig.returnType = (Option.none : Option FieldType)) : ∀ lv st M, BX6_comeIn_0 (Gd p l e (rmD 1) s m args below meth c 4 D ca ad A 0 0 (MQ below (QC D ca ad A Q) args s 0 0 A)) Q lv st M → Gd p l e (rmD 1) s m args below meth c 4 D ca ad A 0 0 (MQ below (QC D ca ad A Q) args s 0 0 A) 0 lv st M :=
  (sd_iconst hX dX6_comeIn_0 rfl (sd_istore_n hX (by decide) dX6_comeIn_1 rfl sd_at))
def BX6_comeIn_2 (G : Nat → KT) (Q : Option mV → mM → Prop) : KT := (s_iload 2 (s_aload 0 (s_getr 6 5 (fun _ => 4) (s_geti 5 2 (s_icmp (fun x y => y ≤ x) (s_at G 66 [false, false, false, false]) (s_aload 1 (s_getr 8 16 (fun k => k + 1) (s_iload 2 (s_aaldU (s_astore 3 (s_aload 3 (s_aload 3 (s_geti 10 0 (s_callV 10 1 pre_X10_takeIn fn_X10_takeIn (s_aload 0 (s_getr 6 13 (fun _ => 22) (s_iload 2 (s_aload 0 (s_getr 6 5 (fun _ => 4) (s_iload 2 (s_aload 1 (s_geti 8 2 (s_callV 5 2 pre_X5_rateOf fn_X5_rateOf (s_iast (s_aload 0 (s_getr 6 13 (fun _ => 23) (s_iload 2 (s_iconst (-1) (s_iast (s_aload 0 (s_getr 6 13 (fun _ => 24) (s_iload 2 (s_iconst (0) (s_iast (s_iinc 2 (1) (s_at G 2 [true, true, true, false]))))))))))))))))))))))))))))))))))))
set_option maxRecDepth 4000 in
theorem bsX6_comeIn_2 {p : Program} {l : Launch} {e : Env} {s : State} {m : MethodId} {args : Array Value} {below : List Frame} {meth : Method} {c : Code} {D : va_G} {ca : Nat → ClassId} {ad : Nat → Nat} {A : Nat → Prop} {Q : Option mV → mM → Prop} (hX : CX p s m args meth c 4 cX6_comeIn "FairBlocks$Scheduler" D ca ad A) (hr : meth.sig.returnType = (Option.none : Option FieldType)) : ∀ lv st M, BX6_comeIn_2 (Gd p l e (rmD 1) s m args below meth c 4 D ca ad A 0 0 (MQ below (QC D ca ad A Q) args s 0 0 A)) Q lv st M → Gd p l e (rmD 1) s m args below meth c 4 D ca ad A 0 0 (MQ below (QC D ca ad A Q) args s 0 0 A) 2 lv st M :=
  (sd_iload_n hX dX6_comeIn_2 rfl (sd_aload_n hX dX6_comeIn_3 rfl (sd_getr hX fl_171 (fun _ => rfl) (fun _ _ _ => by decide +kernel) dX6_comeIn_4 (sd_geti hX fl_63 (by decide) dX6_comeIn_7 (sd_icmp_ge hX dX6_comeIn_10 (by decide) sd_at (sd_aload_n hX dX6_comeIn_13 rfl (sd_getr hX fl_146 (fun _ => rfl) okA dX6_comeIn_14 (sd_iload_n hX dX6_comeIn_17 rfl (sd_aaldU hX dX6_comeIn_18 (sd_astore_n hX (by decide) dX6_comeIn_19 rfl (sd_aload_n hX dX6_comeIn_20 rfl (sd_aload_n hX dX6_comeIn_21 rfl (sd_geti hX fl_94 (by decide) dX6_comeIn_22 (sd_callV hX (kd := 10) rfl (by decide) (ct_X10_takeIn l) mk_X10_takeIn w_437 ⟨⟨by decide, by decide⟩, by decide, by decide⟩ dX6_comeIn_25 (sd_aload_n hX dX6_comeIn_28 rfl (sd_getr hX fl_172 (fun _ => rfl) (fun _ _ _ => by decide +kernel) dX6_comeIn_29 (sd_iload_n hX dX6_comeIn_32 rfl (sd_aload_n hX dX6_comeIn_33 rfl (sd_getr hX fl_171 (fun _ => rfl) (fun _ _ _ => by decide +kernel) dX6_comeIn_34 (sd_iload_n hX dX6_comeIn_37 rfl (sd_aload_n hX dX6_comeIn_38 rfl (sd_geti hX fl_155 (by decide) dX6_comeIn_39 (sd_callV hX (kd := 5) rfl (by decide) (ct_X5_rateOf l) mk_X5_rateOf w_441 ⟨⟨by decide, by decide⟩, by decide, by decide⟩ dX6_comeIn_42 (sd_iast hX dX6_comeIn_45 (sd_aload_n hX dX6_comeIn_46 rfl (sd_getr hX fl_173 (fun _ => rfl) (fun _ _ _ => by decide +kernel) dX6_comeIn_47 (sd_iload_n hX dX6_comeIn_50 rfl (sd_iconst hX dX6_comeIn_51 rfl (sd_iast hX dX6_comeIn_52 (sd_aload_n hX dX6_comeIn_53 rfl (sd_getr hX fl_174 (fun _ => rfl) (fun _ _ _ => by decide +kernel) dX6_comeIn_54 (sd_iload_n hX dX6_comeIn_57 rfl (sd_iconst hX dX6_comeIn_58 rfl (sd_iast hX dX6_comeIn_59 (sd_iinc hX (by decide) dX6_comeIn_60 rfl (sd_goto hX dX6_comeIn_63 (by decide) sd_at))))))))))))))))))))))))))))))))))))
def BX6_comeIn_66 (G : Nat → KT) (Q : Option mV → mM → Prop) : KT := (s_vret Q)
set_option maxRecDepth 4000 in
theorem bsX6_comeIn_66 {p : Program} {l : Launch} {e : Env} {s : State} {m : MethodId} {args : Array Value} {below : List Frame} {meth : Method} {c : Code} {D : va_G} {ca : Nat → ClassId} {ad : Nat → Nat} {A : Nat → Prop} {Q : Option mV → mM → Prop} (hX : CX p s m args meth c 4 cX6_comeIn "FairBlocks$Scheduler" D ca ad A) (hr : meth.sig.returnType = (Option.none : Option FieldType)) : ∀ lv st M, BX6_comeIn_66 (Gd p l e (rmD 1) s m args below meth c 4 D ca ad A 0 0 (MQ below (QC D ca ad A Q) args s 0 0 A)) Q lv st M → Gd p l e (rmD 1) s m args below meth c 4 D ca ad A 0 0 (MQ below (QC D ca ad A Q) args s 0 0 A) 66 lv st M :=
  sd_vret hX hr dX6_comeIn_66
set_option maxHeartbeats 400000 in
theorem pf_X6_comeIn (G : Nat → KT) (Q : Option mV → mM → Prop) (h0 : ∀ lv st M, BX6_comeIn_0 G Q lv st M → G 0 lv st M) (h2 : ∀ lv st M, BX6_comeIn_2 G Q lv st M → G 2 lv st M) (h66 : ∀ lv st M, BX6_comeIn_66 G Q lv st M → G 66 lv st M) (as : List mV) (M : mM) (ho : ∀ v ∈ as, okV v) (hp : pre_X6_comeIn as M) (hQ : Q (fn_X6_comeIn as M).1 (fn_X6_comeIn as M).2) : G 0 (inL as ++ List.replicate (4 - (inL as).length) none) [] M := by
  obtain ⟨g, k, rfl, hPL⟩ := hp
  have hk : kof k = 8 := ho (.inr (.inr (8, k))) (by simp)
  have hl := lnU hk
  obtain ⟨N, hN, eN⟩ := hPL.1
  have en : nU M = N := by unfold nU; rw [eN]; exact nI_clamp (by omega)
  simp only [fn_X6_comeIn, comeIn, en] at hQ
  have loop : ∀ (n i : Nat) (M : mM), i + n = N → PL M → M.1 4 2 = nI N → Q none (itr (ciS k) i n M) → G 2 [some (.inr (.inr (6, g))), some (.inr (.inr (8, k))), some (.inl (nI i)), none] [] M := by
    intro n
    induction n with
    | zero =>
      intro i M hi hPL eN hq
      obtain rfl : i = N := by omega
      (apply h2; simp only [BX6_comeIn_2, s_mth, s_mab, s_at, s_iconst, s_lconst, s_iload, s_lload, s_aload, s_istore, s_lstore, s_astore, s_iinc, s_bin, s_binG, s_un, s_lbin, s_lbinG, s_lsh, s_lcmp, s_i2l, s_l2i, s_dup, s_dup2, s_pop, s_if, s_icmp, s_geti, s_getl, s_getr, s_puti, s_putz, s_putl, s_iald, s_zald, s_iast, s_zast, s_aaldS, s_aaldU, s_gets, s_tald, s_tsw, tsw, s_iret, s_zret, s_lret, s_aret, s_vret, s_callV, s_callS, c1, nl1, keepL, csum, pushR, inL, List.getD_cons_zero, List.getD_cons_succ, List.set_cons_zero, List.set_cons_succ, List.cons_append, List.nil_append, List.append_nil, List.replicate, List.length_cons, List.length_nil, List.take_succ_cons, List.take_zero, List.drop_succ_cons, List.drop_zero, List.reverse_cons, List.reverse_nil, true_and, and_true, forall_const, not_true_eq_false, not_false_eq_true, false_implies, true_implies, implies_true, one0, m10, Nat.reduceAdd, Nat.reduceSub, Nat.reduceLeDiff, Nat.zero_add, Nat.add_zero, fn_X10_takeIn, fn_X5_rateOf])
      rw [eN]
      refine ⟨fun _ => ?_, fun h => absurd (nI_le (Nat.le_refl i) (by omega)) h⟩
      (apply h66; simp only [BX6_comeIn_66, s_mth, s_mab, s_at, s_iconst, s_lconst, s_iload, s_lload, s_aload, s_istore, s_lstore, s_astore, s_iinc, s_bin, s_binG, s_un, s_lbin, s_lbinG, s_lsh, s_lcmp, s_i2l, s_l2i, s_dup, s_dup2, s_pop, s_if, s_icmp, s_geti, s_getl, s_getr, s_puti, s_putz, s_putl, s_iald, s_zald, s_iast, s_zast, s_aaldS, s_aaldU, s_gets, s_tald, s_tsw, tsw, s_iret, s_zret, s_lret, s_aret, s_vret, s_callV, s_callS, c1, nl1, keepL, csum, pushR, inL, List.getD_cons_zero, List.getD_cons_succ, List.set_cons_zero, List.set_cons_succ, List.cons_append, List.nil_append, List.append_nil, List.replicate, List.length_cons, List.length_nil, List.take_succ_cons, List.take_zero, List.drop_succ_cons, List.drop_zero, List.reverse_cons, List.reverse_nil, true_and, and_true, forall_const, not_true_eq_false, not_false_eq_true, false_implies, true_implies, implies_true, one0, m10, Nat.reduceAdd, Nat.reduceSub, Nat.reduceLeDiff, Nat.zero_add, Nat.add_zero, fn_X10_takeIn, fn_X5_rateOf])
      exact hq
    | succ n ih =>
      intro i M hi hPL eN hq
      have ei : (nI i).toNatClampNeg = i := nI_clamp (by omega)
      have hv : vp_in (nI i) 5 := vp_in_nI (by omega) (by decide)
      (apply h2; simp only [BX6_comeIn_2, s_mth, s_mab, s_at, s_iconst, s_lconst, s_iload, s_lload, s_aload, s_istore, s_lstore, s_astore, s_iinc, s_bin, s_binG, s_un, s_lbin, s_lbinG, s_lsh, s_lcmp, s_i2l, s_l2i, s_dup, s_dup2, s_pop, s_if, s_icmp, s_geti, s_getl, s_getr, s_puti, s_putz, s_putl, s_iald, s_zald, s_iast, s_zast, s_aaldS, s_aaldU, s_gets, s_tald, s_tsw, tsw, s_iret, s_zret, s_lret, s_aret, s_vret, s_callV, s_callS, c1, nl1, keepL, csum, pushR, inL, List.getD_cons_zero, List.getD_cons_succ, List.set_cons_zero, List.set_cons_succ, List.cons_append, List.nil_append, List.append_nil, List.replicate, List.length_cons, List.length_nil, List.take_succ_cons, List.take_zero, List.drop_succ_cons, List.drop_zero, List.reverse_cons, List.reverse_nil, true_and, and_true, forall_const, not_true_eq_false, not_false_eq_true, false_implies, true_implies, implies_true, one0, m10, Nat.reduceAdd, Nat.reduceSub, Nat.reduceLeDiff, Nat.zero_add, Nat.add_zero, fn_X10_takeIn, fn_X5_rateOf])
      simp only [eN, hl, ei, l22, l23, l24]
      refine ⟨fun h => absurd h (nI_ge (by omega) (by omega)), fun _ => ⟨hv, ⟨_, _, rfl⟩, ⟨_, _, _, rfl, PL_tkn hPL (kU hk (by omega))⟩, hv, hv, hv, ?_⟩⟩
      rw [nI_1]
      exact ih (i + 1) (ciS k i M) (by omega) (PL_ciS hPL hk (by omega)) (by rw [p4_ciS hk (by omega)]; exact eN) hq
  (apply h0; simp only [BX6_comeIn_0, s_mth, s_mab, s_at, s_iconst, s_lconst, s_iload, s_lload, s_aload, s_istore, s_lstore, s_astore, s_iinc, s_bin, s_binG, s_un, s_lbin, s_lbinG, s_lsh, s_lcmp, s_i2l, s_l2i, s_dup, s_dup2, s_pop, s_if, s_icmp, s_geti, s_getl, s_getr, s_puti, s_putz, s_putl, s_iald, s_zald, s_iast, s_zast, s_aaldS, s_aaldU, s_gets, s_tald, s_tsw, tsw, s_iret, s_zret, s_lret, s_aret, s_vret, s_callV, s_callS, c1, nl1, keepL, csum, pushR, inL, List.getD_cons_zero, List.getD_cons_succ, List.set_cons_zero, List.set_cons_succ, List.cons_append, List.nil_append, List.append_nil, List.replicate, List.length_cons, List.length_nil, List.take_succ_cons, List.take_zero, List.drop_succ_cons, List.drop_zero, List.reverse_cons, List.reverse_nil, true_and, and_true, forall_const, not_true_eq_false, not_false_eq_true, false_implies, true_implies, implies_true, one0, m10, Nat.reduceAdd, Nat.reduceSub, Nat.reduceLeDiff, Nat.zero_add, Nat.add_zero, fn_X10_takeIn, fn_X5_rateOf])
  exact loop N 0 M (by omega) hPL eN hQ
theorem ct_X6_comeIn (l : Launch) : Con l yX6_comeIn cX6_comeIn 4 (Option.none : Option FieldType) 1 pre_X6_comeIn fn_X6_comeIn := con_of (by decide +kernel) ok_X6_comeIn len_X6_comeIn (fun p e s m args below meth c D ca ad A as M hX hr hp ho => pf_X6_comeIn _ _ (bsX6_comeIn_0 hX hr) (bsX6_comeIn_2 hX hr) (bsX6_comeIn_66 hX hr) as M ho hp ⟨rfl, rfl⟩)
def esA (M : mM) (uk i : Nat) : mM := mset M uk 6 (M.1 uk 6 - (M.1 uk 6 >>> (M.1 4 1 &&& 31)) + ((16 * M.1 24 i) >>> (M.1 4 1 &&& 31)))
def rst (M : mM) (uk i : Nat) : Int32 := if M.1 23 i = -1 then (if M.1 uk 3 = 0 then (if M.1 uk 4 + M.1 uk 5 = 0 then 1 else 0) else 1) else 1
def esB (M : mM) (uk i : Nat) : mM := mset M uk 7 (if rst M uk i = 0 then M.1 uk 7 + 1 else 0)
def esS (k i : Nat) (q : Int32 × mM) : Int32 × mM := (q.1 + (esB (esA q.2 (k + 1 + 1 + i) i) (k + 1 + 1 + i) i).1 24 i, esB (esA q.2 (k + 1 + 1 + i) i) (k + 1 + 1 + i) i)
theorem p4_es {M : mM} {uk i : Nat} (hk : kof uk = 10) : (esB (esA M uk i) uk i).1 4 = M.1 4 := by
  unfold esB esA
  rw [mset_n (kne (by rw [hk]; decide +kernel)), mset_n (kne (by rw [hk]; decide +kernel))]
def esF (k : Nat) (q : Int32 × mM) : Int32 × mM := (q.1, mset q.2 k 2 (q.2.1 k 2 + 1))
def endSlot (M : mM) (k : Nat) : Int32 × mM := esF k (itr (esS k) 0 (nU M) (0, M))
def pre_X6_endSlot (as : List mV) (M : mM) : Prop := ∃ g k, as = [.inr (.inr (6, g)), .inr (.inr (8, k))] ∧ PL M
def fn_X6_endSlot : List mV → mM → Option mV × mM
  | [.inr (.inr (_, g)), .inr (.inr (_, k))], M => (some (.inl (endSlot M k).1), (endSlot M k).2)
  | _, M => (none, M)
theorem ok_X6_endSlot (as : List mV) (M : mM) (h : pre_X6_endSlot as M) (_ : ∀ v ∈ as, okV v) : okR (fn_X6_endSlot as M).1 := by
  obtain ⟨g, k, rfl, -⟩ := h
  first | trivial | exact (by decide +kernel : kof 14 = 8)
theorem len_X6_endSlot (as : List mV) (M : mM) (h : pre_X6_endSlot as M) : (inL as).length ≤ 6 := by
  obtain ⟨g, k, rfl, -⟩ := h
  exact Nat.le_of_ble_eq_true rfl

theorem fl_58 : FLk "FairBlocks$Scheduler" 85 5 1 0 := ⟨RX5, TX5, 5, rfl, inX5, by decide, w_58, by decide, rfl⟩
theorem fp_112 : FPk "FairBlocks$Scheduler" 82 10 6 0 .int := ⟨RX10, TX10, 10, tyX10, rfl, inX10, by decide, w_112, by decide, rfl, tyX10_ok, nmX10, rfl, rfl⟩
theorem fp_117 : FPk "FairBlocks$Scheduler" 96 10 7 0 .int := ⟨RX10, TX10, 10, tyX10, rfl, inX10, by decide, w_117, by decide, rfl, tyX10_ok, nmX10, rfl, rfl⟩
theorem fp_155 : FPk "FairBlocks$Scheduler" 75 8 2 0 .int := ⟨RX8, TX8, 3, tyX8, rfl, inX8, by decide, w_155, by decide, rfl, tyX8_ok, nmX8, rfl, rfl⟩
theorem dX6_endSlot_0 : decode cX6_endSlot 0 = .ok (.iconst 0, 1) := by decide +kernel
theorem dX6_endSlot_1 : decode cX6_endSlot 1 = .ok (.istore_n 2, 1) := by decide +kernel
theorem dX6_endSlot_2 : decode cX6_endSlot 2 = .ok (.iconst 0, 1) := by decide +kernel
theorem dX6_endSlot_3 : decode cX6_endSlot 3 = .ok (.istore_n 3, 1) := by decide +kernel
theorem dX6_endSlot_4 : decode cX6_endSlot 4 = .ok (.iload_n 3, 1) := by decide +kernel
theorem dX6_endSlot_5 : decode cX6_endSlot 5 = .ok (.aload_n 0, 1) := by decide +kernel
theorem dX6_endSlot_6 : decode cX6_endSlot 6 = .ok (.getfield 24, 3) := by decide +kernel
theorem dX6_endSlot_9 : decode cX6_endSlot 9 = .ok (.getfield 66, 3) := by decide +kernel
theorem dX6_endSlot_12 : decode cX6_endSlot 12 = .ok (.if_icmp .ge 122, 3) := by decide +kernel
theorem dX6_endSlot_15 : decode cX6_endSlot 15 = .ok (.aload_n 1, 1) := by decide +kernel
theorem dX6_endSlot_16 : decode cX6_endSlot 16 = .ok (.getfield 46, 3) := by decide +kernel
theorem dX6_endSlot_19 : decode cX6_endSlot 19 = .ok (.iload_n 3, 1) := by decide +kernel
theorem dX6_endSlot_20 : decode cX6_endSlot 20 = .ok (.aaload, 1) := by decide +kernel
theorem dX6_endSlot_21 : decode cX6_endSlot 21 = .ok (.astore 4, 2) := by decide +kernel
theorem dX6_endSlot_23 : decode cX6_endSlot 23 = .ok (.aload 4, 2) := by decide +kernel
theorem dX6_endSlot_25 : decode cX6_endSlot 25 = .ok (.aload 4, 2) := by decide +kernel
theorem dX6_endSlot_27 : decode cX6_endSlot 27 = .ok (.getfield 82, 3) := by decide +kernel
theorem dX6_endSlot_30 : decode cX6_endSlot 30 = .ok (.aload 4, 2) := by decide +kernel
theorem dX6_endSlot_32 : decode cX6_endSlot 32 = .ok (.getfield 82, 3) := by decide +kernel
theorem dX6_endSlot_35 : decode cX6_endSlot 35 = .ok (.aload_n 0, 1) := by decide +kernel
theorem dX6_endSlot_36 : decode cX6_endSlot 36 = .ok (.getfield 24, 3) := by decide +kernel
theorem dX6_endSlot_39 : decode cX6_endSlot 39 = .ok (.getfield 85, 3) := by decide +kernel
theorem dX6_endSlot_42 : decode cX6_endSlot 42 = .ok (.ishr, 1) := by decide +kernel
theorem dX6_endSlot_43 : decode cX6_endSlot 43 = .ok (.isub, 1) := by decide +kernel
theorem dX6_endSlot_44 : decode cX6_endSlot 44 = .ok (.bipush 16, 2) := by decide +kernel
theorem dX6_endSlot_46 : decode cX6_endSlot 46 = .ok (.aload_n 0, 1) := by decide +kernel
theorem dX6_endSlot_47 : decode cX6_endSlot 47 = .ok (.getfield 18, 3) := by decide +kernel
theorem dX6_endSlot_50 : decode cX6_endSlot 50 = .ok (.iload_n 3, 1) := by decide +kernel
theorem dX6_endSlot_51 : decode cX6_endSlot 51 = .ok (.iaload, 1) := by decide +kernel
theorem dX6_endSlot_52 : decode cX6_endSlot 52 = .ok (.imul, 1) := by decide +kernel
theorem dX6_endSlot_53 : decode cX6_endSlot 53 = .ok (.aload_n 0, 1) := by decide +kernel
theorem dX6_endSlot_54 : decode cX6_endSlot 54 = .ok (.getfield 24, 3) := by decide +kernel
theorem dX6_endSlot_57 : decode cX6_endSlot 57 = .ok (.getfield 85, 3) := by decide +kernel
theorem dX6_endSlot_60 : decode cX6_endSlot 60 = .ok (.ishr, 1) := by decide +kernel
theorem dX6_endSlot_61 : decode cX6_endSlot 61 = .ok (.iadd, 1) := by decide +kernel
theorem dX6_endSlot_62 : decode cX6_endSlot 62 = .ok (.putfield 82, 3) := by decide +kernel
theorem dX6_endSlot_65 : decode cX6_endSlot 65 = .ok (.aload_n 0, 1) := by decide +kernel
theorem dX6_endSlot_66 : decode cX6_endSlot 66 = .ok (.getfield 15, 3) := by decide +kernel
theorem dX6_endSlot_69 : decode cX6_endSlot 69 = .ok (.iload_n 3, 1) := by decide +kernel
theorem dX6_endSlot_70 : decode cX6_endSlot 70 = .ok (.iaload, 1) := by decide +kernel
theorem dX6_endSlot_71 : decode cX6_endSlot 71 = .ok (.iconst (-1), 1) := by decide +kernel
theorem dX6_endSlot_72 : decode cX6_endSlot 72 = .ok (.if_icmp .ne 19, 3) := by decide +kernel
theorem dX6_endSlot_75 : decode cX6_endSlot 75 = .ok (.aload 4, 2) := by decide +kernel
theorem dX6_endSlot_77 : decode cX6_endSlot 77 = .ok (.getfield 88, 3) := by decide +kernel
theorem dX6_endSlot_80 : decode cX6_endSlot 80 = .ok (.ifCond .ne 11, 3) := by decide +kernel
theorem dX6_endSlot_83 : decode cX6_endSlot 83 = .ok (.aload 4, 2) := by decide +kernel
theorem dX6_endSlot_85 : decode cX6_endSlot 85 = .ok (.invokevirtual 92, 3) := by decide +kernel
theorem dX6_endSlot_88 : decode cX6_endSlot 88 = .ok (.ifCond .ne 7, 3) := by decide +kernel
theorem dX6_endSlot_91 : decode cX6_endSlot 91 = .ok (.iconst 1, 1) := by decide +kernel
theorem dX6_endSlot_92 : decode cX6_endSlot 92 = .ok (.goto 4, 3) := by decide +kernel
theorem dX6_endSlot_95 : decode cX6_endSlot 95 = .ok (.iconst 0, 1) := by decide +kernel
theorem dX6_endSlot_96 : decode cX6_endSlot 96 = .ok (.istore 5, 2) := by decide +kernel
theorem dX6_endSlot_98 : decode cX6_endSlot 98 = .ok (.aload 4, 2) := by decide +kernel
theorem dX6_endSlot_100 : decode cX6_endSlot 100 = .ok (.iload 5, 2) := by decide +kernel
theorem dX6_endSlot_102 : decode cX6_endSlot 102 = .ok (.ifCond .eq 7, 3) := by decide +kernel
theorem dX6_endSlot_105 : decode cX6_endSlot 105 = .ok (.iconst 0, 1) := by decide +kernel
theorem dX6_endSlot_106 : decode cX6_endSlot 106 = .ok (.goto 10, 3) := by decide +kernel
theorem dX6_endSlot_109 : decode cX6_endSlot 109 = .ok (.aload 4, 2) := by decide +kernel
theorem dX6_endSlot_111 : decode cX6_endSlot 111 = .ok (.getfield 96, 3) := by decide +kernel
theorem dX6_endSlot_114 : decode cX6_endSlot 114 = .ok (.iconst 1, 1) := by decide +kernel
theorem dX6_endSlot_115 : decode cX6_endSlot 115 = .ok (.iadd, 1) := by decide +kernel
theorem dX6_endSlot_116 : decode cX6_endSlot 116 = .ok (.putfield 96, 3) := by decide +kernel
theorem dX6_endSlot_119 : decode cX6_endSlot 119 = .ok (.iload_n 2, 1) := by decide +kernel
theorem dX6_endSlot_120 : decode cX6_endSlot 120 = .ok (.aload_n 0, 1) := by decide +kernel
theorem dX6_endSlot_121 : decode cX6_endSlot 121 = .ok (.getfield 18, 3) := by decide +kernel
theorem dX6_endSlot_124 : decode cX6_endSlot 124 = .ok (.iload_n 3, 1) := by decide +kernel
theorem dX6_endSlot_125 : decode cX6_endSlot 125 = .ok (.iaload, 1) := by decide +kernel
theorem dX6_endSlot_126 : decode cX6_endSlot 126 = .ok (.iadd, 1) := by decide +kernel
theorem dX6_endSlot_127 : decode cX6_endSlot 127 = .ok (.istore_n 2, 1) := by decide +kernel
theorem dX6_endSlot_128 : decode cX6_endSlot 128 = .ok (.iinc 3 1, 3) := by decide +kernel
theorem dX6_endSlot_131 : decode cX6_endSlot 131 = .ok (.goto (-127), 3) := by decide +kernel
theorem dX6_endSlot_134 : decode cX6_endSlot 134 = .ok (.aload_n 1, 1) := by decide +kernel
theorem dX6_endSlot_135 : decode cX6_endSlot 135 = .ok (.dup, 1) := by decide +kernel
theorem dX6_endSlot_136 : decode cX6_endSlot 136 = .ok (.getfield 75, 3) := by decide +kernel
theorem dX6_endSlot_139 : decode cX6_endSlot 139 = .ok (.iconst 1, 1) := by decide +kernel
theorem dX6_endSlot_140 : decode cX6_endSlot 140 = .ok (.iadd, 1) := by decide +kernel
theorem dX6_endSlot_141 : decode cX6_endSlot 141 = .ok (.putfield 75, 3) := by decide +kernel
theorem dX6_endSlot_144 : decode cX6_endSlot 144 = .ok (.iload_n 2, 1) := by decide +kernel
theorem dX6_endSlot_145 : decode cX6_endSlot 145 = .ok (.ireturn, 1) := by decide +kernel
theorem mk_X6_endSlot : MVk yX6_endSlot "FairBlocks$Scheduler" cX6_endSlot 6 (Option.some FieldType.int) 1 := ⟨w_464, w_463, wp_5, w_7, rfl, by decide +kernel, by decide +kernel, by decide +kernel⟩
def BX6_endSlot_0 (G : Nat → KT) (Q : Option mV → mM → Prop) : KT := (s_iconst (0) (s_istore 2 (s_iconst (0) (s_istore 3 (s_at G 4 [true, true, true, true, false, false])))))
set_option maxRecDepth 4000 in
theorem bsX6_endSlot_0 {p : Program} {l : Launch} {e : Env} {s : State} {m : MethodId} {args : Array Value} {below : List Frame} {meth : Method} {c : Code} {D : va_G} {ca : Nat → ClassId} {ad : Nat → Nat} {A : Nat → Prop} {Q : Option mV → mM → Prop} (hX : CX p s m args meth c 6 cX6_endSlot "FairBlocks$Scheduler" D ca ad A) (hr : meth.sig.returnType = (Option.some FieldType.int)) : ∀ lv st M, BX6_endSlot_0 (Gd p l e (rmD 1) s m args below meth c 6 D ca ad A 0 0 (MQ below (QC D ca ad A Q) args s 0 0 A)) Q lv st M → Gd p l e (rmD 1) s m args below meth c 6 D ca ad A 0 0 (MQ below (QC D ca ad A Q) args s 0 0 A) 0 lv st M :=
  (sd_iconst hX dX6_endSlot_0 rfl (sd_istore_n hX (by decide) dX6_endSlot_1 rfl (sd_iconst hX dX6_endSlot_2 rfl (sd_istore_n hX (by decide) dX6_endSlot_3 rfl sd_at))))
def BX6_endSlot_4 (G : Nat → KT) (Q : Option mV → mM → Prop) : KT := (s_iload 3 (s_aload 0 (s_getr 6 5 (fun _ => 4) (s_geti 5 2 (s_icmp (fun x y => y ≤ x) (s_at G 134 [false, true, true, false, false, false]) (s_aload 1 (s_getr 8 16 (fun k => k + 1) (s_iload 3 (s_aaldU (s_astore 4 (s_aload 4 (s_aload 4 (s_geti 10 6 (s_aload 4 (s_geti 10 6 (s_aload 0 (s_getr 6 5 (fun _ => 4) (s_geti 5 1 (s_bin (fun x y => x >>> (y &&& 31)) (s_bin (fun x y => x - y) (s_iconst (16) (s_aload 0 (s_getr 6 13 (fun _ => 24) (s_iload 3 (s_iald (s_bin (fun x y => x * y) (s_aload 0 (s_getr 6 5 (fun _ => 4) (s_geti 5 1 (s_bin (fun x y => x >>> (y &&& 31)) (s_bin (fun x y => x + y) (s_puti 10 6 (s_aload 0 (s_getr 6 13 (fun _ => 23) (s_iload 3 (s_iald (s_iconst (-1) (s_icmp (fun x y => x = y) ((s_aload 4 (s_geti 10 3 (s_if (fun x => x = 0) ((s_aload 4 (s_callV 10 0 pre_X10_waiting fn_X10_waiting (s_if (fun x => x = 0) ((s_at G 91 [true, true, true, true, true, false])) (s_at G 95 [true, true, true, true, true, false]))))) (s_at G 91 [true, true, true, true, true, false]))))) (s_at G 91 [true, true, true, true, true, false])))))))))))))))))))))))))))))))))))))))
set_option maxRecDepth 4000 in
theorem bsX6_endSlot_4 {p : Program} {l : Launch} {e : Env} {s : State} {m : MethodId} {args : Array Value} {below : List Frame} {meth : Method} {c : Code} {D : va_G} {ca : Nat → ClassId} {ad : Nat → Nat} {A : Nat → Prop} {Q : Option mV → mM → Prop} (hX : CX p s m args meth c 6 cX6_endSlot "FairBlocks$Scheduler" D ca ad A) (hr : meth.sig.returnType = (Option.some FieldType.int)) : ∀ lv st M, BX6_endSlot_4 (Gd p l e (rmD 1) s m args below meth c 6 D ca ad A 0 0 (MQ below (QC D ca ad A Q) args s 0 0 A)) Q lv st M → Gd p l e (rmD 1) s m args below meth c 6 D ca ad A 0 0 (MQ below (QC D ca ad A Q) args s 0 0 A) 4 lv st M :=
  (sd_iload_n hX dX6_endSlot_4 rfl (sd_aload_n hX dX6_endSlot_5 rfl (sd_getr hX fl_171 (fun _ => rfl) (fun _ _ _ => by decide +kernel) dX6_endSlot_6 (sd_geti hX fl_63 (by decide) dX6_endSlot_9 (sd_icmp_ge hX dX6_endSlot_12 (by decide) sd_at (sd_aload_n hX dX6_endSlot_15 rfl (sd_getr hX fl_146 (fun _ => rfl) okA dX6_endSlot_16 (sd_iload_n hX dX6_endSlot_19 rfl (sd_aaldU hX dX6_endSlot_20 (sd_astore hX (by decide) dX6_endSlot_21 (sd_aload hX dX6_endSlot_23 (sd_aload hX dX6_endSlot_25 (sd_geti hX fl_112 (by decide) dX6_endSlot_27 (sd_aload hX dX6_endSlot_30 (sd_geti hX fl_112 (by decide) dX6_endSlot_32 (sd_aload_n hX dX6_endSlot_35 rfl (sd_getr hX fl_171 (fun _ => rfl) (fun _ _ _ => by decide +kernel) dX6_endSlot_36 (sd_geti hX fl_58 (by decide) dX6_endSlot_39 (sd_ishr hX dX6_endSlot_42 (sd_isub hX dX6_endSlot_43 (sd_bipush hX dX6_endSlot_44 rfl (sd_aload_n hX dX6_endSlot_46 rfl (sd_getr hX fl_174 (fun _ => rfl) (fun _ _ _ => by decide +kernel) dX6_endSlot_47 (sd_iload_n hX dX6_endSlot_50 rfl (sd_iald hX dX6_endSlot_51 (sd_imul hX dX6_endSlot_52 (sd_aload_n hX dX6_endSlot_53 rfl (sd_getr hX fl_171 (fun _ => rfl) (fun _ _ _ => by decide +kernel) dX6_endSlot_54 (sd_geti hX fl_58 (by decide) dX6_endSlot_57 (sd_ishr hX dX6_endSlot_60 (sd_iadd hX dX6_endSlot_61 (sd_puti hX fp_112 dX6_endSlot_62 (sd_aload_n hX dX6_endSlot_65 rfl (sd_getr hX fl_173 (fun _ => rfl) (fun _ _ _ => by decide +kernel) dX6_endSlot_66 (sd_iload_n hX dX6_endSlot_69 rfl (sd_iald hX dX6_endSlot_70 (sd_iconst hX dX6_endSlot_71 rfl (sd_icmp_ne hX dX6_endSlot_72 (by decide) sd_at (sd_aload hX dX6_endSlot_75 (sd_geti hX fl_105 (by decide) dX6_endSlot_77 (sd_if_ne hX dX6_endSlot_80 (by decide) sd_at (sd_aload hX dX6_endSlot_83 (sd_callV hX (kd := 10) rfl (by decide) (ct_X10_waiting l) mk_X10_waiting w_465 ⟨⟨by decide, by decide⟩, by decide, by decide⟩ dX6_endSlot_85 (sd_if_ne hX dX6_endSlot_88 (by decide) sd_at sd_at))))))))))))))))))))))))))))))))))))))))))))
def BX6_endSlot_91 (G : Nat → KT) (Q : Option mV → mM → Prop) : KT := (s_iconst (1) (s_at G 96 [true, true, true, true, true, false]))
set_option maxRecDepth 4000 in
theorem bsX6_endSlot_91 {p : Program} {l : Launch} {e : Env} {s : State} {m : MethodId} {args : Array Value} {below : List Frame} {meth : Method} {c : Code} {D : va_G} {ca : Nat → ClassId} {ad : Nat → Nat} {A : Nat → Prop} {Q : Option mV → mM → Prop} (hX : CX p s m args meth c 6 cX6_endSlot "FairBlocks$Scheduler" D ca ad A) (hr : meth.sig.returnType = (Option.some FieldType.int)) : ∀ lv st M, BX6_endSlot_91 (Gd p l e (rmD 1) s m args below meth c 6 D ca ad A 0 0 (MQ below (QC D ca ad A Q) args s 0 0 A)) Q lv st M → Gd p l e (rmD 1) s m args below meth c 6 D ca ad A 0 0 (MQ below (QC D ca ad A Q) args s 0 0 A) 91 lv st M :=
  (sd_iconst hX dX6_endSlot_91 rfl (sd_goto hX dX6_endSlot_92 (by decide) sd_at))
def BX6_endSlot_95 (G : Nat → KT) (Q : Option mV → mM → Prop) : KT := (s_iconst (0) (s_at G 96 [true, true, true, true, true, false]))
set_option maxRecDepth 4000 in
theorem bsX6_endSlot_95 {p : Program} {l : Launch} {e : Env} {s : State} {m : MethodId} {args : Array Value} {below : List Frame} {meth : Method} {c : Code} {D : va_G} {ca : Nat → ClassId} {ad : Nat → Nat} {A : Nat → Prop} {Q : Option mV → mM → Prop} (hX : CX p s m args meth c 6 cX6_endSlot "FairBlocks$Scheduler" D ca ad A) (hr : meth.sig.returnType = (Option.some FieldType.int)) : ∀ lv st M, BX6_endSlot_95 (Gd p l e (rmD 1) s m args below meth c 6 D ca ad A 0 0 (MQ below (QC D ca ad A Q) args s 0 0 A)) Q lv st M → Gd p l e (rmD 1) s m args below meth c 6 D ca ad A 0 0 (MQ below (QC D ca ad A Q) args s 0 0 A) 95 lv st M :=
  (sd_iconst hX dX6_endSlot_95 rfl sd_at)
def BX6_endSlot_96 (G : Nat → KT) (Q : Option mV → mM → Prop) : KT := (s_istore 5 (s_aload 4 (s_iload 5 (s_if (fun x => x = 0) (s_at G 109 [true, true, true, true, true, false]) (s_iconst (0) (s_at G 116 [true, true, true, true, false, false]))))))
set_option maxRecDepth 4000 in
theorem bsX6_endSlot_96 {p : Program} {l : Launch} {e : Env} {s : State} {m : MethodId} {args : Array Value} {below : List Frame} {meth : Method} {c : Code} {D : va_G} {ca : Nat → ClassId} {ad : Nat → Nat} {A : Nat → Prop} {Q : Option mV → mM → Prop} (hX : CX p s m args meth c 6 cX6_endSlot "FairBlocks$Scheduler" D ca ad A) (hr : meth.sig.returnType = (Option.some FieldType.int)) : ∀ lv st M, BX6_endSlot_96 (Gd p l e (rmD 1) s m args below meth c 6 D ca ad A 0 0 (MQ below (QC D ca ad A Q) args s 0 0 A)) Q lv st M → Gd p l e (rmD 1) s m args below meth c 6 D ca ad A 0 0 (MQ below (QC D ca ad A Q) args s 0 0 A) 96 lv st M :=
  (sd_istore hX (by decide) dX6_endSlot_96 (sd_aload hX dX6_endSlot_98 (sd_iload hX dX6_endSlot_100 (sd_if_eq hX dX6_endSlot_102 (by decide) sd_at (sd_iconst hX dX6_endSlot_105 rfl (sd_goto hX dX6_endSlot_106 (by decide) sd_at))))))
def BX6_endSlot_109 (G : Nat → KT) (Q : Option mV → mM → Prop) : KT := (s_aload 4 (s_geti 10 7 (s_iconst (1) (s_bin (fun x y => x + y) (s_at G 116 [true, true, true, true, false, false])))))
set_option maxRecDepth 4000 in
theorem bsX6_endSlot_109 {p : Program} {l : Launch} {e : Env} {s : State} {m : MethodId} {args : Array Value} {below : List Frame} {meth : Method} {c : Code} {D : va_G} {ca : Nat → ClassId} {ad : Nat → Nat} {A : Nat → Prop} {Q : Option mV → mM → Prop} (hX : CX p s m args meth c 6 cX6_endSlot "FairBlocks$Scheduler" D ca ad A) (hr : meth.sig.returnType = (Option.some FieldType.int)) : ∀ lv st M, BX6_endSlot_109 (Gd p l e (rmD 1) s m args below meth c 6 D ca ad A 0 0 (MQ below (QC D ca ad A Q) args s 0 0 A)) Q lv st M → Gd p l e (rmD 1) s m args below meth c 6 D ca ad A 0 0 (MQ below (QC D ca ad A Q) args s 0 0 A) 109 lv st M :=
  (sd_aload hX dX6_endSlot_109 (sd_geti hX fl_117 (by decide) dX6_endSlot_111 (sd_iconst hX dX6_endSlot_114 rfl (sd_iadd hX dX6_endSlot_115 sd_at))))
def BX6_endSlot_116 (G : Nat → KT) (Q : Option mV → mM → Prop) : KT := (s_puti 10 7 (s_iload 2 (s_aload 0 (s_getr 6 13 (fun _ => 24) (s_iload 3 (s_iald (s_bin (fun x y => x + y) (s_istore 2 (s_iinc 3 (1) (s_at G 4 [true, true, true, true, false, false]))))))))))
set_option maxRecDepth 4000 in
theorem bsX6_endSlot_116 {p : Program} {l : Launch} {e : Env} {s : State} {m : MethodId} {args : Array Value} {below : List Frame} {meth : Method} {c : Code} {D : va_G} {ca : Nat → ClassId} {ad : Nat → Nat} {A : Nat → Prop} {Q : Option mV → mM → Prop} (hX : CX p s m args meth c 6 cX6_endSlot "FairBlocks$Scheduler" D ca ad A) (hr : meth.sig.returnType = (Option.some FieldType.int)) : ∀ lv st M, BX6_endSlot_116 (Gd p l e (rmD 1) s m args below meth c 6 D ca ad A 0 0 (MQ below (QC D ca ad A Q) args s 0 0 A)) Q lv st M → Gd p l e (rmD 1) s m args below meth c 6 D ca ad A 0 0 (MQ below (QC D ca ad A Q) args s 0 0 A) 116 lv st M :=
  (sd_puti hX fp_117 dX6_endSlot_116 (sd_iload_n hX dX6_endSlot_119 rfl (sd_aload_n hX dX6_endSlot_120 rfl (sd_getr hX fl_174 (fun _ => rfl) (fun _ _ _ => by decide +kernel) dX6_endSlot_121 (sd_iload_n hX dX6_endSlot_124 rfl (sd_iald hX dX6_endSlot_125 (sd_iadd hX dX6_endSlot_126 (sd_istore_n hX (by decide) dX6_endSlot_127 rfl (sd_iinc hX (by decide) dX6_endSlot_128 rfl (sd_goto hX dX6_endSlot_131 (by decide) sd_at))))))))))
def BX6_endSlot_134 (G : Nat → KT) (Q : Option mV → mM → Prop) : KT := (s_aload 1 (s_dup (s_geti 8 2 (s_iconst (1) (s_bin (fun x y => x + y) (s_puti 8 2 (s_iload 2 (s_iret Q))))))))
set_option maxRecDepth 4000 in
theorem bsX6_endSlot_134 {p : Program} {l : Launch} {e : Env} {s : State} {m : MethodId} {args : Array Value} {below : List Frame} {meth : Method} {c : Code} {D : va_G} {ca : Nat → ClassId} {ad : Nat → Nat} {A : Nat → Prop} {Q : Option mV → mM → Prop} (hX : CX p s m args meth c 6 cX6_endSlot "FairBlocks$Scheduler" D ca ad A) (hr : meth.sig.returnType = (Option.some FieldType.int)) : ∀ lv st M, BX6_endSlot_134 (Gd p l e (rmD 1) s m args below meth c 6 D ca ad A 0 0 (MQ below (QC D ca ad A Q) args s 0 0 A)) Q lv st M → Gd p l e (rmD 1) s m args below meth c 6 D ca ad A 0 0 (MQ below (QC D ca ad A Q) args s 0 0 A) 134 lv st M :=
  (sd_aload_n hX dX6_endSlot_134 rfl (sd_dup hX dX6_endSlot_135 (sd_geti hX fl_155 (by decide) dX6_endSlot_136 (sd_iconst hX dX6_endSlot_139 rfl (sd_iadd hX dX6_endSlot_140 (sd_puti hX fp_155 dX6_endSlot_141 (sd_iload_n hX dX6_endSlot_144 rfl (sd_iret hX hr dX6_endSlot_145))))))))
set_option maxHeartbeats 400000 in
theorem pf_X6_endSlot (G : Nat → KT) (Q : Option mV → mM → Prop) (h0 : ∀ lv st M, BX6_endSlot_0 G Q lv st M → G 0 lv st M) (h4 : ∀ lv st M, BX6_endSlot_4 G Q lv st M → G 4 lv st M) (h91 : ∀ lv st M, BX6_endSlot_91 G Q lv st M → G 91 lv st M) (h95 : ∀ lv st M, BX6_endSlot_95 G Q lv st M → G 95 lv st M) (h96 : ∀ lv st M, BX6_endSlot_96 G Q lv st M → G 96 lv st M) (h109 : ∀ lv st M, BX6_endSlot_109 G Q lv st M → G 109 lv st M) (h116 : ∀ lv st M, BX6_endSlot_116 G Q lv st M → G 116 lv st M) (h134 : ∀ lv st M, BX6_endSlot_134 G Q lv st M → G 134 lv st M) (as : List mV) (M : mM) (ho : ∀ v ∈ as, okV v) (hp : pre_X6_endSlot as M) (hQ : Q (fn_X6_endSlot as M).1 (fn_X6_endSlot as M).2) : G 0 (inL as ++ List.replicate (6 - (inL as).length) none) [] M := by
  obtain ⟨g, k, rfl, hPL⟩ := hp
  have hk : kof k = 8 := ho (.inr (.inr (8, k))) (by simp)
  have hl := lnU hk
  obtain ⟨N, hN, eN⟩ := hPL.1
  have en : nU M = N := by unfold nU; rw [eN]; exact nI_clamp (by omega)
  simp only [fn_X6_endSlot, endSlot, en] at hQ
  have loop : ∀ (n i : Nat) (t : Int32) (M : mM), i + n = N → M.1 4 2 = nI N → Q (some (.inl (esF k (itr (esS k) i n (t, M))).1)) (esF k (itr (esS k) i n (t, M))).2 → G 4 [some (.inr (.inr (6, g))), some (.inr (.inr (8, k))), some (.inl t), some (.inl (nI i)), none, none] [] M := by
    intro n
    induction n with
    | zero =>
      intro i t M hi eN hq
      obtain rfl : i = N := by omega
      (apply h4; simp only [BX6_endSlot_4, s_mth, s_mab, s_at, s_iconst, s_lconst, s_iload, s_lload, s_aload, s_istore, s_lstore, s_astore, s_iinc, s_bin, s_binG, s_un, s_lbin, s_lbinG, s_lsh, s_lcmp, s_i2l, s_l2i, s_dup, s_dup2, s_pop, s_if, s_icmp, s_geti, s_getl, s_getr, s_puti, s_putz, s_putl, s_iald, s_zald, s_iast, s_zast, s_aaldS, s_aaldU, s_gets, s_tald, s_tsw, tsw, s_iret, s_zret, s_lret, s_aret, s_vret, s_callV, s_callS, c1, nl1, keepL, csum, pushR, inL, List.getD_cons_zero, List.getD_cons_succ, List.set_cons_zero, List.set_cons_succ, List.cons_append, List.nil_append, List.append_nil, List.replicate, List.length_cons, List.length_nil, List.take_succ_cons, List.take_zero, List.drop_succ_cons, List.drop_zero, List.reverse_cons, List.reverse_nil, true_and, and_true, forall_const, not_true_eq_false, not_false_eq_true, false_implies, true_implies, implies_true, one0, m10, Nat.reduceAdd, Nat.reduceSub, Nat.reduceLeDiff, Nat.zero_add, Nat.add_zero, fn_X10_waiting])
      rw [eN]
      refine ⟨fun _ => ?_, fun h => absurd (nI_le (Nat.le_refl i) (by omega)) h⟩
      (apply h134; simp only [BX6_endSlot_134, s_mth, s_mab, s_at, s_iconst, s_lconst, s_iload, s_lload, s_aload, s_istore, s_lstore, s_astore, s_iinc, s_bin, s_binG, s_un, s_lbin, s_lbinG, s_lsh, s_lcmp, s_i2l, s_l2i, s_dup, s_dup2, s_pop, s_if, s_icmp, s_geti, s_getl, s_getr, s_puti, s_putz, s_putl, s_iald, s_zald, s_iast, s_zast, s_aaldS, s_aaldU, s_gets, s_tald, s_tsw, tsw, s_iret, s_zret, s_lret, s_aret, s_vret, s_callV, s_callS, c1, nl1, keepL, csum, pushR, inL, List.getD_cons_zero, List.getD_cons_succ, List.set_cons_zero, List.set_cons_succ, List.cons_append, List.nil_append, List.append_nil, List.replicate, List.length_cons, List.length_nil, List.take_succ_cons, List.take_zero, List.drop_succ_cons, List.drop_zero, List.reverse_cons, List.reverse_nil, true_and, and_true, forall_const, not_true_eq_false, not_false_eq_true, false_implies, true_implies, implies_true, one0, m10, Nat.reduceAdd, Nat.reduceSub, Nat.reduceLeDiff, Nat.zero_add, Nat.add_zero, fn_X10_waiting])
      exact hq
    | succ n ih =>
      intro i t M hi eN hq
      have ei : (nI i).toNatClampNeg = i := nI_clamp (by omega)
      have hv : vp_in (nI i) 5 := vp_in_nI (by omega) (by decide)
      have huk := kU hk (show i < 5 by omega)
      have L96 : ∀ r : Int32, r = rst (esA M (k + 1 + 1 + i) i) (k + 1 + 1 + i) i → G 96 [some (.inr (.inr (6, g))), some (.inr (.inr (8, k))), some (.inl t), some (.inl (nI i)), some (.inr (.inr (10, k + 1 + 1 + i))), none] [.inl r] (esA M (k + 1 + 1 + i) i) := by
        intro r er
        have L116 : ∀ w : Int32, w = (if rst (esA M (k + 1 + 1 + i) i) (k + 1 + 1 + i) i = 0 then (esA M (k + 1 + 1 + i) i).1 (k + 1 + 1 + i) 7 + 1 else 0) → G 116 [some (.inr (.inr (6, g))), some (.inr (.inr (8, k))), some (.inl t), some (.inl (nI i)), none, none] [.inl w, .inr (.inr (10, k + 1 + 1 + i))] (esA M (k + 1 + 1 + i) i) := by
          intro w ew
          subst ew
          (apply h116; simp only [BX6_endSlot_116, s_mth, s_mab, s_at, s_iconst, s_lconst, s_iload, s_lload, s_aload, s_istore, s_lstore, s_astore, s_iinc, s_bin, s_binG, s_un, s_lbin, s_lbinG, s_lsh, s_lcmp, s_i2l, s_l2i, s_dup, s_dup2, s_pop, s_if, s_icmp, s_geti, s_getl, s_getr, s_puti, s_putz, s_putl, s_iald, s_zald, s_iast, s_zast, s_aaldS, s_aaldU, s_gets, s_tald, s_tsw, tsw, s_iret, s_zret, s_lret, s_aret, s_vret, s_callV, s_callS, c1, nl1, keepL, csum, pushR, inL, List.getD_cons_zero, List.getD_cons_succ, List.set_cons_zero, List.set_cons_succ, List.cons_append, List.nil_append, List.append_nil, List.replicate, List.length_cons, List.length_nil, List.take_succ_cons, List.take_zero, List.drop_succ_cons, List.drop_zero, List.reverse_cons, List.reverse_nil, true_and, and_true, forall_const, not_true_eq_false, not_false_eq_true, false_implies, true_implies, implies_true, one0, m10, Nat.reduceAdd, Nat.reduceSub, Nat.reduceLeDiff, Nat.zero_add, Nat.add_zero, fn_X10_waiting])
          simp only [l24, ei]
          refine ⟨hv, ?_⟩
          rw [nI_1]
          exact ih (i + 1) _ _ (by omega) (by rw [← eN]; exact congrFun (p4_es huk) 2) hq
        (apply h96; simp only [BX6_endSlot_96, s_mth, s_mab, s_at, s_iconst, s_lconst, s_iload, s_lload, s_aload, s_istore, s_lstore, s_astore, s_iinc, s_bin, s_binG, s_un, s_lbin, s_lbinG, s_lsh, s_lcmp, s_i2l, s_l2i, s_dup, s_dup2, s_pop, s_if, s_icmp, s_geti, s_getl, s_getr, s_puti, s_putz, s_putl, s_iald, s_zald, s_iast, s_zast, s_aaldS, s_aaldU, s_gets, s_tald, s_tsw, tsw, s_iret, s_zret, s_lret, s_aret, s_vret, s_callV, s_callS, c1, nl1, keepL, csum, pushR, inL, List.getD_cons_zero, List.getD_cons_succ, List.set_cons_zero, List.set_cons_succ, List.cons_append, List.nil_append, List.append_nil, List.replicate, List.length_cons, List.length_nil, List.take_succ_cons, List.take_zero, List.drop_succ_cons, List.drop_zero, List.reverse_cons, List.reverse_nil, true_and, and_true, forall_const, not_true_eq_false, not_false_eq_true, false_implies, true_implies, implies_true, one0, m10, Nat.reduceAdd, Nat.reduceSub, Nat.reduceLeDiff, Nat.zero_add, Nat.add_zero, fn_X10_waiting])
        refine ⟨fun h => ?_, fun h => ?_⟩
        · (apply h109; simp only [BX6_endSlot_109, s_mth, s_mab, s_at, s_iconst, s_lconst, s_iload, s_lload, s_aload, s_istore, s_lstore, s_astore, s_iinc, s_bin, s_binG, s_un, s_lbin, s_lbinG, s_lsh, s_lcmp, s_i2l, s_l2i, s_dup, s_dup2, s_pop, s_if, s_icmp, s_geti, s_getl, s_getr, s_puti, s_putz, s_putl, s_iald, s_zald, s_iast, s_zast, s_aaldS, s_aaldU, s_gets, s_tald, s_tsw, tsw, s_iret, s_zret, s_lret, s_aret, s_vret, s_callV, s_callS, c1, nl1, keepL, csum, pushR, inL, List.getD_cons_zero, List.getD_cons_succ, List.set_cons_zero, List.set_cons_succ, List.cons_append, List.nil_append, List.append_nil, List.replicate, List.length_cons, List.length_nil, List.take_succ_cons, List.take_zero, List.drop_succ_cons, List.drop_zero, List.reverse_cons, List.reverse_nil, true_and, and_true, forall_const, not_true_eq_false, not_false_eq_true, false_implies, true_implies, implies_true, one0, m10, Nat.reduceAdd, Nat.reduceSub, Nat.reduceLeDiff, Nat.zero_add, Nat.add_zero, fn_X10_waiting])
          exact L116 _ (by rw [← er, if_pos h])
        · exact L116 _ (by rw [← er, if_neg h])
      have T : rst (esA M (k + 1 + 1 + i) i) (k + 1 + 1 + i) i = 1 → G 91 [some (.inr (.inr (6, g))), some (.inr (.inr (8, k))), some (.inl t), some (.inl (nI i)), some (.inr (.inr (10, k + 1 + 1 + i))), none] [] (esA M (k + 1 + 1 + i) i) := by
        intro h
        (apply h91; simp only [BX6_endSlot_91, s_mth, s_mab, s_at, s_iconst, s_lconst, s_iload, s_lload, s_aload, s_istore, s_lstore, s_astore, s_iinc, s_bin, s_binG, s_un, s_lbin, s_lbinG, s_lsh, s_lcmp, s_i2l, s_l2i, s_dup, s_dup2, s_pop, s_if, s_icmp, s_geti, s_getl, s_getr, s_puti, s_putz, s_putl, s_iald, s_zald, s_iast, s_zast, s_aaldS, s_aaldU, s_gets, s_tald, s_tsw, tsw, s_iret, s_zret, s_lret, s_aret, s_vret, s_callV, s_callS, c1, nl1, keepL, csum, pushR, inL, List.getD_cons_zero, List.getD_cons_succ, List.set_cons_zero, List.set_cons_succ, List.cons_append, List.nil_append, List.append_nil, List.replicate, List.length_cons, List.length_nil, List.take_succ_cons, List.take_zero, List.drop_succ_cons, List.drop_zero, List.reverse_cons, List.reverse_nil, true_and, and_true, forall_const, not_true_eq_false, not_false_eq_true, false_implies, true_implies, implies_true, one0, m10, Nat.reduceAdd, Nat.reduceSub, Nat.reduceLeDiff, Nat.zero_add, Nat.add_zero, fn_X10_waiting])
        exact L96 1 h.symm
      have F : rst (esA M (k + 1 + 1 + i) i) (k + 1 + 1 + i) i = 0 → G 95 [some (.inr (.inr (6, g))), some (.inr (.inr (8, k))), some (.inl t), some (.inl (nI i)), some (.inr (.inr (10, k + 1 + 1 + i))), none] [] (esA M (k + 1 + 1 + i) i) := by
        intro h
        (apply h95; simp only [BX6_endSlot_95, s_mth, s_mab, s_at, s_iconst, s_lconst, s_iload, s_lload, s_aload, s_istore, s_lstore, s_astore, s_iinc, s_bin, s_binG, s_un, s_lbin, s_lbinG, s_lsh, s_lcmp, s_i2l, s_l2i, s_dup, s_dup2, s_pop, s_if, s_icmp, s_geti, s_getl, s_getr, s_puti, s_putz, s_putl, s_iald, s_zald, s_iast, s_zast, s_aaldS, s_aaldU, s_gets, s_tald, s_tsw, tsw, s_iret, s_zret, s_lret, s_aret, s_vret, s_callV, s_callS, c1, nl1, keepL, csum, pushR, inL, List.getD_cons_zero, List.getD_cons_succ, List.set_cons_zero, List.set_cons_succ, List.cons_append, List.nil_append, List.append_nil, List.replicate, List.length_cons, List.length_nil, List.take_succ_cons, List.take_zero, List.drop_succ_cons, List.drop_zero, List.reverse_cons, List.reverse_nil, true_and, and_true, forall_const, not_true_eq_false, not_false_eq_true, false_implies, true_implies, implies_true, one0, m10, Nat.reduceAdd, Nat.reduceSub, Nat.reduceLeDiff, Nat.zero_add, Nat.add_zero, fn_X10_waiting])
        exact L96 0 h.symm
      unfold rst esA at T F
      (apply h4; simp only [BX6_endSlot_4, s_mth, s_mab, s_at, s_iconst, s_lconst, s_iload, s_lload, s_aload, s_istore, s_lstore, s_astore, s_iinc, s_bin, s_binG, s_un, s_lbin, s_lbinG, s_lsh, s_lcmp, s_i2l, s_l2i, s_dup, s_dup2, s_pop, s_if, s_icmp, s_geti, s_getl, s_getr, s_puti, s_putz, s_putl, s_iald, s_zald, s_iast, s_zast, s_aaldS, s_aaldU, s_gets, s_tald, s_tsw, tsw, s_iret, s_zret, s_lret, s_aret, s_vret, s_callV, s_callS, c1, nl1, keepL, csum, pushR, inL, List.getD_cons_zero, List.getD_cons_succ, List.set_cons_zero, List.set_cons_succ, List.cons_append, List.nil_append, List.append_nil, List.replicate, List.length_cons, List.length_nil, List.take_succ_cons, List.take_zero, List.drop_succ_cons, List.drop_zero, List.reverse_cons, List.reverse_nil, true_and, and_true, forall_const, not_true_eq_false, not_false_eq_true, false_implies, true_implies, implies_true, one0, m10, Nat.reduceAdd, Nat.reduceSub, Nat.reduceLeDiff, Nat.zero_add, Nat.add_zero, fn_X10_waiting])
      simp only [eN, hl, ei, l24, l23]
      refine ⟨fun h => absurd h (nI_ge (by omega) (by omega)), fun _ => ⟨hv, hv, hv, fun h => ⟨fun h2 => ⟨⟨_, rfl⟩, fun h3 => ?_, fun h3 => ?_⟩, fun h2 => ?_⟩, fun h => ?_⟩⟩
      · exact T (by rw [if_pos h, if_pos h2, if_pos h3])
      · exact F (by rw [if_pos h, if_pos h2, if_neg h3])
      · exact T (by rw [if_pos h, if_neg h2])
      · exact T (by rw [if_neg h])
  (apply h0; simp only [BX6_endSlot_0, s_mth, s_mab, s_at, s_iconst, s_lconst, s_iload, s_lload, s_aload, s_istore, s_lstore, s_astore, s_iinc, s_bin, s_binG, s_un, s_lbin, s_lbinG, s_lsh, s_lcmp, s_i2l, s_l2i, s_dup, s_dup2, s_pop, s_if, s_icmp, s_geti, s_getl, s_getr, s_puti, s_putz, s_putl, s_iald, s_zald, s_iast, s_zast, s_aaldS, s_aaldU, s_gets, s_tald, s_tsw, tsw, s_iret, s_zret, s_lret, s_aret, s_vret, s_callV, s_callS, c1, nl1, keepL, csum, pushR, inL, List.getD_cons_zero, List.getD_cons_succ, List.set_cons_zero, List.set_cons_succ, List.cons_append, List.nil_append, List.append_nil, List.replicate, List.length_cons, List.length_nil, List.take_succ_cons, List.take_zero, List.drop_succ_cons, List.drop_zero, List.reverse_cons, List.reverse_nil, true_and, and_true, forall_const, not_true_eq_false, not_false_eq_true, false_implies, true_implies, implies_true, one0, m10, Nat.reduceAdd, Nat.reduceSub, Nat.reduceLeDiff, Nat.zero_add, Nat.add_zero, fn_X10_waiting])
  exact loop N 0 0 M (by omega) eN hQ
theorem ct_X6_endSlot (l : Launch) : Con l yX6_endSlot cX6_endSlot 6 (Option.some FieldType.int) 1 pre_X6_endSlot fn_X6_endSlot := con_of (by decide +kernel) ok_X6_endSlot len_X6_endSlot (fun p e s m args below meth c D ca ad A as M hX hr hp ho => pf_X6_endSlot _ _ (bsX6_endSlot_0 hX hr) (bsX6_endSlot_4 hX hr) (bsX6_endSlot_91 hX hr) (bsX6_endSlot_95 hX hr) (bsX6_endSlot_96 hX hr) (bsX6_endSlot_109 hX hr) (bsX6_endSlot_116 hX hr) (bsX6_endSlot_134 hX hr) as M ho hp ⟨rfl, rfl⟩)
def ro3 (k i j : Nat) (M : mM) : mM := mset (mset (send M (k + 1 + 1 + j) (M.1 22 j)).2 24 j (M.1 24 j + (send M (k + 1 + 1 + j) (M.1 22 j)).1)) 23 j (nI i)
def ro2 (k i : Nat) (h : Int32) (M : mM) : mM := if h < 0 then mset M 25 i h else ro3 k i h.toNatClampNeg (mset M 25 i h)
def roS (k : Nat) (f : Int32) (i : Nat) (M : mM) : mM := ro2 k i (if f = 0 then df M k (nI i) else -9) M
theorem send_n {M : mM} {uk a : Nat} {x : Int32} (h : a ≠ uk) : (send M uk x).2.1 a = M.1 a := by
  unfold send send2 sendM
  split <;> (try split) <;> (try split) <;> simp [mset_n h]
theorem p4_ro3 {M : mM} {k i j : Nat} (hk : kof k = 8) (hj : j < 5) : (ro3 k i j M).1 4 = M.1 4 ∧ (ro3 k i j M).1 6 = M.1 6 := by
  unfold ro3
  have h := kU hk hj
  rw [mset_n (by decide), mset_n (by decide), send_n (kne (by rw [h]; decide +kernel)), mset_n (by decide), mset_n (by decide), send_n (kne (by rw [h]; decide +kernel))]
  exact ⟨rfl, rfl⟩
theorem p4_ro2 {M : mM} {k i : Nat} {h : Int32} (hk : kof k = 8) (hh : h < 0 ∨ ∃ j, j < 5 ∧ h = nI j) : (ro2 k i h M).1 4 = M.1 4 ∧ (ro2 k i h M).1 6 = M.1 6 := by
  unfold ro2
  split
  · exact ⟨mset_n (by decide), mset_n (by decide)⟩
  · next hn =>
    rcases hh with hh | ⟨j, hj, rfl⟩
    · exact absurd hh hn
    · rw [nI_clamp (by omega)]
      obtain ⟨a, b⟩ := p4_ro3 (M := mset M 25 i (nI j)) (i := i) hk hj
      exact ⟨a.trans (mset_n (by decide)), b.trans (mset_n (by decide))⟩
theorem PL_of {M M' : mM} (h : PL M) (h4 : M'.1 4 = M.1 4) (h6 : M'.1 6 = M.1 6) : PL M' := by
  unfold PL at h ⊢
  rw [h4, h6]
  exact h
theorem ro_h {M : mM} {k i : Nat} {f : Int32} (hPL : PL M) : (if f = 0 then df M k (nI i) else -9) < 0 ∨ ∃ j, j < 5 ∧ (if f = 0 then df M k (nI i) else -9) = nI j := by
  obtain ⟨N, hN, eN⟩ := hPL.1
  have en : nU M = N := by unfold nU; rw [eN]; exact nI_clamp (by omega)
  split
  · rcases df_rng (M := M) (k := k) (b := nI i) with h | ⟨j, hj, h⟩
    · rw [h]; exact Or.inl (by decide)
    · exact Or.inr ⟨j, by omega, h⟩
  · exact Or.inl (by decide)
theorem p4_roS {M : mM} {k i : Nat} {f : Int32} (hk : kof k = 8) (hPL : PL M) : (roS k f i M).1 4 = M.1 4 ∧ (roS k f i M).1 6 = M.1 6 := p4_ro2 hk (ro_h hPL)
theorem p4_comeIn {M : mM} {k : Nat} (hk : kof k = 8) (hPL : PL M) : (comeIn M k).1 4 = M.1 4 ∧ PL (comeIn M k) := by
  obtain ⟨N, hN, eN⟩ := hPL.1
  have en : nU M = N := by unfold nU; rw [eN]; exact nI_clamp (by omega)
  unfold comeIn
  exact itr_inv (ciS k) (fun M2 => M2.1 4 = M.1 4 ∧ PL M2) (nU M) 0 M (fun j s h1 h2 h => ⟨(p4_ciS hk (by omega)).trans h.1, PL_ciS h.2 hk (by omega)⟩) ⟨rfl, hPL⟩
def nB (M : mM) : Nat := (M.1 4 0).toNatClampNeg
def ro (M : mM) (k : Nat) (f : Int32) : Int32 × mM := endSlot (itr (roS k f) 0 (nB M) (comeIn M k)) k
def pre_X6_runOne (as : List mV) (M : mM) : Prop := ∃ g k f, as = [.inr (.inr (6, g)), .inr (.inr (8, k)), .inl f] ∧ PL M
def fn_X6_runOne : List mV → mM → Option mV × mM
  | [.inr (.inr (_, g)), .inr (.inr (_, k)), .inl f], M => (some (.inl (ro M k f).1), (ro M k f).2)
  | _, M => (none, M)
theorem ok_X6_runOne (as : List mV) (M : mM) (h : pre_X6_runOne as M) (_ : ∀ v ∈ as, okV v) : okR (fn_X6_runOne as M).1 := by
  obtain ⟨g, k, f, rfl, -⟩ := h
  first | trivial | exact (by decide +kernel : kof 14 = 8)
theorem len_X6_runOne (as : List mV) (M : mM) (h : pre_X6_runOne as M) : (inL as).length ≤ 5 := by
  obtain ⟨g, k, f, rfl, -⟩ := h
  exact Nat.le_of_ble_eq_true rfl

theorem fl_52 : FLk "FairBlocks$Scheduler" 36 5 0 0 := ⟨RX5, TX5, 5, rfl, inX5, by decide, w_52, by decide, rfl⟩
theorem dX6_runOne_0 : decode cX6_runOne 0 = .ok (.aload_n 0, 1) := by decide +kernel
theorem dX6_runOne_1 : decode cX6_runOne 1 = .ok (.aload_n 1, 1) := by decide +kernel
theorem dX6_runOne_2 : decode cX6_runOne 2 = .ok (.invokevirtual 32, 3) := by decide +kernel
theorem dX6_runOne_5 : decode cX6_runOne 5 = .ok (.iconst 0, 1) := by decide +kernel
theorem dX6_runOne_6 : decode cX6_runOne 6 = .ok (.istore_n 3, 1) := by decide +kernel
theorem dX6_runOne_7 : decode cX6_runOne 7 = .ok (.iload_n 3, 1) := by decide +kernel
theorem dX6_runOne_8 : decode cX6_runOne 8 = .ok (.aload_n 0, 1) := by decide +kernel
theorem dX6_runOne_9 : decode cX6_runOne 9 = .ok (.getfield 24, 3) := by decide +kernel
theorem dX6_runOne_12 : decode cX6_runOne 12 = .ok (.getfield 36, 3) := by decide +kernel
theorem dX6_runOne_15 : decode cX6_runOne 15 = .ok (.if_icmp .ge 79, 3) := by decide +kernel
theorem dX6_runOne_18 : decode cX6_runOne 18 = .ok (.iload_n 3, 1) := by decide +kernel
theorem dX6_runOne_19 : decode cX6_runOne 19 = .ok (.iconst 4, 1) := by decide +kernel
theorem dX6_runOne_20 : decode cX6_runOne 20 = .ok (.if_icmp .ge 74, 3) := by decide +kernel
theorem dX6_runOne_23 : decode cX6_runOne 23 = .ok (.iload_n 2, 1) := by decide +kernel
theorem dX6_runOne_24 : decode cX6_runOne 24 = .ok (.ifCond .eq 8, 3) := by decide +kernel
theorem dX6_runOne_27 : decode cX6_runOne 27 = .ok (.bipush (-9), 2) := by decide +kernel
theorem dX6_runOne_29 : decode cX6_runOne 29 = .ok (.goto 9, 3) := by decide +kernel
theorem dX6_runOne_32 : decode cX6_runOne 32 = .ok (.aload_n 0, 1) := by decide +kernel
theorem dX6_runOne_33 : decode cX6_runOne 33 = .ok (.aload_n 1, 1) := by decide +kernel
theorem dX6_runOne_34 : decode cX6_runOne 34 = .ok (.iload_n 3, 1) := by decide +kernel
theorem dX6_runOne_35 : decode cX6_runOne 35 = .ok (.invokevirtual 42, 3) := by decide +kernel
theorem dX6_runOne_38 : decode cX6_runOne 38 = .ok (.istore 4, 2) := by decide +kernel
theorem dX6_runOne_40 : decode cX6_runOne 40 = .ok (.aload_n 0, 1) := by decide +kernel
theorem dX6_runOne_41 : decode cX6_runOne 41 = .ok (.getfield 21, 3) := by decide +kernel
theorem dX6_runOne_44 : decode cX6_runOne 44 = .ok (.iload_n 3, 1) := by decide +kernel
theorem dX6_runOne_45 : decode cX6_runOne 45 = .ok (.iload 4, 2) := by decide +kernel
theorem dX6_runOne_47 : decode cX6_runOne 47 = .ok (.iastore, 1) := by decide +kernel
theorem dX6_runOne_48 : decode cX6_runOne 48 = .ok (.iload 4, 2) := by decide +kernel
theorem dX6_runOne_50 : decode cX6_runOne 50 = .ok (.ifCond .lt 38, 3) := by decide +kernel
theorem dX6_runOne_53 : decode cX6_runOne 53 = .ok (.aload_n 0, 1) := by decide +kernel
theorem dX6_runOne_54 : decode cX6_runOne 54 = .ok (.getfield 18, 3) := by decide +kernel
theorem dX6_runOne_57 : decode cX6_runOne 57 = .ok (.iload 4, 2) := by decide +kernel
theorem dX6_runOne_59 : decode cX6_runOne 59 = .ok (.dup2, 1) := by decide +kernel
theorem dX6_runOne_60 : decode cX6_runOne 60 = .ok (.iaload, 1) := by decide +kernel
theorem dX6_runOne_61 : decode cX6_runOne 61 = .ok (.aload_n 1, 1) := by decide +kernel
theorem dX6_runOne_62 : decode cX6_runOne 62 = .ok (.getfield 46, 3) := by decide +kernel
theorem dX6_runOne_65 : decode cX6_runOne 65 = .ok (.iload 4, 2) := by decide +kernel
theorem dX6_runOne_67 : decode cX6_runOne 67 = .ok (.aaload, 1) := by decide +kernel
theorem dX6_runOne_68 : decode cX6_runOne 68 = .ok (.aload_n 0, 1) := by decide +kernel
theorem dX6_runOne_69 : decode cX6_runOne 69 = .ok (.getfield 9, 3) := by decide +kernel
theorem dX6_runOne_72 : decode cX6_runOne 72 = .ok (.iload 4, 2) := by decide +kernel
theorem dX6_runOne_74 : decode cX6_runOne 74 = .ok (.iaload, 1) := by decide +kernel
theorem dX6_runOne_75 : decode cX6_runOne 75 = .ok (.invokevirtual 52, 3) := by decide +kernel
theorem dX6_runOne_78 : decode cX6_runOne 78 = .ok (.iadd, 1) := by decide +kernel
theorem dX6_runOne_79 : decode cX6_runOne 79 = .ok (.iastore, 1) := by decide +kernel
theorem dX6_runOne_80 : decode cX6_runOne 80 = .ok (.aload_n 0, 1) := by decide +kernel
theorem dX6_runOne_81 : decode cX6_runOne 81 = .ok (.getfield 15, 3) := by decide +kernel
theorem dX6_runOne_84 : decode cX6_runOne 84 = .ok (.iload 4, 2) := by decide +kernel
theorem dX6_runOne_86 : decode cX6_runOne 86 = .ok (.iload_n 3, 1) := by decide +kernel
theorem dX6_runOne_87 : decode cX6_runOne 87 = .ok (.iastore, 1) := by decide +kernel
theorem dX6_runOne_88 : decode cX6_runOne 88 = .ok (.iinc 3 1, 3) := by decide +kernel
theorem dX6_runOne_91 : decode cX6_runOne 91 = .ok (.goto (-84), 3) := by decide +kernel
theorem dX6_runOne_94 : decode cX6_runOne 94 = .ok (.aload_n 0, 1) := by decide +kernel
theorem dX6_runOne_95 : decode cX6_runOne 95 = .ok (.aload_n 1, 1) := by decide +kernel
theorem dX6_runOne_96 : decode cX6_runOne 96 = .ok (.invokevirtual 58, 3) := by decide +kernel
theorem dX6_runOne_99 : decode cX6_runOne 99 = .ok (.ireturn, 1) := by decide +kernel
theorem mk_X6_runOne : MVk yX6_runOne "FairBlocks$Scheduler" cX6_runOne 5 (Option.some FieldType.int) 2 := ⟨w_432, w_430, w_431, w_7, rfl, by decide +kernel, by decide +kernel, by decide +kernel⟩
def BX6_runOne_0 (G : Nat → KT) (Q : Option mV → mM → Prop) : KT := (s_aload 0 (s_aload 1 (s_callV 6 1 pre_X6_comeIn fn_X6_comeIn (s_iconst (0) (s_istore 3 (s_at G 7 [true, true, true, true, false]))))))
set_option maxRecDepth 4000 in
theorem bsX6_runOne_0 {p : Program} {l : Launch} {e : Env} {s : State} {m : MethodId} {args : Array Value} {below : List Frame} {meth : Method} {c : Code} {D : va_G} {ca : Nat → ClassId} {ad : Nat → Nat} {A : Nat → Prop} {Q : Option mV → mM → Prop} (hX : CX p s m args meth c 5 cX6_runOne "FairBlocks$Scheduler" D ca ad A) (hr : meth.sig.returnType = (Option.some FieldType.int)) : ∀ lv st M, BX6_runOne_0 (Gd p l e (rmD 2) s m args below meth c 5 D ca ad A 0 0 (MQ below (QC D ca ad A Q) args s 0 0 A)) Q lv st M → Gd p l e (rmD 2) s m args below meth c 5 D ca ad A 0 0 (MQ below (QC D ca ad A Q) args s 0 0 A) 0 lv st M :=
  (sd_aload_n hX dX6_runOne_0 rfl (sd_aload_n hX dX6_runOne_1 rfl (sd_callV hX (kd := 6) rfl (by decide) (ct_X6_comeIn l) mk_X6_comeIn w_433 ⟨⟨by decide, by decide⟩, by decide, by decide⟩ dX6_runOne_2 (sd_iconst hX dX6_runOne_5 rfl (sd_istore_n hX (by decide) dX6_runOne_6 rfl sd_at)))))
def BX6_runOne_7 (G : Nat → KT) (Q : Option mV → mM → Prop) : KT := (s_iload 3 (s_aload 0 (s_getr 6 5 (fun _ => 4) (s_geti 5 0 (s_icmp (fun x y => y ≤ x) (s_at G 94 [true, true, false, false, false]) (s_iload 3 (s_iconst (4) (s_icmp (fun x y => y ≤ x) (s_at G 94 [true, true, false, false, false]) (s_iload 2 (s_if (fun x => x = 0) (s_at G 32 [true, true, true, true, false]) (s_iconst (-9) (s_at G 38 [true, true, true, true, false]))))))))))))
set_option maxRecDepth 4000 in
theorem bsX6_runOne_7 {p : Program} {l : Launch} {e : Env} {s : State} {m : MethodId} {args : Array Value} {below : List Frame} {meth : Method} {c : Code} {D : va_G} {ca : Nat → ClassId} {ad : Nat → Nat} {A : Nat → Prop} {Q : Option mV → mM → Prop} (hX : CX p s m args meth c 5 cX6_runOne "FairBlocks$Scheduler" D ca ad A) (hr : meth.sig.returnType = (Option.some FieldType.int)) : ∀ lv st M, BX6_runOne_7 (Gd p l e (rmD 2) s m args below meth c 5 D ca ad A 0 0 (MQ below (QC D ca ad A Q) args s 0 0 A)) Q lv st M → Gd p l e (rmD 2) s m args below meth c 5 D ca ad A 0 0 (MQ below (QC D ca ad A Q) args s 0 0 A) 7 lv st M :=
  (sd_iload_n hX dX6_runOne_7 rfl (sd_aload_n hX dX6_runOne_8 rfl (sd_getr hX fl_171 (fun _ => rfl) (fun _ _ _ => by decide +kernel) dX6_runOne_9 (sd_geti hX fl_52 (by decide) dX6_runOne_12 (sd_icmp_ge hX dX6_runOne_15 (by decide) sd_at (sd_iload_n hX dX6_runOne_18 rfl (sd_iconst hX dX6_runOne_19 rfl (sd_icmp_ge hX dX6_runOne_20 (by decide) sd_at (sd_iload_n hX dX6_runOne_23 rfl (sd_if_eq hX dX6_runOne_24 (by decide) sd_at (sd_bipush hX dX6_runOne_27 rfl (sd_goto hX dX6_runOne_29 (by decide) sd_at))))))))))))
def BX6_runOne_32 (G : Nat → KT) (Q : Option mV → mM → Prop) : KT := (s_aload 0 (s_aload 1 (s_iload 3 (s_callV 6 2 pre_X6_dueFor fn_X6_dueFor (s_at G 38 [true, true, true, true, false])))))
set_option maxRecDepth 4000 in
theorem bsX6_runOne_32 {p : Program} {l : Launch} {e : Env} {s : State} {m : MethodId} {args : Array Value} {below : List Frame} {meth : Method} {c : Code} {D : va_G} {ca : Nat → ClassId} {ad : Nat → Nat} {A : Nat → Prop} {Q : Option mV → mM → Prop} (hX : CX p s m args meth c 5 cX6_runOne "FairBlocks$Scheduler" D ca ad A) (hr : meth.sig.returnType = (Option.some FieldType.int)) : ∀ lv st M, BX6_runOne_32 (Gd p l e (rmD 2) s m args below meth c 5 D ca ad A 0 0 (MQ below (QC D ca ad A Q) args s 0 0 A)) Q lv st M → Gd p l e (rmD 2) s m args below meth c 5 D ca ad A 0 0 (MQ below (QC D ca ad A Q) args s 0 0 A) 32 lv st M :=
  (sd_aload_n hX dX6_runOne_32 rfl (sd_aload_n hX dX6_runOne_33 rfl (sd_iload_n hX dX6_runOne_34 rfl (sd_callV hX (kd := 6) rfl (by decide) (ct_X6_dueFor l) mk_X6_dueFor w_442 ⟨⟨by decide, by decide⟩, by decide, by decide⟩ dX6_runOne_35 sd_at))))
def BX6_runOne_38 (G : Nat → KT) (Q : Option mV → mM → Prop) : KT := (s_istore 4 (s_aload 0 (s_getr 6 13 (fun _ => 25) (s_iload 3 (s_iload 4 (s_iast (s_iload 4 (s_if (fun x => x < 0) (s_at G 88 [true, true, true, true, false]) (s_aload 0 (s_getr 6 13 (fun _ => 24) (s_iload 4 (s_dup2 (s_iald (s_aload 1 (s_getr 8 16 (fun k => k + 1) (s_iload 4 (s_aaldU (s_aload 0 (s_getr 6 13 (fun _ => 22) (s_iload 4 (s_iald (s_callV 10 1 pre_X10_send fn_X10_send (s_bin (fun x y => x + y) (s_iast (s_aload 0 (s_getr 6 13 (fun _ => 23) (s_iload 4 (s_iload 3 (s_iast (s_at G 88 [true, true, true, true, false]))))))))))))))))))))))))))))))
set_option maxRecDepth 4000 in
theorem bsX6_runOne_38 {p : Program} {l : Launch} {e : Env} {s : State} {m : MethodId} {args : Array Value} {below : List Frame} {meth : Method} {c : Code} {D : va_G} {ca : Nat → ClassId} {ad : Nat → Nat} {A : Nat → Prop} {Q : Option mV → mM → Prop} (hX : CX p s m args meth c 5 cX6_runOne "FairBlocks$Scheduler" D ca ad A) (hr : meth.sig.returnType = (Option.some FieldType.int)) : ∀ lv st M, BX6_runOne_38 (Gd p l e (rmD 2) s m args below meth c 5 D ca ad A 0 0 (MQ below (QC D ca ad A Q) args s 0 0 A)) Q lv st M → Gd p l e (rmD 2) s m args below meth c 5 D ca ad A 0 0 (MQ below (QC D ca ad A Q) args s 0 0 A) 38 lv st M :=
  (sd_istore hX (by decide) dX6_runOne_38 (sd_aload_n hX dX6_runOne_40 rfl (sd_getr hX fl_175 (fun _ => rfl) (fun _ _ _ => by decide +kernel) dX6_runOne_41 (sd_iload_n hX dX6_runOne_44 rfl (sd_iload hX dX6_runOne_45 (sd_iast hX dX6_runOne_47 (sd_iload hX dX6_runOne_48 (sd_if_lt hX dX6_runOne_50 (by decide) sd_at (sd_aload_n hX dX6_runOne_53 rfl (sd_getr hX fl_174 (fun _ => rfl) (fun _ _ _ => by decide +kernel) dX6_runOne_54 (sd_iload hX dX6_runOne_57 (sd_dup2 hX dX6_runOne_59 (sd_iald hX dX6_runOne_60 (sd_aload_n hX dX6_runOne_61 rfl (sd_getr hX fl_146 (fun _ => rfl) okA dX6_runOne_62 (sd_iload hX dX6_runOne_65 (sd_aaldU hX dX6_runOne_67 (sd_aload_n hX dX6_runOne_68 rfl (sd_getr hX fl_172 (fun _ => rfl) (fun _ _ _ => by decide +kernel) dX6_runOne_69 (sd_iload hX dX6_runOne_72 (sd_iald hX dX6_runOne_74 (sd_callV hX (kd := 10) rfl (by decide) (ct_X10_send l) mk_X10_send w_454 ⟨⟨by decide, by decide⟩, by decide, by decide⟩ dX6_runOne_75 (sd_iadd hX dX6_runOne_78 (sd_iast hX dX6_runOne_79 (sd_aload_n hX dX6_runOne_80 rfl (sd_getr hX fl_173 (fun _ => rfl) (fun _ _ _ => by decide +kernel) dX6_runOne_81 (sd_iload hX dX6_runOne_84 (sd_iload_n hX dX6_runOne_86 rfl (sd_iast hX dX6_runOne_87 sd_at)))))))))))))))))))))))))))))
def BX6_runOne_88 (G : Nat → KT) (Q : Option mV → mM → Prop) : KT := (s_iinc 3 (1) (s_at G 7 [true, true, true, true, false]))
set_option maxRecDepth 4000 in
theorem bsX6_runOne_88 {p : Program} {l : Launch} {e : Env} {s : State} {m : MethodId} {args : Array Value} {below : List Frame} {meth : Method} {c : Code} {D : va_G} {ca : Nat → ClassId} {ad : Nat → Nat} {A : Nat → Prop} {Q : Option mV → mM → Prop} (hX : CX p s m args meth c 5 cX6_runOne "FairBlocks$Scheduler" D ca ad A) (hr : meth.sig.returnType = (Option.some FieldType.int)) : ∀ lv st M, BX6_runOne_88 (Gd p l e (rmD 2) s m args below meth c 5 D ca ad A 0 0 (MQ below (QC D ca ad A Q) args s 0 0 A)) Q lv st M → Gd p l e (rmD 2) s m args below meth c 5 D ca ad A 0 0 (MQ below (QC D ca ad A Q) args s 0 0 A) 88 lv st M :=
  (sd_iinc hX (by decide) dX6_runOne_88 rfl (sd_goto hX dX6_runOne_91 (by decide) sd_at))
def BX6_runOne_94 (G : Nat → KT) (Q : Option mV → mM → Prop) : KT := (s_aload 0 (s_aload 1 (s_callV 6 1 pre_X6_endSlot fn_X6_endSlot (s_iret Q))))
set_option maxRecDepth 4000 in
theorem bsX6_runOne_94 {p : Program} {l : Launch} {e : Env} {s : State} {m : MethodId} {args : Array Value} {below : List Frame} {meth : Method} {c : Code} {D : va_G} {ca : Nat → ClassId} {ad : Nat → Nat} {A : Nat → Prop} {Q : Option mV → mM → Prop} (hX : CX p s m args meth c 5 cX6_runOne "FairBlocks$Scheduler" D ca ad A) (hr : meth.sig.returnType = (Option.some FieldType.int)) : ∀ lv st M, BX6_runOne_94 (Gd p l e (rmD 2) s m args below meth c 5 D ca ad A 0 0 (MQ below (QC D ca ad A Q) args s 0 0 A)) Q lv st M → Gd p l e (rmD 2) s m args below meth c 5 D ca ad A 0 0 (MQ below (QC D ca ad A Q) args s 0 0 A) 94 lv st M :=
  (sd_aload_n hX dX6_runOne_94 rfl (sd_aload_n hX dX6_runOne_95 rfl (sd_callV hX (kd := 6) rfl (by decide) (ct_X6_endSlot l) mk_X6_endSlot w_461 ⟨⟨by decide, by decide⟩, by decide, by decide⟩ dX6_runOne_96 (sd_iret hX hr dX6_runOne_99))))
set_option maxHeartbeats 400000 in
theorem pf_X6_runOne (G : Nat → KT) (Q : Option mV → mM → Prop) (h0 : ∀ lv st M, BX6_runOne_0 G Q lv st M → G 0 lv st M) (h7 : ∀ lv st M, BX6_runOne_7 G Q lv st M → G 7 lv st M) (h32 : ∀ lv st M, BX6_runOne_32 G Q lv st M → G 32 lv st M) (h38 : ∀ lv st M, BX6_runOne_38 G Q lv st M → G 38 lv st M) (h88 : ∀ lv st M, BX6_runOne_88 G Q lv st M → G 88 lv st M) (h94 : ∀ lv st M, BX6_runOne_94 G Q lv st M → G 94 lv st M) (as : List mV) (M : mM) (ho : ∀ v ∈ as, okV v) (hp : pre_X6_runOne as M) (hQ : Q (fn_X6_runOne as M).1 (fn_X6_runOne as M).2) : G 0 (inL as ++ List.replicate (5 - (inL as).length) none) [] M := by
  obtain ⟨g, k, f, rfl, hPL⟩ := hp
  have hk : kof k = 8 := ho (.inr (.inr (8, k))) (by simp)
  have hl := lnU hk
  obtain ⟨B, hB, eB⟩ := hPL.2.2
  have en : nB M = B := by unfold nB; rw [eB]; exact nI_clamp (by omega)
  simp only [fn_X6_runOne, ro, en] at hQ
  have loop : ∀ (n i : Nat) (M : mM), i + n = B → PL M → M.1 4 0 = nI B → Q (some (.inl (endSlot (itr (roS k f) i n M) k).1)) (endSlot (itr (roS k f) i n M) k).2 → G 7 [some (.inr (.inr (6, g))), some (.inr (.inr (8, k))), some (.inl f), some (.inl (nI i)), none] [] M := by
    intro n
    induction n with
    | zero =>
      intro i M hi hPL eB hq
      obtain rfl : i = B := by omega
      (apply h7; simp only [BX6_runOne_7, s_mth, s_mab, s_at, s_iconst, s_lconst, s_iload, s_lload, s_aload, s_istore, s_lstore, s_astore, s_iinc, s_bin, s_binG, s_un, s_lbin, s_lbinG, s_lsh, s_lcmp, s_i2l, s_l2i, s_dup, s_dup2, s_pop, s_if, s_icmp, s_geti, s_getl, s_getr, s_puti, s_putz, s_putl, s_iald, s_zald, s_iast, s_zast, s_aaldS, s_aaldU, s_gets, s_tald, s_tsw, tsw, s_iret, s_zret, s_lret, s_aret, s_vret, s_callV, s_callS, c1, nl1, keepL, csum, pushR, inL, List.getD_cons_zero, List.getD_cons_succ, List.set_cons_zero, List.set_cons_succ, List.cons_append, List.nil_append, List.append_nil, List.replicate, List.length_cons, List.length_nil, List.take_succ_cons, List.take_zero, List.drop_succ_cons, List.drop_zero, List.reverse_cons, List.reverse_nil, true_and, and_true, forall_const, not_true_eq_false, not_false_eq_true, false_implies, true_implies, implies_true, one0, m10, Nat.reduceAdd, Nat.reduceSub, Nat.reduceLeDiff, Nat.zero_add, Nat.add_zero, fn_X10_send, fn_X6_comeIn, fn_X6_dueFor, fn_X6_endSlot])
      rw [eB]
      refine ⟨fun _ => ?_, fun h => absurd (nI_le (Nat.le_refl i) (by omega)) h⟩
      (apply h94; simp only [BX6_runOne_94, s_mth, s_mab, s_at, s_iconst, s_lconst, s_iload, s_lload, s_aload, s_istore, s_lstore, s_astore, s_iinc, s_bin, s_binG, s_un, s_lbin, s_lbinG, s_lsh, s_lcmp, s_i2l, s_l2i, s_dup, s_dup2, s_pop, s_if, s_icmp, s_geti, s_getl, s_getr, s_puti, s_putz, s_putl, s_iald, s_zald, s_iast, s_zast, s_aaldS, s_aaldU, s_gets, s_tald, s_tsw, tsw, s_iret, s_zret, s_lret, s_aret, s_vret, s_callV, s_callS, c1, nl1, keepL, csum, pushR, inL, List.getD_cons_zero, List.getD_cons_succ, List.set_cons_zero, List.set_cons_succ, List.cons_append, List.nil_append, List.append_nil, List.replicate, List.length_cons, List.length_nil, List.take_succ_cons, List.take_zero, List.drop_succ_cons, List.drop_zero, List.reverse_cons, List.reverse_nil, true_and, and_true, forall_const, not_true_eq_false, not_false_eq_true, false_implies, true_implies, implies_true, one0, m10, Nat.reduceAdd, Nat.reduceSub, Nat.reduceLeDiff, Nat.zero_add, Nat.add_zero, fn_X10_send, fn_X6_comeIn, fn_X6_dueFor, fn_X6_endSlot])
      exact ⟨⟨_, _, rfl, hPL⟩, hq⟩
    | succ n ih =>
      intro i M hi hPL eB hq
      have ei : (nI i).toNatClampNeg = i := nI_clamp (by omega)
      have hv4 : vp_in (nI i) 4 := vp_in_nI (by omega) (by decide)
      have h4 := p4_roS (i := i) (f := f) hk hPL
      have L88 : G 88 [some (.inr (.inr (6, g))), some (.inr (.inr (8, k))), some (.inl f), some (.inl (nI i)), none] [] (roS k f i M) := by
        (apply h88; simp only [BX6_runOne_88, s_mth, s_mab, s_at, s_iconst, s_lconst, s_iload, s_lload, s_aload, s_istore, s_lstore, s_astore, s_iinc, s_bin, s_binG, s_un, s_lbin, s_lbinG, s_lsh, s_lcmp, s_i2l, s_l2i, s_dup, s_dup2, s_pop, s_if, s_icmp, s_geti, s_getl, s_getr, s_puti, s_putz, s_putl, s_iald, s_zald, s_iast, s_zast, s_aaldS, s_aaldU, s_gets, s_tald, s_tsw, tsw, s_iret, s_zret, s_lret, s_aret, s_vret, s_callV, s_callS, c1, nl1, keepL, csum, pushR, inL, List.getD_cons_zero, List.getD_cons_succ, List.set_cons_zero, List.set_cons_succ, List.cons_append, List.nil_append, List.append_nil, List.replicate, List.length_cons, List.length_nil, List.take_succ_cons, List.take_zero, List.drop_succ_cons, List.drop_zero, List.reverse_cons, List.reverse_nil, true_and, and_true, forall_const, not_true_eq_false, not_false_eq_true, false_implies, true_implies, implies_true, one0, m10, Nat.reduceAdd, Nat.reduceSub, Nat.reduceLeDiff, Nat.zero_add, Nat.add_zero, fn_X10_send, fn_X6_comeIn, fn_X6_dueFor, fn_X6_endSlot])
        rw [nI_1]
        exact ih (i + 1) _ (by omega) (PL_of hPL h4.1 h4.2) (by rw [h4.1]; exact eB) hq
      have L38 : ∀ h : Int32, h = (if f = 0 then df M k (nI i) else -9) → G 38 [some (.inr (.inr (6, g))), some (.inr (.inr (8, k))), some (.inl f), some (.inl (nI i)), none] [.inl h] M := by
        intro h eh
        have hr := ro_h (i := i) (k := k) (f := f) hPL
        rw [← eh] at hr
        unfold roS at L88
        rw [← eh] at L88
        (apply h38; simp only [BX6_runOne_38, s_mth, s_mab, s_at, s_iconst, s_lconst, s_iload, s_lload, s_aload, s_istore, s_lstore, s_astore, s_iinc, s_bin, s_binG, s_un, s_lbin, s_lbinG, s_lsh, s_lcmp, s_i2l, s_l2i, s_dup, s_dup2, s_pop, s_if, s_icmp, s_geti, s_getl, s_getr, s_puti, s_putz, s_putl, s_iald, s_zald, s_iast, s_zast, s_aaldS, s_aaldU, s_gets, s_tald, s_tsw, tsw, s_iret, s_zret, s_lret, s_aret, s_vret, s_callV, s_callS, c1, nl1, keepL, csum, pushR, inL, List.getD_cons_zero, List.getD_cons_succ, List.set_cons_zero, List.set_cons_succ, List.cons_append, List.nil_append, List.append_nil, List.replicate, List.length_cons, List.length_nil, List.take_succ_cons, List.take_zero, List.drop_succ_cons, List.drop_zero, List.reverse_cons, List.reverse_nil, true_and, and_true, forall_const, not_true_eq_false, not_false_eq_true, false_implies, true_implies, implies_true, one0, m10, Nat.reduceAdd, Nat.reduceSub, Nat.reduceLeDiff, Nat.zero_add, Nat.add_zero, fn_X10_send, fn_X6_comeIn, fn_X6_dueFor, fn_X6_endSlot])
        simp only [l25, l24, l22, l23, hl, ei]
        refine ⟨hv4, fun hn => ?_, fun hn => ?_⟩
        · rw [ro2, if_pos hn] at L88
          exact L88
        · obtain ⟨j, hj, e⟩ : ∃ j, j < 5 ∧ h = nI j := by
            rcases hr with g2 | g2
            · exact absurd g2 hn
            · exact g2
          have hv : vp_in h 5 := by rw [e]; exact vp_in_nI hj (by decide)
          rw [ro2, if_neg hn] at L88
          exact ⟨hv, hv, hv, ⟨_, _, rfl⟩, hv, hv, L88⟩
      (apply h7; simp only [BX6_runOne_7, s_mth, s_mab, s_at, s_iconst, s_lconst, s_iload, s_lload, s_aload, s_istore, s_lstore, s_astore, s_iinc, s_bin, s_binG, s_un, s_lbin, s_lbinG, s_lsh, s_lcmp, s_i2l, s_l2i, s_dup, s_dup2, s_pop, s_if, s_icmp, s_geti, s_getl, s_getr, s_puti, s_putz, s_putl, s_iald, s_zald, s_iast, s_zast, s_aaldS, s_aaldU, s_gets, s_tald, s_tsw, tsw, s_iret, s_zret, s_lret, s_aret, s_vret, s_callV, s_callS, c1, nl1, keepL, csum, pushR, inL, List.getD_cons_zero, List.getD_cons_succ, List.set_cons_zero, List.set_cons_succ, List.cons_append, List.nil_append, List.append_nil, List.replicate, List.length_cons, List.length_nil, List.take_succ_cons, List.take_zero, List.drop_succ_cons, List.drop_zero, List.reverse_cons, List.reverse_nil, true_and, and_true, forall_const, not_true_eq_false, not_false_eq_true, false_implies, true_implies, implies_true, one0, m10, Nat.reduceAdd, Nat.reduceSub, Nat.reduceLeDiff, Nat.zero_add, Nat.add_zero, fn_X10_send, fn_X6_comeIn, fn_X6_dueFor, fn_X6_endSlot])
      rw [eB]
      refine ⟨fun h => absurd h (nI_ge (by omega) (by omega)), fun _ => ⟨fun h => absurd h (nI_ge (b := 4) (by omega) (by decide)), fun _ => ⟨fun h => ?_, fun h => ?_⟩⟩⟩
      · (apply h32; simp only [BX6_runOne_32, s_mth, s_mab, s_at, s_iconst, s_lconst, s_iload, s_lload, s_aload, s_istore, s_lstore, s_astore, s_iinc, s_bin, s_binG, s_un, s_lbin, s_lbinG, s_lsh, s_lcmp, s_i2l, s_l2i, s_dup, s_dup2, s_pop, s_if, s_icmp, s_geti, s_getl, s_getr, s_puti, s_putz, s_putl, s_iald, s_zald, s_iast, s_zast, s_aaldS, s_aaldU, s_gets, s_tald, s_tsw, tsw, s_iret, s_zret, s_lret, s_aret, s_vret, s_callV, s_callS, c1, nl1, keepL, csum, pushR, inL, List.getD_cons_zero, List.getD_cons_succ, List.set_cons_zero, List.set_cons_succ, List.cons_append, List.nil_append, List.append_nil, List.replicate, List.length_cons, List.length_nil, List.take_succ_cons, List.take_zero, List.drop_succ_cons, List.drop_zero, List.reverse_cons, List.reverse_nil, true_and, and_true, forall_const, not_true_eq_false, not_false_eq_true, false_implies, true_implies, implies_true, one0, m10, Nat.reduceAdd, Nat.reduceSub, Nat.reduceLeDiff, Nat.zero_add, Nat.add_zero, fn_X10_send, fn_X6_comeIn, fn_X6_dueFor, fn_X6_endSlot])
        exact ⟨⟨_, _, _, rfl, hPL⟩, L38 _ (by rw [if_pos h])⟩
      · exact L38 _ (by rw [if_neg h])
  have h2 := p4_comeIn hk hPL
  (apply h0; simp only [BX6_runOne_0, s_mth, s_mab, s_at, s_iconst, s_lconst, s_iload, s_lload, s_aload, s_istore, s_lstore, s_astore, s_iinc, s_bin, s_binG, s_un, s_lbin, s_lbinG, s_lsh, s_lcmp, s_i2l, s_l2i, s_dup, s_dup2, s_pop, s_if, s_icmp, s_geti, s_getl, s_getr, s_puti, s_putz, s_putl, s_iald, s_zald, s_iast, s_zast, s_aaldS, s_aaldU, s_gets, s_tald, s_tsw, tsw, s_iret, s_zret, s_lret, s_aret, s_vret, s_callV, s_callS, c1, nl1, keepL, csum, pushR, inL, List.getD_cons_zero, List.getD_cons_succ, List.set_cons_zero, List.set_cons_succ, List.cons_append, List.nil_append, List.append_nil, List.replicate, List.length_cons, List.length_nil, List.take_succ_cons, List.take_zero, List.drop_succ_cons, List.drop_zero, List.reverse_cons, List.reverse_nil, true_and, and_true, forall_const, not_true_eq_false, not_false_eq_true, false_implies, true_implies, implies_true, one0, m10, Nat.reduceAdd, Nat.reduceSub, Nat.reduceLeDiff, Nat.zero_add, Nat.add_zero, fn_X10_send, fn_X6_comeIn, fn_X6_dueFor, fn_X6_endSlot])
  exact ⟨⟨_, _, rfl, hPL⟩, loop B 0 _ (by omega) h2.2 (by rw [h2.1]; exact eB) hQ⟩
theorem ct_X6_runOne (l : Launch) : Con l yX6_runOne cX6_runOne 5 (Option.some FieldType.int) 2 pre_X6_runOne fn_X6_runOne := con_of (by decide +kernel) ok_X6_runOne len_X6_runOne (fun p e s m args below meth c D ca ad A as M hX hr hp ho => pf_X6_runOne _ _ (bsX6_runOne_0 hX hr) (bsX6_runOne_7 hX hr) (bsX6_runOne_32 hX hr) (bsX6_runOne_38 hX hr) (bsX6_runOne_88 hX hr) (bsX6_runOne_94 hX hr) as M ho hp ⟨rfl, rfl⟩)
def ruS (k : Nat) (_ : Nat) (q : Int32 × mM) : Int32 × mM := (q.1 + (ro q.2 k 0).1, (ro q.2 k 0).2)
def ru (M : mM) (k n : Nat) : Int32 × mM := itr (ruS k) 0 n (0, M)
theorem p4_endSlot {M : mM} {k : Nat} (hk : kof k = 8) (hPL : PL M) : (endSlot M k).2.1 4 = M.1 4 ∧ (endSlot M k).2.1 6 = M.1 6 := by
  obtain ⟨N, hN, eN⟩ := hPL.1
  have en : nU M = N := by unfold nU; rw [eN]; exact nI_clamp (by omega)
  unfold endSlot esF
  have h := itr_inv (esS k) (fun q => q.2.1 4 = M.1 4 ∧ q.2.1 6 = M.1 6) (nU M) 0 (0, M) (fun j q h1 h2 h => by
    have hu := kU hk (show j < 5 by omega)
    unfold esS esB esA
    simp only
    rw [mset_n (kne (by rw [hu]; decide +kernel)), mset_n (kne (by rw [hu]; decide +kernel)), mset_n (kne (by rw [hu]; decide +kernel)), mset_n (kne (by rw [hu]; decide +kernel))]
    exact h) ⟨rfl, rfl⟩
  simp only
  rw [mset_n (kne (by rw [hk]; decide +kernel)), mset_n (kne (by rw [hk]; decide +kernel))]
  exact h
theorem p4_ro {M : mM} {k : Nat} {f : Int32} (hk : kof k = 8) (hPL : PL M) : (ro M k f).2.1 4 = M.1 4 ∧ PL (ro M k f).2 := by
  have h1 := p4_comeIn hk hPL
  have h2 := itr_inv (roS k f) (fun M2 => M2.1 4 = M.1 4 ∧ PL M2) (nB M) 0 (comeIn M k) (fun j s _ _ h => by
    have h4 := p4_roS (i := j) (f := f) hk h.2
    exact ⟨h4.1.trans h.1, PL_of h.2 h4.1 h4.2⟩) h1
  have h3 := p4_endSlot hk h2.2
  exact ⟨h3.1.trans h2.1, PL_of h2.2 h3.1 h3.2⟩
def pre_X6_run (as : List mV) (M : mM) : Prop := ∃ g k x, as = [.inr (.inr (6, g)), .inr (.inr (8, k)), .inl x] ∧ PL M ∧ ∃ n, n < 2 ^ 31 ∧ x = nI n
def fn_X6_run : List mV → mM → Option mV × mM
  | [.inr (.inr (_, g)), .inr (.inr (_, k)), .inl x], M => (some (.inl (ru M k x.toNatClampNeg).1), (ru M k x.toNatClampNeg).2)
  | _, M => (none, M)
theorem ok_X6_run (as : List mV) (M : mM) (h : pre_X6_run as M) (_ : ∀ v ∈ as, okV v) : okR (fn_X6_run as M).1 := by
  obtain ⟨g, k, x, rfl, -⟩ := h
  first | trivial | exact (by decide +kernel : kof 14 = 8)
theorem len_X6_run (as : List mV) (M : mM) (h : pre_X6_run as M) : (inL as).length ≤ 5 := by
  obtain ⟨g, k, x, rfl, -⟩ := h
  exact Nat.le_of_ble_eq_true rfl


theorem dX6_run_0 : decode cX6_run 0 = .ok (.iconst 0, 1) := by decide +kernel
theorem dX6_run_1 : decode cX6_run 1 = .ok (.istore_n 3, 1) := by decide +kernel
theorem dX6_run_2 : decode cX6_run 2 = .ok (.iconst 0, 1) := by decide +kernel
theorem dX6_run_3 : decode cX6_run 3 = .ok (.istore 4, 2) := by decide +kernel
theorem dX6_run_5 : decode cX6_run 5 = .ok (.iload 4, 2) := by decide +kernel
theorem dX6_run_7 : decode cX6_run 7 = .ok (.iload_n 2, 1) := by decide +kernel
theorem dX6_run_8 : decode cX6_run 8 = .ok (.if_icmp .ge 18, 3) := by decide +kernel
theorem dX6_run_11 : decode cX6_run 11 = .ok (.iload_n 3, 1) := by decide +kernel
theorem dX6_run_12 : decode cX6_run 12 = .ok (.aload_n 0, 1) := by decide +kernel
theorem dX6_run_13 : decode cX6_run 13 = .ok (.aload_n 1, 1) := by decide +kernel
theorem dX6_run_14 : decode cX6_run 14 = .ok (.iconst 0, 1) := by decide +kernel
theorem dX6_run_15 : decode cX6_run 15 = .ok (.invokevirtual 28, 3) := by decide +kernel
theorem dX6_run_18 : decode cX6_run 18 = .ok (.iadd, 1) := by decide +kernel
theorem dX6_run_19 : decode cX6_run 19 = .ok (.istore_n 3, 1) := by decide +kernel
theorem dX6_run_20 : decode cX6_run 20 = .ok (.iinc 4 1, 3) := by decide +kernel
theorem dX6_run_23 : decode cX6_run 23 = .ok (.goto (-18), 3) := by decide +kernel
theorem dX6_run_26 : decode cX6_run 26 = .ok (.iload_n 3, 1) := by decide +kernel
theorem dX6_run_27 : decode cX6_run 27 = .ok (.ireturn, 1) := by decide +kernel
theorem mk_X6_run : MVk yX6_run "FairBlocks$Scheduler" cX6_run 5 (Option.some FieldType.int) 2 := ⟨w_428, w_426, w_427, w_7, rfl, by decide +kernel, by decide +kernel, by decide +kernel⟩
def BX6_run_0 (G : Nat → KT) (Q : Option mV → mM → Prop) : KT := (s_iconst (0) (s_istore 3 (s_iconst (0) (s_istore 4 (s_at G 5 [true, true, true, true, true])))))
set_option maxRecDepth 4000 in
theorem bsX6_run_0 {p : Program} {l : Launch} {e : Env} {s : State} {m : MethodId} {args : Array Value} {below : List Frame} {meth : Method} {c : Code} {D : va_G} {ca : Nat → ClassId} {ad : Nat → Nat} {A : Nat → Prop} {Q : Option mV → mM → Prop} (hX : CX p s m args meth c 5 cX6_run "FairBlocks$Scheduler" D ca ad A) (hr : meth.sig.returnType = (Option.some FieldType.int)) : ∀ lv st M, BX6_run_0 (Gd p l e (rmD 3) s m args below meth c 5 D ca ad A 0 0 (MQ below (QC D ca ad A Q) args s 0 0 A)) Q lv st M → Gd p l e (rmD 3) s m args below meth c 5 D ca ad A 0 0 (MQ below (QC D ca ad A Q) args s 0 0 A) 0 lv st M :=
  (sd_iconst hX dX6_run_0 rfl (sd_istore_n hX (by decide) dX6_run_1 rfl (sd_iconst hX dX6_run_2 rfl (sd_istore hX (by decide) dX6_run_3 sd_at))))
def BX6_run_5 (G : Nat → KT) (Q : Option mV → mM → Prop) : KT := (s_iload 4 (s_iload 2 (s_icmp (fun x y => y ≤ x) (s_at G 26 [false, false, false, true, false]) (s_iload 3 (s_aload 0 (s_aload 1 (s_iconst (0) (s_callV 6 2 pre_X6_runOne fn_X6_runOne (s_bin (fun x y => x + y) (s_istore 3 (s_iinc 4 (1) (s_at G 5 [true, true, true, true, true]))))))))))))
set_option maxRecDepth 4000 in
theorem bsX6_run_5 {p : Program} {l : Launch} {e : Env} {s : State} {m : MethodId} {args : Array Value} {below : List Frame} {meth : Method} {c : Code} {D : va_G} {ca : Nat → ClassId} {ad : Nat → Nat} {A : Nat → Prop} {Q : Option mV → mM → Prop} (hX : CX p s m args meth c 5 cX6_run "FairBlocks$Scheduler" D ca ad A) (hr : meth.sig.returnType = (Option.some FieldType.int)) : ∀ lv st M, BX6_run_5 (Gd p l e (rmD 3) s m args below meth c 5 D ca ad A 0 0 (MQ below (QC D ca ad A Q) args s 0 0 A)) Q lv st M → Gd p l e (rmD 3) s m args below meth c 5 D ca ad A 0 0 (MQ below (QC D ca ad A Q) args s 0 0 A) 5 lv st M :=
  (sd_iload hX dX6_run_5 (sd_iload_n hX dX6_run_7 rfl (sd_icmp_ge hX dX6_run_8 (by decide) sd_at (sd_iload_n hX dX6_run_11 rfl (sd_aload_n hX dX6_run_12 rfl (sd_aload_n hX dX6_run_13 rfl (sd_iconst hX dX6_run_14 rfl (sd_callV hX (kd := 6) rfl (by decide) (ct_X6_runOne l) mk_X6_runOne w_429 ⟨⟨by decide, by decide⟩, by decide, by decide⟩ dX6_run_15 (sd_iadd hX dX6_run_18 (sd_istore_n hX (by decide) dX6_run_19 rfl (sd_iinc hX (by decide) dX6_run_20 rfl (sd_goto hX dX6_run_23 (by decide) sd_at))))))))))))
def BX6_run_26 (G : Nat → KT) (Q : Option mV → mM → Prop) : KT := (s_iload 3 (s_iret Q))
set_option maxRecDepth 4000 in
theorem bsX6_run_26 {p : Program} {l : Launch} {e : Env} {s : State} {m : MethodId} {args : Array Value} {below : List Frame} {meth : Method} {c : Code} {D : va_G} {ca : Nat → ClassId} {ad : Nat → Nat} {A : Nat → Prop} {Q : Option mV → mM → Prop} (hX : CX p s m args meth c 5 cX6_run "FairBlocks$Scheduler" D ca ad A) (hr : meth.sig.returnType = (Option.some FieldType.int)) : ∀ lv st M, BX6_run_26 (Gd p l e (rmD 3) s m args below meth c 5 D ca ad A 0 0 (MQ below (QC D ca ad A Q) args s 0 0 A)) Q lv st M → Gd p l e (rmD 3) s m args below meth c 5 D ca ad A 0 0 (MQ below (QC D ca ad A Q) args s 0 0 A) 26 lv st M :=
  (sd_iload_n hX dX6_run_26 rfl (sd_iret hX hr dX6_run_27))
set_option maxHeartbeats 400000 in
theorem pf_X6_run (G : Nat → KT) (Q : Option mV → mM → Prop) (h0 : ∀ lv st M, BX6_run_0 G Q lv st M → G 0 lv st M) (h5 : ∀ lv st M, BX6_run_5 G Q lv st M → G 5 lv st M) (h26 : ∀ lv st M, BX6_run_26 G Q lv st M → G 26 lv st M) (as : List mV) (M : mM) (ho : ∀ v ∈ as, okV v) (hp : pre_X6_run as M) (hQ : Q (fn_X6_run as M).1 (fn_X6_run as M).2) : G 0 (inL as ++ List.replicate (5 - (inL as).length) none) [] M := by
  obtain ⟨g, k, x, rfl, hPL, N, hN, rfl⟩ := hp
  have hk : kof k = 8 := ho (.inr (.inr (8, k))) (by simp)
  simp only [fn_X6_run, ru, nI_clamp hN] at hQ
  have loop : ∀ (n i : Nat) (t : Int32) (M : mM), i + n = N → PL M → Q (some (.inl (itr (ruS k) i n (t, M)).1)) (itr (ruS k) i n (t, M)).2 → G 5 [some (.inr (.inr (6, g))), some (.inr (.inr (8, k))), some (.inl (nI N)), some (.inl t), some (.inl (nI i))] [] M := by
    intro n
    induction n with
    | zero =>
      intro i t M hi hPL hq
      obtain rfl : i = N := by omega
      (apply h5; simp only [BX6_run_5, s_mth, s_mab, s_at, s_iconst, s_lconst, s_iload, s_lload, s_aload, s_istore, s_lstore, s_astore, s_iinc, s_bin, s_binG, s_un, s_lbin, s_lbinG, s_lsh, s_lcmp, s_i2l, s_l2i, s_dup, s_dup2, s_pop, s_if, s_icmp, s_geti, s_getl, s_getr, s_puti, s_putz, s_putl, s_iald, s_zald, s_iast, s_zast, s_aaldS, s_aaldU, s_gets, s_tald, s_tsw, tsw, s_iret, s_zret, s_lret, s_aret, s_vret, s_callV, s_callS, c1, nl1, keepL, csum, pushR, inL, List.getD_cons_zero, List.getD_cons_succ, List.set_cons_zero, List.set_cons_succ, List.cons_append, List.nil_append, List.append_nil, List.replicate, List.length_cons, List.length_nil, List.take_succ_cons, List.take_zero, List.drop_succ_cons, List.drop_zero, List.reverse_cons, List.reverse_nil, true_and, and_true, forall_const, not_true_eq_false, not_false_eq_true, false_implies, true_implies, implies_true, one0, m10, Nat.reduceAdd, Nat.reduceSub, Nat.reduceLeDiff, Nat.zero_add, Nat.add_zero, fn_X6_runOne])
      refine ⟨fun _ => ?_, fun h => absurd (nI_le (Nat.le_refl i) (by omega)) h⟩
      (apply h26; simp only [BX6_run_26, s_mth, s_mab, s_at, s_iconst, s_lconst, s_iload, s_lload, s_aload, s_istore, s_lstore, s_astore, s_iinc, s_bin, s_binG, s_un, s_lbin, s_lbinG, s_lsh, s_lcmp, s_i2l, s_l2i, s_dup, s_dup2, s_pop, s_if, s_icmp, s_geti, s_getl, s_getr, s_puti, s_putz, s_putl, s_iald, s_zald, s_iast, s_zast, s_aaldS, s_aaldU, s_gets, s_tald, s_tsw, tsw, s_iret, s_zret, s_lret, s_aret, s_vret, s_callV, s_callS, c1, nl1, keepL, csum, pushR, inL, List.getD_cons_zero, List.getD_cons_succ, List.set_cons_zero, List.set_cons_succ, List.cons_append, List.nil_append, List.append_nil, List.replicate, List.length_cons, List.length_nil, List.take_succ_cons, List.take_zero, List.drop_succ_cons, List.drop_zero, List.reverse_cons, List.reverse_nil, true_and, and_true, forall_const, not_true_eq_false, not_false_eq_true, false_implies, true_implies, implies_true, one0, m10, Nat.reduceAdd, Nat.reduceSub, Nat.reduceLeDiff, Nat.zero_add, Nat.add_zero, fn_X6_runOne])
      exact hq
    | succ n ih =>
      intro i t M hi hPL hq
      (apply h5; simp only [BX6_run_5, s_mth, s_mab, s_at, s_iconst, s_lconst, s_iload, s_lload, s_aload, s_istore, s_lstore, s_astore, s_iinc, s_bin, s_binG, s_un, s_lbin, s_lbinG, s_lsh, s_lcmp, s_i2l, s_l2i, s_dup, s_dup2, s_pop, s_if, s_icmp, s_geti, s_getl, s_getr, s_puti, s_putz, s_putl, s_iald, s_zald, s_iast, s_zast, s_aaldS, s_aaldU, s_gets, s_tald, s_tsw, tsw, s_iret, s_zret, s_lret, s_aret, s_vret, s_callV, s_callS, c1, nl1, keepL, csum, pushR, inL, List.getD_cons_zero, List.getD_cons_succ, List.set_cons_zero, List.set_cons_succ, List.cons_append, List.nil_append, List.append_nil, List.replicate, List.length_cons, List.length_nil, List.take_succ_cons, List.take_zero, List.drop_succ_cons, List.drop_zero, List.reverse_cons, List.reverse_nil, true_and, and_true, forall_const, not_true_eq_false, not_false_eq_true, false_implies, true_implies, implies_true, one0, m10, Nat.reduceAdd, Nat.reduceSub, Nat.reduceLeDiff, Nat.zero_add, Nat.add_zero, fn_X6_runOne])
      refine ⟨fun h => absurd h (nI_ge (by omega) (by omega)), fun _ => ⟨⟨_, _, _, rfl, hPL⟩, ?_⟩⟩
      rw [nI_1]
      exact ih (i + 1) _ _ (by omega) (p4_ro hk hPL).2 hq
  (apply h0; simp only [BX6_run_0, s_mth, s_mab, s_at, s_iconst, s_lconst, s_iload, s_lload, s_aload, s_istore, s_lstore, s_astore, s_iinc, s_bin, s_binG, s_un, s_lbin, s_lbinG, s_lsh, s_lcmp, s_i2l, s_l2i, s_dup, s_dup2, s_pop, s_if, s_icmp, s_geti, s_getl, s_getr, s_puti, s_putz, s_putl, s_iald, s_zald, s_iast, s_zast, s_aaldS, s_aaldU, s_gets, s_tald, s_tsw, tsw, s_iret, s_zret, s_lret, s_aret, s_vret, s_callV, s_callS, c1, nl1, keepL, csum, pushR, inL, List.getD_cons_zero, List.getD_cons_succ, List.set_cons_zero, List.set_cons_succ, List.cons_append, List.nil_append, List.append_nil, List.replicate, List.length_cons, List.length_nil, List.take_succ_cons, List.take_zero, List.drop_succ_cons, List.drop_zero, List.reverse_cons, List.reverse_nil, true_and, and_true, forall_const, not_true_eq_false, not_false_eq_true, false_implies, true_implies, implies_true, one0, m10, Nat.reduceAdd, Nat.reduceSub, Nat.reduceLeDiff, Nat.zero_add, Nat.add_zero, fn_X6_runOne])
  exact loop N 0 0 M (by omega) hPL hQ
theorem ct_X6_run (l : Launch) : Con l yX6_run cX6_run 5 (Option.some FieldType.int) 3 pre_X6_run fn_X6_run := con_of (by decide +kernel) ok_X6_run len_X6_run (fun p e s m args below meth c D ca ad A as M hX hr hp ho => pf_X6_run _ _ (bsX6_run_0 hX hr) (bsX6_run_5 hX hr) (bsX6_run_26 hX hr) as M ho hp ⟨rfl, rfl⟩)
end
section
/-! what stays -/
theorem k8_ge {k : Nat} (h : kof k = 8) : 7 ≤ k := by
  have g : ∀ k, k < 178 → kof k = 8 → 7 ≤ k := by decide +kernel
  exact g k (kof_lt (by omega)) h
theorem k8_far {k : Nat} (h : kof k = 8) : k + 7 ≤ 21 ∨ 28 ≤ k := by
  have g : ∀ k, k < 178 → kof k = 8 → k + 7 ≤ 21 ∨ 28 ≤ k := by decide +kernel
  exact g k (kof_lt (by omega)) h
def fr (k a : Nat) : Prop := a < k ∨ a = k + 1 ∨ k + 7 ≤ a
def sc (a : Nat) : Prop := a < 22 ∨ 26 ≤ a
theorem fr_u {k a i : Nat} (h : fr k a) (hi : i < 5) : a ≠ k + 1 + 1 + i := by unfold fr at h; omega
theorem fr_k {k a : Nat} (h : fr k a) : a ≠ k := by unfold fr at h; omega
theorem f_ciS {M : mM} {k i a : Nat} (hi : i < 5) (h : fr k a) (hs : sc a) : (ciS k i M).1 a = M.1 a := by
  unfold ciS tkn
  unfold sc at hs
  rw [mset_n (by omega), mset_n (by omega), mset_n (by omega), mset_n (fr_u h hi)]
theorem n5 {M : mM} (h : PL M) : nU M ≤ 5 := by
  obtain ⟨N, hN, eN⟩ := h.1
  unfold nU; rw [eN, nI_clamp (by omega)]; exact hN
theorem uN {M : mM} (h : PL M) : M.1 4 2 = nI (nU M) := by
  obtain ⟨N, hN, eN⟩ := h.1
  unfold nU; rw [eN, nI_clamp (by omega)]
theorem f_comeIn {M : mM} {k a : Nat} (hPL : PL M) (h : fr k a) (hs : sc a) : (comeIn M k).1 a = M.1 a := by
  have := n5 hPL
  exact itr_inv (ciS k) (fun M2 => M2.1 a = M.1 a) (nU M) 0 M (fun j s _ h2 h3 => (f_ciS (by omega) h hs).trans h3) rfl
theorem f_roS {M : mM} {k i a : Nat} {f : Int32} (hPL : PL M) (h : fr k a) (hs : sc a) : (roS k f i M).1 a = M.1 a := by
  unfold sc at hs
  have hr := ro_h (k := k) (i := i) (f := f) hPL
  unfold roS
  generalize (if f = 0 then df M k (nI i) else -9) = w at hr ⊢
  unfold ro2
  split
  · exact mset_n (by omega)
  · next hn =>
    rcases hr with g | ⟨j, hj, rfl⟩
    · exact absurd g hn
    · rw [nI_clamp (by omega)]
      unfold ro3
      rw [mset_n (by omega), mset_n (by omega), send_n (fr_u h hj), mset_n (by omega)]
theorem f_endSlot {M : mM} {k a : Nat} (hPL : PL M) (h : fr k a) : (endSlot M k).2.1 a = M.1 a := by
  have := n5 hPL
  unfold endSlot esF
  simp only
  rw [mset_n (fr_k h)]
  exact itr_inv (esS k) (fun q => q.2.1 a = M.1 a) (nU M) 0 (0, M) (fun j q _ h2 h3 => by
    unfold esS esB esA
    simp only
    rw [mset_n (fr_u h (by omega)), mset_n (fr_u h (by omega))]
    exact h3) rfl
theorem f_mid {M : mM} {k : Nat} {f : Int32} (hk : kof k = 8) (hPL : PL M) (n i : Nat) : PL (itr (roS k f) i n M) ∧ ∀ a, fr k a → sc a → (itr (roS k f) i n M).1 a = M.1 a :=
  itr_inv (roS k f) (fun M2 => PL M2 ∧ ∀ a, fr k a → sc a → M2.1 a = M.1 a) n i M (fun j s _ _ h => by
    have h4 := p4_roS (i := j) (f := f) hk h.1
    exact ⟨PL_of h.1 h4.1 h4.2, fun a h1 h2 => (f_roS h.1 h1 h2).trans (h.2 a h1 h2)⟩) ⟨hPL, fun _ _ _ => rfl⟩
theorem f_ro {M : mM} {k a : Nat} {f : Int32} (hk : kof k = 8) (hPL : PL M) (h : fr k a) (hs : sc a) : (ro M k f).2.1 a = M.1 a := by
  have h1 := (p4_comeIn hk hPL).2
  have h2 := f_mid (f := f) hk h1 (nB M) 0
  unfold ro
  rw [f_endSlot h2.1 h, h2.2 a h hs, f_comeIn hPL h hs]
theorem PL_ro {M : mM} {k : Nat} {f : Int32} (hk : kof k = 8) (hPL : PL M) : PL (ro M k f).2 := (p4_ro hk hPL).2
theorem f_ru {M : mM} {k : Nat} (hk : kof k = 8) (hPL : PL M) (n i : Nat) (t : Int32) : PL (itr (ruS k) i n (t, M)).2 ∧ ∀ a, fr k a → sc a → (itr (ruS k) i n (t, M)).2.1 a = M.1 a :=
  itr_inv (ruS k) (fun q => PL q.2 ∧ ∀ a, fr k a → sc a → q.2.1 a = M.1 a) n i (t, M) (fun j s _ _ h => ⟨PL_ro hk h.1, fun a h1 h2 => (f_ro hk h.1 h1 h2).trans (h.2 a h1 h2)⟩) ⟨hPL, fun _ _ _ => rfl⟩
-- the users' switch
theorem o3_ciS {M : mM} {k i a : Nat} (ha : kof a = 10) : (ciS k i M).1 a 3 = M.1 a 3 := by
  unfold ciS tkn
  rw [mset_n (kne (by rw [ha]; decide +kernel)), mset_n (kne (by rw [ha]; decide +kernel)), mset_n (kne (by rw [ha]; decide +kernel)), mset_get, if_neg (by omega)]
theorem o3_send {M : mM} {uk a : Nat} {x : Int32} : (send M uk x).2.1 a 3 = M.1 a 3 := by
  unfold send send2 sendM
  split <;> (try split) <;> (try split) <;> simp [mset_get]
theorem o3_roS {M : mM} {k i a : Nat} {f : Int32} (ha : kof a = 10) : (roS k f i M).1 a 3 = M.1 a 3 := by
  unfold roS
  generalize (if f = 0 then df M k (nI i) else -9) = w
  unfold ro2 ro3
  have h22 : a ≠ 23 := kne (by rw [ha]; decide +kernel)
  have h24 : a ≠ 24 := kne (by rw [ha]; decide +kernel)
  have h25 : a ≠ 25 := kne (by rw [ha]; decide +kernel)
  split
  · rw [mset_n h25]
  · rw [mset_n h22, mset_n h24, o3_send, mset_n h25]
theorem o3_endSlot {M : mM} {k a : Nat} (ha : kof a = 10) : (endSlot M k).2.1 a 3 = M.1 a 3 := by
  unfold endSlot esF
  simp only
  rw [mset_get, if_neg (by omega)]
  exact itr_inv (esS k) (fun q => q.2.1 a 3 = M.1 a 3) (nU M) 0 (0, M) (fun j q _ h2 h3 => by
    unfold esS esB esA
    simp only
    rw [mset_get, if_neg (by omega), mset_get, if_neg (by omega)]
    exact h3) rfl
theorem o3_ro {M : mM} {k a : Nat} {f : Int32} (ha : kof a = 10) : (ro M k f).2.1 a 3 = M.1 a 3 := by
  unfold ro
  rw [o3_endSlot ha]
  have h1 : (comeIn M k).1 a 3 = M.1 a 3 := itr_inv (ciS k) (fun M2 => M2.1 a 3 = M.1 a 3) (nU M) 0 M (fun j s _ _ h => (o3_ciS ha).trans h) rfl
  exact itr_inv (roS k f) (fun M2 => M2.1 a 3 = M.1 a 3) (nB M) 0 (comeIn M k) (fun j s _ _ h => (o3_roS ha).trans h) h1
theorem OF_ro {M : mM} {k : Nat} {f : Int32} (h : OF M) : OF (ro M k f).2 := fun a ha => by rw [o3_ro ha]; exact h a ha
theorem OF_ru {M : mM} {k : Nat} (h : OF M) (n i : Nat) (t : Int32) : OF (itr (ruS k) i n (t, M)).2 :=
  itr_inv (ruS k) (fun q => OF q.2) n i (t, M) (fun j s _ _ h => OF_ro h) h
-- copies
theorem f_cpL {M : mM} {k o a : Nat} (h : fr k a) (n i : Nat) (hi : i + n ≤ 5) : (cpL M k o n i).1 a = M.1 a :=
  itr_inv (fun i M => cpU M (k + 1 + 1 + i) (o + 1 + 1 + i)) (fun M2 => M2.1 a = M.1 a) n i M (fun j s _ h2 h3 => by
    rw [← h3]
    funext b
    rw [cpU_get, if_neg (fun g => fr_u h (show j < 5 by omega) g.1)]) rfl
theorem f_stc {M : mM} {k o a : Nat} (h : fr k a) : (stc M k o).1 a = M.1 a := by
  unfold stc
  rw [mset_n (fr_k h), mset_n (fr_k h), f_cpL h 5 0 (by decide)]
theorem OF_stc {M : mM} {k o : Nat} (h : OF M) (hk : kof k = 8) (ho : kof o = 8) : OF (stc M k o) := by
  unfold stc
  refine OF_mset (OF_mset ?_ (by rw [hk]; decide)) (by rw [hk]; decide)
  exact itr_inv (fun i M => cpU M (k + 1 + 1 + i) (o + 1 + 1 + i)) OF 5 0 M (fun j s _ h2 h3 => OF_cpU h3 (kU ho (by omega))) h
theorem PL_stc {M : mM} {k o : Nat} (h : PL M) (hk : kof k = 8) : PL (stc M k o) := by
  have := k8_ge hk
  exact PL_of h (f_stc (by unfold fr; omega)) (f_stc (by unfold fr; omega))
theorem mset_2a {M : mM} {k j : Nat} {v : Int32} : (mset M k j v).2 = M.2 := rfl
theorem stc_2 {M : mM} {k o : Nat} : (stc M k o).2 = M.2 := by
  unfold stc
  rw [mset_2a, mset_2a]
  unfold cpL
  exact itr_inv (fun i M => cpU M (k + 1 + 1 + i) (o + 1 + 1 + i)) (fun M2 => M2.2 = M.2) 5 0 M (fun j s _ _ h3 => by rw [cpU_2]; exact h3) rfl
theorem c30 : Int32.toNatClampNeg 30 = 30 := by decide
theorem c20 : Int32.toNatClampNeg 20 = 20 := by decide
theorem k14 : kof 14 = 8 := by decide +kernel
theorem k7 : kof 7 = 8 := by decide +kernel
theorem k144 : kof 144 = 8 := by decide +kernel
theorem l8 : ln 8 = 5 := by decide +kernel
theorem l15 : ln 15 = 5 := by decide +kernel
/-- what calls ask for -/
def GD (M : mM) : Prop := OF M ∧ PL M
theorem GD_ro {M : mM} {k : Nat} {f : Int32} (hk : kof k = 8) (h : GD M) : GD (ro M k f).2 := ⟨OF_ro h.1, PL_ro hk h.2⟩
theorem GD_stc {M : mM} {k o : Nat} (hk : kof k = 8) (ho : kof o = 8) (h : GD M) : GD (stc M k o) := ⟨OF_stc h.1 hk ho, PL_stc h.2 hk⟩
theorem GD_ru {M : mM} {k n i : Nat} {t : Int32} (hk : kof k = 8) (h : GD M) : GD (itr (ruS k) i n (t, M)).2 := ⟨OF_ru h.1 n i t, (f_ru hk h.2 n i t).1⟩
theorem hasI_1 {M : mM} {x : Int32} (hPL : PL M) (h : ¬ hasI M x = 0) : ∃ j, j < nU M ∧ x = nI j := by
  unfold hasI at h
  split at h
  · exact absurd rfl h
  · next h0 =>
    split at h
    · exact absurd rfl h
    · next h1 =>
      obtain ⟨j, hj, rfl⟩ := nI_of h0
      rw [uN hPL] at h1
      refine ⟨j, ?_, rfl⟩
      rcases Nat.lt_or_ge j (nU M) with g | g
      · exact g
      · exact absurd (nI_le g hj) h1
theorem hasI_y {M : mM} {j : Nat} (hPL : PL M) (h : j < nU M) : hasI M (nI j) = 1 := by
  have := n5 hPL
  unfold hasI
  rw [if_neg (nI_pos (by omega)), uN hPL, if_neg (nI_ge h (by omega))]
/-! Outlook -/
def lwS (U : Nat) (_ : Nat) (q : Int32 × mM) : Int32 × mM := (mx q.1 ((ro q.2 14 0).2.1 (16 + U) 7), (ro q.2 14 0).2)
def lw (M : mM) (U N : Nat) : Int32 × mM := itr (lwS U) 0 N (0, stc M 14 7)
def pre_X4_longestWait (as : List mV) (M : mM) : Prop := ∃ c u x, as = [.inr (.inr (4, c)), .inl u, .inl x] ∧ GD M ∧ (∃ j, j < 5 ∧ u = nI j) ∧ ∃ n, n < 2 ^ 31 ∧ x = nI n
def fn_X4_longestWait : List mV → mM → Option mV × mM
  | [.inr (.inr (_, c)), .inl u, .inl x], M => (some (.inl (lw M u.toNatClampNeg x.toNatClampNeg).1), (lw M u.toNatClampNeg x.toNatClampNeg).2)
  | _, M => (none, M)
theorem ok_X4_longestWait (as : List mV) (M : mM) (h : pre_X4_longestWait as M) (_ : ∀ v ∈ as, okV v) : okR (fn_X4_longestWait as M).1 := by
  obtain ⟨c, u, x, rfl, -⟩ := h
  first | trivial | exact (by decide +kernel : kof 14 = 8)
theorem len_X4_longestWait (as : List mV) (M : mM) (h : pre_X4_longestWait as M) : (inL as).length ≤ 6 := by
  obtain ⟨c, u, x, rfl, -⟩ := h
  exact Nat.le_of_ble_eq_true rfl

theorem fl_114 : FLk "FairBlocks$Outlook" 37 10 7 0 := ⟨RX10, TX10, 10, rfl, inX10, by decide, w_114, by decide, rfl⟩
theorem fl_143 : FLk "FairBlocks$Outlook" 31 8 0 19 := ⟨RX8, TX8, 3, rfl, inX8, by decide, w_143, by decide, rfl⟩
theorem fl_200 : FLk "FairBlocks$Outlook" 21 1 3 9 := ⟨RX1, TX1, 4, rfl, inX1, by decide, w_200, by decide, rfl⟩
theorem fl_242 : FLk "FairBlocks$Outlook" 9 4 0 4 := ⟨RX4, TX4, 1, rfl, inX4, by decide, w_242, by decide, rfl⟩
theorem dX4_longestWait_0 : decode cX4_longestWait 0 = .ok (.aload_n 0, 1) := by decide +kernel
theorem dX4_longestWait_1 : decode cX4_longestWait 1 = .ok (.getfield 9, 3) := by decide +kernel
theorem dX4_longestWait_4 : decode cX4_longestWait 4 = .ok (.invokevirtual 15, 3) := by decide +kernel
theorem dX4_longestWait_7 : decode cX4_longestWait 7 = .ok (.astore_n 3, 1) := by decide +kernel
theorem dX4_longestWait_8 : decode cX4_longestWait 8 = .ok (.iconst 0, 1) := by decide +kernel
theorem dX4_longestWait_9 : decode cX4_longestWait 9 = .ok (.istore 4, 2) := by decide +kernel
theorem dX4_longestWait_11 : decode cX4_longestWait 11 = .ok (.iconst 0, 1) := by decide +kernel
theorem dX4_longestWait_12 : decode cX4_longestWait 12 = .ok (.istore 5, 2) := by decide +kernel
theorem dX4_longestWait_14 : decode cX4_longestWait 14 = .ok (.iload 5, 2) := by decide +kernel
theorem dX4_longestWait_16 : decode cX4_longestWait 16 = .ok (.iload_n 2, 1) := by decide +kernel
theorem dX4_longestWait_17 : decode cX4_longestWait 17 = .ok (.if_icmp .ge 38, 3) := by decide +kernel
theorem dX4_longestWait_20 : decode cX4_longestWait 20 = .ok (.aload_n 0, 1) := by decide +kernel
theorem dX4_longestWait_21 : decode cX4_longestWait 21 = .ok (.getfield 9, 3) := by decide +kernel
theorem dX4_longestWait_24 : decode cX4_longestWait 24 = .ok (.getfield 21, 3) := by decide +kernel
theorem dX4_longestWait_27 : decode cX4_longestWait 27 = .ok (.aload_n 3, 1) := by decide +kernel
theorem dX4_longestWait_28 : decode cX4_longestWait 28 = .ok (.iconst 0, 1) := by decide +kernel
theorem dX4_longestWait_29 : decode cX4_longestWait 29 = .ok (.invokevirtual 25, 3) := by decide +kernel
theorem dX4_longestWait_32 : decode cX4_longestWait 32 = .ok (.pop, 1) := by decide +kernel
theorem dX4_longestWait_33 : decode cX4_longestWait 33 = .ok (.iload 4, 2) := by decide +kernel
theorem dX4_longestWait_35 : decode cX4_longestWait 35 = .ok (.aload_n 3, 1) := by decide +kernel
theorem dX4_longestWait_36 : decode cX4_longestWait 36 = .ok (.getfield 31, 3) := by decide +kernel
theorem dX4_longestWait_39 : decode cX4_longestWait 39 = .ok (.iload_n 1, 1) := by decide +kernel
theorem dX4_longestWait_40 : decode cX4_longestWait 40 = .ok (.aaload, 1) := by decide +kernel
theorem dX4_longestWait_41 : decode cX4_longestWait 41 = .ok (.getfield 37, 3) := by decide +kernel
theorem dX4_longestWait_44 : decode cX4_longestWait 44 = .ok (.invokestatic 43, 3) := by decide +kernel
theorem dX4_longestWait_47 : decode cX4_longestWait 47 = .ok (.istore 4, 2) := by decide +kernel
theorem dX4_longestWait_49 : decode cX4_longestWait 49 = .ok (.iinc 5 1, 3) := by decide +kernel
theorem dX4_longestWait_52 : decode cX4_longestWait 52 = .ok (.goto (-38), 3) := by decide +kernel
theorem dX4_longestWait_55 : decode cX4_longestWait 55 = .ok (.iload 4, 2) := by decide +kernel
theorem dX4_longestWait_57 : decode cX4_longestWait 57 = .ok (.ireturn, 1) := by decide +kernel
theorem mk_X4_longestWait : MVk yX4_longestWait "FairBlocks$Outlook" cX4_longestWait 6 (Option.some FieldType.int) 2 := ⟨w_528, w_526, w_527, w_9, rfl, by decide +kernel, by decide +kernel, by decide +kernel⟩
def BX4_longestWait_0 (G : Nat → KT) (Q : Option mV → mM → Prop) : KT := (s_aload 0 (s_getr 4 1 (fun _ => 3) (s_callV 1 0 pre_X1_freshTrial fn_X1_freshTrial (s_astore 3 (s_iconst (0) (s_istore 4 (s_iconst (0) (s_istore 5 (s_at G 14 [true, true, true, true, true, true])))))))))
set_option maxRecDepth 4000 in
theorem bsX4_longestWait_0 {p : Program} {l : Launch} {e : Env} {s : State} {m : MethodId} {args : Array Value} {below : List Frame} {meth : Method} {c : Code} {D : va_G} {ca : Nat → ClassId} {ad : Nat → Nat} {A : Nat → Prop} {Q : Option mV → mM → Prop} (hX : CX p s m args meth c 6 cX4_longestWait "FairBlocks$Outlook" D ca ad A) (hr : meth.sig.returnType = (Option.some FieldType.int)) : ∀ lv st M, BX4_longestWait_0 (Gd p l e (rmD 3) s m args below meth c 6 D ca ad A 0 0 (MQ below (QC D ca ad A Q) args s 0 0 A)) Q lv st M → Gd p l e (rmD 3) s m args below meth c 6 D ca ad A 0 0 (MQ below (QC D ca ad A Q) args s 0 0 A) 0 lv st M :=
  (sd_aload_n hX dX4_longestWait_0 rfl (sd_getr hX fl_242 (fun _ => rfl) (fun _ _ _ => by decide +kernel) dX4_longestWait_1 (sd_callV hX (kd := 1) rfl (by decide) (ct_X1_freshTrial l) mk_X1_freshTrial w_529 ⟨⟨by decide, by decide⟩, by decide, by decide⟩ dX4_longestWait_4 (sd_astore_n hX (by decide) dX4_longestWait_7 rfl (sd_iconst hX dX4_longestWait_8 rfl (sd_istore hX (by decide) dX4_longestWait_9 (sd_iconst hX dX4_longestWait_11 rfl (sd_istore hX (by decide) dX4_longestWait_12 sd_at))))))))
def BX4_longestWait_14 (G : Nat → KT) (Q : Option mV → mM → Prop) : KT := (s_iload 5 (s_iload 2 (s_icmp (fun x y => y ≤ x) (s_at G 55 [false, false, false, false, true, false]) (s_aload 0 (s_getr 4 1 (fun _ => 3) (s_getr 1 6 (fun _ => 21) (s_aload 3 (s_iconst (0) (s_callV 6 2 pre_X6_runOne fn_X6_runOne (s_pop (s_iload 4 (s_aload 3 (s_getr 8 16 (fun k => k + 1) (s_iload 1 (s_aaldU (s_geti 10 7 (s_mth mx (s_istore 4 (s_iinc 5 (1) (s_at G 14 [true, true, true, true, true, true]))))))))))))))))))))
set_option maxRecDepth 4000 in
theorem bsX4_longestWait_14 {p : Program} {l : Launch} {e : Env} {s : State} {m : MethodId} {args : Array Value} {below : List Frame} {meth : Method} {c : Code} {D : va_G} {ca : Nat → ClassId} {ad : Nat → Nat} {A : Nat → Prop} {Q : Option mV → mM → Prop} (hX : CX p s m args meth c 6 cX4_longestWait "FairBlocks$Outlook" D ca ad A) (hr : meth.sig.returnType = (Option.some FieldType.int)) : ∀ lv st M, BX4_longestWait_14 (Gd p l e (rmD 3) s m args below meth c 6 D ca ad A 0 0 (MQ below (QC D ca ad A Q) args s 0 0 A)) Q lv st M → Gd p l e (rmD 3) s m args below meth c 6 D ca ad A 0 0 (MQ below (QC D ca ad A Q) args s 0 0 A) 14 lv st M :=
  (sd_iload hX dX4_longestWait_14 (sd_iload_n hX dX4_longestWait_16 rfl (sd_icmp_ge hX dX4_longestWait_17 (by decide) sd_at (sd_aload_n hX dX4_longestWait_20 rfl (sd_getr hX fl_242 (fun _ => rfl) (fun _ _ _ => by decide +kernel) dX4_longestWait_21 (sd_getr hX fl_200 (fun _ => rfl) (fun _ _ _ => by decide +kernel) dX4_longestWait_24 (sd_aload_n hX dX4_longestWait_27 rfl (sd_iconst hX dX4_longestWait_28 rfl (sd_callV hX (kd := 6) rfl (by decide) (ct_X6_runOne l) mk_X6_runOne w_530 ⟨⟨by decide, by decide⟩, by decide, by decide⟩ dX4_longestWait_29 (sd_pop hX dX4_longestWait_32 (sd_iload hX dX4_longestWait_33 (sd_aload_n hX dX4_longestWait_35 rfl (sd_getr hX fl_143 (fun _ => rfl) okA dX4_longestWait_36 (sd_iload_n hX dX4_longestWait_39 rfl (sd_aaldU hX dX4_longestWait_40 (sd_geti hX fl_114 (by decide) dX4_longestWait_41 (sd_mth hX (Or.inr ⟨rfl, rfl, rfl⟩) w_531 w_532 w_14 wm_max ⟨⟨by decide, by decide⟩, by decide, by decide⟩ dX4_longestWait_44 (sd_istore hX (by decide) dX4_longestWait_47 (sd_iinc hX (by decide) dX4_longestWait_49 rfl (sd_goto hX dX4_longestWait_52 (by decide) sd_at))))))))))))))))))))
def BX4_longestWait_55 (G : Nat → KT) (Q : Option mV → mM → Prop) : KT := (s_iload 4 (s_iret Q))
set_option maxRecDepth 4000 in
theorem bsX4_longestWait_55 {p : Program} {l : Launch} {e : Env} {s : State} {m : MethodId} {args : Array Value} {below : List Frame} {meth : Method} {c : Code} {D : va_G} {ca : Nat → ClassId} {ad : Nat → Nat} {A : Nat → Prop} {Q : Option mV → mM → Prop} (hX : CX p s m args meth c 6 cX4_longestWait "FairBlocks$Outlook" D ca ad A) (hr : meth.sig.returnType = (Option.some FieldType.int)) : ∀ lv st M, BX4_longestWait_55 (Gd p l e (rmD 3) s m args below meth c 6 D ca ad A 0 0 (MQ below (QC D ca ad A Q) args s 0 0 A)) Q lv st M → Gd p l e (rmD 3) s m args below meth c 6 D ca ad A 0 0 (MQ below (QC D ca ad A Q) args s 0 0 A) 55 lv st M :=
  (sd_iload hX dX4_longestWait_55 (sd_iret hX hr dX4_longestWait_57))
set_option maxHeartbeats 400000 in
theorem pf_X4_longestWait (G : Nat → KT) (Q : Option mV → mM → Prop) (h0 : ∀ lv st M, BX4_longestWait_0 G Q lv st M → G 0 lv st M) (h14 : ∀ lv st M, BX4_longestWait_14 G Q lv st M → G 14 lv st M) (h55 : ∀ lv st M, BX4_longestWait_55 G Q lv st M → G 55 lv st M) (as : List mV) (M : mM) (ho : ∀ v ∈ as, okV v) (hp : pre_X4_longestWait as M) (hQ : Q (fn_X4_longestWait as M).1 (fn_X4_longestWait as M).2) : G 0 (inL as ++ List.replicate (6 - (inL as).length) none) [] M := by
  obtain ⟨c, u, x, rfl, hG, ⟨U, hU, rfl⟩, N, hN, rfl⟩ := hp
  have eU : (nI U).toNatClampNeg = U := nI_clamp (by omega)
  simp only [fn_X4_longestWait, lw, eU, nI_clamp hN] at hQ
  have loop : ∀ (n i : Nat) (t : Int32) (M : mM), i + n = N → PL M → Q (some (.inl (itr (lwS U) i n (t, M)).1)) (itr (lwS U) i n (t, M)).2 → G 14 [some (.inr (.inr (4, c))), some (.inl (nI U)), some (.inl (nI N)), some (.inr (.inr (8, 14))), some (.inl t), some (.inl (nI i))] [] M := by
    intro n
    induction n with
    | zero =>
      intro i t M hi hPL hq
      obtain rfl : i = N := by omega
      (apply h14; simp only [BX4_longestWait_14, s_mth, s_mab, s_at, s_iconst, s_lconst, s_iload, s_lload, s_aload, s_istore, s_lstore, s_astore, s_iinc, s_bin, s_binG, s_un, s_lbin, s_lbinG, s_lsh, s_lcmp, s_i2l, s_l2i, s_dup, s_dup2, s_pop, s_if, s_icmp, s_geti, s_getl, s_getr, s_puti, s_putz, s_putl, s_iald, s_zald, s_iast, s_zast, s_aaldS, s_aaldU, s_gets, s_tald, s_tsw, tsw, s_iret, s_zret, s_lret, s_aret, s_vret, s_callV, s_callS, c1, nl1, keepL, csum, pushR, inL, List.getD_cons_zero, List.getD_cons_succ, List.set_cons_zero, List.set_cons_succ, List.cons_append, List.nil_append, List.append_nil, List.replicate, List.length_cons, List.length_nil, List.take_succ_cons, List.take_zero, List.drop_succ_cons, List.drop_zero, List.reverse_cons, List.reverse_nil, true_and, and_true, forall_const, not_true_eq_false, not_false_eq_true, false_implies, true_implies, implies_true, one0, m10, Nat.reduceAdd, Nat.reduceSub, Nat.reduceLeDiff, Nat.zero_add, Nat.add_zero, fn_X1_freshTrial, fn_X6_runOne])
      refine ⟨fun _ => ?_, fun h => absurd (nI_le (Nat.le_refl i) (by omega)) h⟩
      (apply h55; simp only [BX4_longestWait_55, s_mth, s_mab, s_at, s_iconst, s_lconst, s_iload, s_lload, s_aload, s_istore, s_lstore, s_astore, s_iinc, s_bin, s_binG, s_un, s_lbin, s_lbinG, s_lsh, s_lcmp, s_i2l, s_l2i, s_dup, s_dup2, s_pop, s_if, s_icmp, s_geti, s_getl, s_getr, s_puti, s_putz, s_putl, s_iald, s_zald, s_iast, s_zast, s_aaldS, s_aaldU, s_gets, s_tald, s_tsw, tsw, s_iret, s_zret, s_lret, s_aret, s_vret, s_callV, s_callS, c1, nl1, keepL, csum, pushR, inL, List.getD_cons_zero, List.getD_cons_succ, List.set_cons_zero, List.set_cons_succ, List.cons_append, List.nil_append, List.append_nil, List.replicate, List.length_cons, List.length_nil, List.take_succ_cons, List.take_zero, List.drop_succ_cons, List.drop_zero, List.reverse_cons, List.reverse_nil, true_and, and_true, forall_const, not_true_eq_false, not_false_eq_true, false_implies, true_implies, implies_true, one0, m10, Nat.reduceAdd, Nat.reduceSub, Nat.reduceLeDiff, Nat.zero_add, Nat.add_zero, fn_X1_freshTrial, fn_X6_runOne])
      exact hq
    | succ n ih =>
      intro i t M hi hPL hq
      (apply h14; simp only [BX4_longestWait_14, s_mth, s_mab, s_at, s_iconst, s_lconst, s_iload, s_lload, s_aload, s_istore, s_lstore, s_astore, s_iinc, s_bin, s_binG, s_un, s_lbin, s_lbinG, s_lsh, s_lcmp, s_i2l, s_l2i, s_dup, s_dup2, s_pop, s_if, s_icmp, s_geti, s_getl, s_getr, s_puti, s_putz, s_putl, s_iald, s_zald, s_iast, s_zast, s_aaldS, s_aaldU, s_gets, s_tald, s_tsw, tsw, s_iret, s_zret, s_lret, s_aret, s_vret, s_callV, s_callS, c1, nl1, keepL, csum, pushR, inL, List.getD_cons_zero, List.getD_cons_succ, List.set_cons_zero, List.set_cons_succ, List.cons_append, List.nil_append, List.append_nil, List.replicate, List.length_cons, List.length_nil, List.take_succ_cons, List.take_zero, List.drop_succ_cons, List.drop_zero, List.reverse_cons, List.reverse_nil, true_and, and_true, forall_const, not_true_eq_false, not_false_eq_true, false_implies, true_implies, implies_true, one0, m10, Nat.reduceAdd, Nat.reduceSub, Nat.reduceLeDiff, Nat.zero_add, Nat.add_zero, fn_X1_freshTrial, fn_X6_runOne])
      refine ⟨fun h => absurd h (nI_ge (by omega) (by omega)), fun _ => ⟨⟨_, _, _, rfl, hPL⟩, by rw [l15]; exact vp_in_nI hU (by decide), ?_⟩⟩
      rw [nI_1, eU]
      exact ih (i + 1) _ _ (by omega) (PL_ro k14 hPL) hq
  (apply h0; simp only [BX4_longestWait_0, s_mth, s_mab, s_at, s_iconst, s_lconst, s_iload, s_lload, s_aload, s_istore, s_lstore, s_astore, s_iinc, s_bin, s_binG, s_un, s_lbin, s_lbinG, s_lsh, s_lcmp, s_i2l, s_l2i, s_dup, s_dup2, s_pop, s_if, s_icmp, s_geti, s_getl, s_getr, s_puti, s_putz, s_putl, s_iald, s_zald, s_iast, s_zast, s_aaldS, s_aaldU, s_gets, s_tald, s_tsw, tsw, s_iret, s_zret, s_lret, s_aret, s_vret, s_callV, s_callS, c1, nl1, keepL, csum, pushR, inL, List.getD_cons_zero, List.getD_cons_succ, List.set_cons_zero, List.set_cons_succ, List.cons_append, List.nil_append, List.append_nil, List.replicate, List.length_cons, List.length_nil, List.take_succ_cons, List.take_zero, List.drop_succ_cons, List.drop_zero, List.reverse_cons, List.reverse_nil, true_and, and_true, forall_const, not_true_eq_false, not_false_eq_true, false_implies, true_implies, implies_true, one0, m10, Nat.reduceAdd, Nat.reduceSub, Nat.reduceLeDiff, Nat.zero_add, Nat.add_zero, fn_X1_freshTrial, fn_X6_runOne])
  exact ⟨⟨_, rfl, hG.1⟩, loop N 0 0 _ (by omega) (PL_stc hG.2 k14) hQ⟩
theorem ct_X4_longestWait (l : Launch) : Con l yX4_longestWait cX4_longestWait 6 (Option.some FieldType.int) 3 pre_X4_longestWait fn_X4_longestWait := con_of (by decide +kernel) ok_X4_longestWait len_X4_longestWait (fun p e s m args below meth c D ca ad A as M hX hr hp ho => pf_X4_longestWait _ _ (bsX4_longestWait_0 hX hr) (bsX4_longestWait_14 hX hr) (bsX4_longestWait_55 hX hr) as M ho hp ⟨rfl, rfl⟩)
def suL (U : Nat) : Nat → Nat → mM → Int32 × mM
  | 0, _, M => (-9, M)
  | n + 1, i, M => if M.1 (16 + U) 4 + M.1 (16 + U) 5 = 0 then (nI i, M) else suL U n (i + 1) (ro M 14 0).2
def pre_X4_slotsUntilEmpty (as : List mV) (M : mM) : Prop := ∃ c u, as = [.inr (.inr (4, c)), .inl u] ∧ GD M ∧ ∃ j, j < 5 ∧ u = nI j
def fn_X4_slotsUntilEmpty : List mV → mM → Option mV × mM
  | [.inr (.inr (_, c)), .inl u], M => (some (.inl (suL u.toNatClampNeg 61 0 (stc M 14 7)).1), (suL u.toNatClampNeg 61 0 (stc M 14 7)).2)
  | _, M => (none, M)
theorem ok_X4_slotsUntilEmpty (as : List mV) (M : mM) (h : pre_X4_slotsUntilEmpty as M) (_ : ∀ v ∈ as, okV v) : okR (fn_X4_slotsUntilEmpty as M).1 := by
  obtain ⟨c, u, rfl, -⟩ := h
  first | trivial | exact (by decide +kernel : kof 14 = 8)
theorem len_X4_slotsUntilEmpty (as : List mV) (M : mM) (h : pre_X4_slotsUntilEmpty as M) : (inL as).length ≤ 4 := by
  obtain ⟨c, u, rfl, -⟩ := h
  exact Nat.le_of_ble_eq_true rfl


theorem dX4_slotsUntilEmpty_0 : decode cX4_slotsUntilEmpty 0 = .ok (.aload_n 0, 1) := by decide +kernel
theorem dX4_slotsUntilEmpty_1 : decode cX4_slotsUntilEmpty 1 = .ok (.getfield 9, 3) := by decide +kernel
theorem dX4_slotsUntilEmpty_4 : decode cX4_slotsUntilEmpty 4 = .ok (.invokevirtual 15, 3) := by decide +kernel
theorem dX4_slotsUntilEmpty_7 : decode cX4_slotsUntilEmpty 7 = .ok (.astore_n 2, 1) := by decide +kernel
theorem dX4_slotsUntilEmpty_8 : decode cX4_slotsUntilEmpty 8 = .ok (.iconst 0, 1) := by decide +kernel
theorem dX4_slotsUntilEmpty_9 : decode cX4_slotsUntilEmpty 9 = .ok (.istore_n 3, 1) := by decide +kernel
theorem dX4_slotsUntilEmpty_10 : decode cX4_slotsUntilEmpty 10 = .ok (.iload_n 3, 1) := by decide +kernel
theorem dX4_slotsUntilEmpty_11 : decode cX4_slotsUntilEmpty 11 = .ok (.bipush 60, 2) := by decide +kernel
theorem dX4_slotsUntilEmpty_13 : decode cX4_slotsUntilEmpty 13 = .ok (.if_icmp .gt 36, 3) := by decide +kernel
theorem dX4_slotsUntilEmpty_16 : decode cX4_slotsUntilEmpty 16 = .ok (.aload_n 2, 1) := by decide +kernel
theorem dX4_slotsUntilEmpty_17 : decode cX4_slotsUntilEmpty 17 = .ok (.getfield 31, 3) := by decide +kernel
theorem dX4_slotsUntilEmpty_20 : decode cX4_slotsUntilEmpty 20 = .ok (.iload_n 1, 1) := by decide +kernel
theorem dX4_slotsUntilEmpty_21 : decode cX4_slotsUntilEmpty 21 = .ok (.aaload, 1) := by decide +kernel
theorem dX4_slotsUntilEmpty_22 : decode cX4_slotsUntilEmpty 22 = .ok (.invokevirtual 49, 3) := by decide +kernel
theorem dX4_slotsUntilEmpty_25 : decode cX4_slotsUntilEmpty 25 = .ok (.ifCond .ne 5, 3) := by decide +kernel
theorem dX4_slotsUntilEmpty_28 : decode cX4_slotsUntilEmpty 28 = .ok (.iload_n 3, 1) := by decide +kernel
theorem dX4_slotsUntilEmpty_29 : decode cX4_slotsUntilEmpty 29 = .ok (.ireturn, 1) := by decide +kernel
theorem dX4_slotsUntilEmpty_30 : decode cX4_slotsUntilEmpty 30 = .ok (.aload_n 0, 1) := by decide +kernel
theorem dX4_slotsUntilEmpty_31 : decode cX4_slotsUntilEmpty 31 = .ok (.getfield 9, 3) := by decide +kernel
theorem dX4_slotsUntilEmpty_34 : decode cX4_slotsUntilEmpty 34 = .ok (.getfield 21, 3) := by decide +kernel
theorem dX4_slotsUntilEmpty_37 : decode cX4_slotsUntilEmpty 37 = .ok (.aload_n 2, 1) := by decide +kernel
theorem dX4_slotsUntilEmpty_38 : decode cX4_slotsUntilEmpty 38 = .ok (.iconst 0, 1) := by decide +kernel
theorem dX4_slotsUntilEmpty_39 : decode cX4_slotsUntilEmpty 39 = .ok (.invokevirtual 25, 3) := by decide +kernel
theorem dX4_slotsUntilEmpty_42 : decode cX4_slotsUntilEmpty 42 = .ok (.pop, 1) := by decide +kernel
theorem dX4_slotsUntilEmpty_43 : decode cX4_slotsUntilEmpty 43 = .ok (.iinc 3 1, 3) := by decide +kernel
theorem dX4_slotsUntilEmpty_46 : decode cX4_slotsUntilEmpty 46 = .ok (.goto (-36), 3) := by decide +kernel
theorem dX4_slotsUntilEmpty_49 : decode cX4_slotsUntilEmpty 49 = .ok (.bipush (-9), 2) := by decide +kernel
theorem dX4_slotsUntilEmpty_51 : decode cX4_slotsUntilEmpty 51 = .ok (.ireturn, 1) := by decide +kernel
theorem mk_X4_slotsUntilEmpty : MVk yX4_slotsUntilEmpty "FairBlocks$Outlook" cX4_slotsUntilEmpty 4 (Option.some FieldType.int) 1 := ⟨w_541, w_539, w_540, w_9, rfl, by decide +kernel, by decide +kernel, by decide +kernel⟩
def BX4_slotsUntilEmpty_0 (G : Nat → KT) (Q : Option mV → mM → Prop) : KT := (s_aload 0 (s_getr 4 1 (fun _ => 3) (s_callV 1 0 pre_X1_freshTrial fn_X1_freshTrial (s_astore 2 (s_iconst (0) (s_istore 3 (s_at G 10 [true, true, true, true])))))))
set_option maxRecDepth 4000 in
theorem bsX4_slotsUntilEmpty_0 {p : Program} {l : Launch} {e : Env} {s : State} {m : MethodId} {args : Array Value} {below : List Frame} {meth : Method} {c : Code} {D : va_G} {ca : Nat → ClassId} {ad : Nat → Nat} {A : Nat → Prop} {Q : Option mV → mM → Prop} (hX : CX p s m args meth c 4 cX4_slotsUntilEmpty "FairBlocks$Outlook" D ca ad A) (hr : meth.sig.returnType = (Option.some FieldType.int)) : ∀ lv st M, BX4_slotsUntilEmpty_0 (Gd p l e (rmD 3) s m args below meth c 4 D ca ad A 0 0 (MQ below (QC D ca ad A Q) args s 0 0 A)) Q lv st M → Gd p l e (rmD 3) s m args below meth c 4 D ca ad A 0 0 (MQ below (QC D ca ad A Q) args s 0 0 A) 0 lv st M :=
  (sd_aload_n hX dX4_slotsUntilEmpty_0 rfl (sd_getr hX fl_242 (fun _ => rfl) (fun _ _ _ => by decide +kernel) dX4_slotsUntilEmpty_1 (sd_callV hX (kd := 1) rfl (by decide) (ct_X1_freshTrial l) mk_X1_freshTrial w_529 ⟨⟨by decide, by decide⟩, by decide, by decide⟩ dX4_slotsUntilEmpty_4 (sd_astore_n hX (by decide) dX4_slotsUntilEmpty_7 rfl (sd_iconst hX dX4_slotsUntilEmpty_8 rfl (sd_istore_n hX (by decide) dX4_slotsUntilEmpty_9 rfl sd_at))))))
def BX4_slotsUntilEmpty_10 (G : Nat → KT) (Q : Option mV → mM → Prop) : KT := (s_iload 3 (s_iconst (60) (s_icmp (fun x y => y < x) (s_at G 49 [false, false, false, false]) (s_aload 2 (s_getr 8 16 (fun k => k + 1) (s_iload 1 (s_aaldU (s_callV 10 0 pre_X10_waiting fn_X10_waiting (s_if (fun x => x = 0) ((s_iload 3 (s_iret Q))) (s_at G 30 [true, true, true, true]))))))))))
set_option maxRecDepth 4000 in
theorem bsX4_slotsUntilEmpty_10 {p : Program} {l : Launch} {e : Env} {s : State} {m : MethodId} {args : Array Value} {below : List Frame} {meth : Method} {c : Code} {D : va_G} {ca : Nat → ClassId} {ad : Nat → Nat} {A : Nat → Prop} {Q : Option mV → mM → Prop} (hX : CX p s m args meth c 4 cX4_slotsUntilEmpty "FairBlocks$Outlook" D ca ad A) (hr : meth.sig.returnType = (Option.some FieldType.int)) : ∀ lv st M, BX4_slotsUntilEmpty_10 (Gd p l e (rmD 3) s m args below meth c 4 D ca ad A 0 0 (MQ below (QC D ca ad A Q) args s 0 0 A)) Q lv st M → Gd p l e (rmD 3) s m args below meth c 4 D ca ad A 0 0 (MQ below (QC D ca ad A Q) args s 0 0 A) 10 lv st M :=
  (sd_iload_n hX dX4_slotsUntilEmpty_10 rfl (sd_bipush hX dX4_slotsUntilEmpty_11 rfl (sd_icmp_gt hX dX4_slotsUntilEmpty_13 (by decide) sd_at (sd_aload_n hX dX4_slotsUntilEmpty_16 rfl (sd_getr hX fl_143 (fun _ => rfl) okA dX4_slotsUntilEmpty_17 (sd_iload_n hX dX4_slotsUntilEmpty_20 rfl (sd_aaldU hX dX4_slotsUntilEmpty_21 (sd_callV hX (kd := 10) rfl (by decide) (ct_X10_waiting l) mk_X10_waiting w_542 ⟨⟨by decide, by decide⟩, by decide, by decide⟩ dX4_slotsUntilEmpty_22 (sd_if_ne hX dX4_slotsUntilEmpty_25 (by decide) sd_at (sd_iload_n hX dX4_slotsUntilEmpty_28 rfl (sd_iret hX hr dX4_slotsUntilEmpty_29)))))))))))
def BX4_slotsUntilEmpty_30 (G : Nat → KT) (Q : Option mV → mM → Prop) : KT := (s_aload 0 (s_getr 4 1 (fun _ => 3) (s_getr 1 6 (fun _ => 21) (s_aload 2 (s_iconst (0) (s_callV 6 2 pre_X6_runOne fn_X6_runOne (s_pop (s_iinc 3 (1) (s_at G 10 [true, true, true, true])))))))))
set_option maxRecDepth 4000 in
theorem bsX4_slotsUntilEmpty_30 {p : Program} {l : Launch} {e : Env} {s : State} {m : MethodId} {args : Array Value} {below : List Frame} {meth : Method} {c : Code} {D : va_G} {ca : Nat → ClassId} {ad : Nat → Nat} {A : Nat → Prop} {Q : Option mV → mM → Prop} (hX : CX p s m args meth c 4 cX4_slotsUntilEmpty "FairBlocks$Outlook" D ca ad A) (hr : meth.sig.returnType = (Option.some FieldType.int)) : ∀ lv st M, BX4_slotsUntilEmpty_30 (Gd p l e (rmD 3) s m args below meth c 4 D ca ad A 0 0 (MQ below (QC D ca ad A Q) args s 0 0 A)) Q lv st M → Gd p l e (rmD 3) s m args below meth c 4 D ca ad A 0 0 (MQ below (QC D ca ad A Q) args s 0 0 A) 30 lv st M :=
  (sd_aload_n hX dX4_slotsUntilEmpty_30 rfl (sd_getr hX fl_242 (fun _ => rfl) (fun _ _ _ => by decide +kernel) dX4_slotsUntilEmpty_31 (sd_getr hX fl_200 (fun _ => rfl) (fun _ _ _ => by decide +kernel) dX4_slotsUntilEmpty_34 (sd_aload_n hX dX4_slotsUntilEmpty_37 rfl (sd_iconst hX dX4_slotsUntilEmpty_38 rfl (sd_callV hX (kd := 6) rfl (by decide) (ct_X6_runOne l) mk_X6_runOne w_530 ⟨⟨by decide, by decide⟩, by decide, by decide⟩ dX4_slotsUntilEmpty_39 (sd_pop hX dX4_slotsUntilEmpty_42 (sd_iinc hX (by decide) dX4_slotsUntilEmpty_43 rfl (sd_goto hX dX4_slotsUntilEmpty_46 (by decide) sd_at)))))))))
def BX4_slotsUntilEmpty_49 (G : Nat → KT) (Q : Option mV → mM → Prop) : KT := (s_iconst (-9) (s_iret Q))
set_option maxRecDepth 4000 in
theorem bsX4_slotsUntilEmpty_49 {p : Program} {l : Launch} {e : Env} {s : State} {m : MethodId} {args : Array Value} {below : List Frame} {meth : Method} {c : Code} {D : va_G} {ca : Nat → ClassId} {ad : Nat → Nat} {A : Nat → Prop} {Q : Option mV → mM → Prop} (hX : CX p s m args meth c 4 cX4_slotsUntilEmpty "FairBlocks$Outlook" D ca ad A) (hr : meth.sig.returnType = (Option.some FieldType.int)) : ∀ lv st M, BX4_slotsUntilEmpty_49 (Gd p l e (rmD 3) s m args below meth c 4 D ca ad A 0 0 (MQ below (QC D ca ad A Q) args s 0 0 A)) Q lv st M → Gd p l e (rmD 3) s m args below meth c 4 D ca ad A 0 0 (MQ below (QC D ca ad A Q) args s 0 0 A) 49 lv st M :=
  (sd_bipush hX dX4_slotsUntilEmpty_49 rfl (sd_iret hX hr dX4_slotsUntilEmpty_51))
set_option maxHeartbeats 400000 in
theorem pf_X4_slotsUntilEmpty (G : Nat → KT) (Q : Option mV → mM → Prop) (h0 : ∀ lv st M, BX4_slotsUntilEmpty_0 G Q lv st M → G 0 lv st M) (h10 : ∀ lv st M, BX4_slotsUntilEmpty_10 G Q lv st M → G 10 lv st M) (h30 : ∀ lv st M, BX4_slotsUntilEmpty_30 G Q lv st M → G 30 lv st M) (h49 : ∀ lv st M, BX4_slotsUntilEmpty_49 G Q lv st M → G 49 lv st M) (as : List mV) (M : mM) (ho : ∀ v ∈ as, okV v) (hp : pre_X4_slotsUntilEmpty as M) (hQ : Q (fn_X4_slotsUntilEmpty as M).1 (fn_X4_slotsUntilEmpty as M).2) : G 0 (inL as ++ List.replicate (4 - (inL as).length) none) [] M := by
  obtain ⟨c, u, rfl, hG, U, hU, rfl⟩ := hp
  have eU : (nI U).toNatClampNeg = U := nI_clamp (by omega)
  simp only [fn_X4_slotsUntilEmpty, eU] at hQ
  have loop : ∀ (n i : Nat) (M : mM), i + n = 61 → PL M → Q (some (.inl (suL U n i M).1)) (suL U n i M).2 → G 10 [some (.inr (.inr (4, c))), some (.inl (nI U)), some (.inr (.inr (8, 14))), some (.inl (nI i))] [] M := by
    intro n
    induction n with
    | zero =>
      intro i M hi hPL hq
      obtain rfl : i = 61 := by omega
      (apply h10; simp only [BX4_slotsUntilEmpty_10, s_mth, s_mab, s_at, s_iconst, s_lconst, s_iload, s_lload, s_aload, s_istore, s_lstore, s_astore, s_iinc, s_bin, s_binG, s_un, s_lbin, s_lbinG, s_lsh, s_lcmp, s_i2l, s_l2i, s_dup, s_dup2, s_pop, s_if, s_icmp, s_geti, s_getl, s_getr, s_puti, s_putz, s_putl, s_iald, s_zald, s_iast, s_zast, s_aaldS, s_aaldU, s_gets, s_tald, s_tsw, tsw, s_iret, s_zret, s_lret, s_aret, s_vret, s_callV, s_callS, c1, nl1, keepL, csum, pushR, inL, List.getD_cons_zero, List.getD_cons_succ, List.set_cons_zero, List.set_cons_succ, List.cons_append, List.nil_append, List.append_nil, List.replicate, List.length_cons, List.length_nil, List.take_succ_cons, List.take_zero, List.drop_succ_cons, List.drop_zero, List.reverse_cons, List.reverse_nil, true_and, and_true, forall_const, not_true_eq_false, not_false_eq_true, false_implies, true_implies, implies_true, one0, m10, Nat.reduceAdd, Nat.reduceSub, Nat.reduceLeDiff, Nat.zero_add, Nat.add_zero, fn_X10_waiting, fn_X1_freshTrial, fn_X6_runOne])
      refine ⟨fun _ => ?_, fun h => absurd (by decide) h⟩
      (apply h49; simp only [BX4_slotsUntilEmpty_49, s_mth, s_mab, s_at, s_iconst, s_lconst, s_iload, s_lload, s_aload, s_istore, s_lstore, s_astore, s_iinc, s_bin, s_binG, s_un, s_lbin, s_lbinG, s_lsh, s_lcmp, s_i2l, s_l2i, s_dup, s_dup2, s_pop, s_if, s_icmp, s_geti, s_getl, s_getr, s_puti, s_putz, s_putl, s_iald, s_zald, s_iast, s_zast, s_aaldS, s_aaldU, s_gets, s_tald, s_tsw, tsw, s_iret, s_zret, s_lret, s_aret, s_vret, s_callV, s_callS, c1, nl1, keepL, csum, pushR, inL, List.getD_cons_zero, List.getD_cons_succ, List.set_cons_zero, List.set_cons_succ, List.cons_append, List.nil_append, List.append_nil, List.replicate, List.length_cons, List.length_nil, List.take_succ_cons, List.take_zero, List.drop_succ_cons, List.drop_zero, List.reverse_cons, List.reverse_nil, true_and, and_true, forall_const, not_true_eq_false, not_false_eq_true, false_implies, true_implies, implies_true, one0, m10, Nat.reduceAdd, Nat.reduceSub, Nat.reduceLeDiff, Nat.zero_add, Nat.add_zero, fn_X10_waiting, fn_X1_freshTrial, fn_X6_runOne])
      exact hq
    | succ n ih =>
      intro i M hi hPL hq
      (apply h10; simp only [BX4_slotsUntilEmpty_10, s_mth, s_mab, s_at, s_iconst, s_lconst, s_iload, s_lload, s_aload, s_istore, s_lstore, s_astore, s_iinc, s_bin, s_binG, s_un, s_lbin, s_lbinG, s_lsh, s_lcmp, s_i2l, s_l2i, s_dup, s_dup2, s_pop, s_if, s_icmp, s_geti, s_getl, s_getr, s_puti, s_putz, s_putl, s_iald, s_zald, s_iast, s_zast, s_aaldS, s_aaldU, s_gets, s_tald, s_tsw, tsw, s_iret, s_zret, s_lret, s_aret, s_vret, s_callV, s_callS, c1, nl1, keepL, csum, pushR, inL, List.getD_cons_zero, List.getD_cons_succ, List.set_cons_zero, List.set_cons_succ, List.cons_append, List.nil_append, List.append_nil, List.replicate, List.length_cons, List.length_nil, List.take_succ_cons, List.take_zero, List.drop_succ_cons, List.drop_zero, List.reverse_cons, List.reverse_nil, true_and, and_true, forall_const, not_true_eq_false, not_false_eq_true, false_implies, true_implies, implies_true, one0, m10, Nat.reduceAdd, Nat.reduceSub, Nat.reduceLeDiff, Nat.zero_add, Nat.add_zero, fn_X10_waiting, fn_X1_freshTrial, fn_X6_runOne])
      refine ⟨fun h => absurd h (nI_nlt (b := i) (a := 60) (by omega) (by decide)), fun _ => ⟨by rw [l15]; exact vp_in_nI hU (by decide), ⟨_, rfl⟩, fun h => ?_, fun h => ?_⟩⟩
      · rw [eU] at h
        rw [suL, if_pos h] at hq
        exact hq
      · rw [eU] at h
        rw [suL, if_neg h] at hq
        (apply h30; simp only [BX4_slotsUntilEmpty_30, s_mth, s_mab, s_at, s_iconst, s_lconst, s_iload, s_lload, s_aload, s_istore, s_lstore, s_astore, s_iinc, s_bin, s_binG, s_un, s_lbin, s_lbinG, s_lsh, s_lcmp, s_i2l, s_l2i, s_dup, s_dup2, s_pop, s_if, s_icmp, s_geti, s_getl, s_getr, s_puti, s_putz, s_putl, s_iald, s_zald, s_iast, s_zast, s_aaldS, s_aaldU, s_gets, s_tald, s_tsw, tsw, s_iret, s_zret, s_lret, s_aret, s_vret, s_callV, s_callS, c1, nl1, keepL, csum, pushR, inL, List.getD_cons_zero, List.getD_cons_succ, List.set_cons_zero, List.set_cons_succ, List.cons_append, List.nil_append, List.append_nil, List.replicate, List.length_cons, List.length_nil, List.take_succ_cons, List.take_zero, List.drop_succ_cons, List.drop_zero, List.reverse_cons, List.reverse_nil, true_and, and_true, forall_const, not_true_eq_false, not_false_eq_true, false_implies, true_implies, implies_true, one0, m10, Nat.reduceAdd, Nat.reduceSub, Nat.reduceLeDiff, Nat.zero_add, Nat.add_zero, fn_X10_waiting, fn_X1_freshTrial, fn_X6_runOne])
        refine ⟨⟨_, _, _, rfl, hPL⟩, ?_⟩
        rw [nI_1]
        exact ih (i + 1) _ (by omega) (PL_ro k14 hPL) hq
  (apply h0; simp only [BX4_slotsUntilEmpty_0, s_mth, s_mab, s_at, s_iconst, s_lconst, s_iload, s_lload, s_aload, s_istore, s_lstore, s_astore, s_iinc, s_bin, s_binG, s_un, s_lbin, s_lbinG, s_lsh, s_lcmp, s_i2l, s_l2i, s_dup, s_dup2, s_pop, s_if, s_icmp, s_geti, s_getl, s_getr, s_puti, s_putz, s_putl, s_iald, s_zald, s_iast, s_zast, s_aaldS, s_aaldU, s_gets, s_tald, s_tsw, tsw, s_iret, s_zret, s_lret, s_aret, s_vret, s_callV, s_callS, c1, nl1, keepL, csum, pushR, inL, List.getD_cons_zero, List.getD_cons_succ, List.set_cons_zero, List.set_cons_succ, List.cons_append, List.nil_append, List.append_nil, List.replicate, List.length_cons, List.length_nil, List.take_succ_cons, List.take_zero, List.drop_succ_cons, List.drop_zero, List.reverse_cons, List.reverse_nil, true_and, and_true, forall_const, not_true_eq_false, not_false_eq_true, false_implies, true_implies, implies_true, one0, m10, Nat.reduceAdd, Nat.reduceSub, Nat.reduceLeDiff, Nat.zero_add, Nat.add_zero, fn_X10_waiting, fn_X1_freshTrial, fn_X6_runOne])
  exact ⟨⟨_, rfl, hG.1⟩, loop 61 0 _ (by omega) (PL_stc hG.2 k14) hQ⟩
theorem ct_X4_slotsUntilEmpty (l : Launch) : Con l yX4_slotsUntilEmpty cX4_slotsUntilEmpty 4 (Option.some FieldType.int) 3 pre_X4_slotsUntilEmpty fn_X4_slotsUntilEmpty := con_of (by decide +kernel) ok_X4_slotsUntilEmpty len_X4_slotsUntilEmpty (fun p e s m args below meth c D ca ad A as M hX hr hp ho => pf_X4_slotsUntilEmpty _ _ (bsX4_slotsUntilEmpty_0 hX hr) (bsX4_slotsUntilEmpty_10 hX hr) (bsX4_slotsUntilEmpty_30 hX hr) (bsX4_slotsUntilEmpty_49 hX hr) as M ho hp ⟨rfl, rfl⟩)
def lgS (M : mM) (k i : Nat) (l : Int32) : Int32 := mn l (M.1 (k + 1 + 1 + i) 9 - M.1 (9 + i) 9)
def lg (M : mM) (k : Nat) : Int32 := itr (lgS M k) 1 (nU M - 1) (M.1 (k + 1 + 1) 9 - M.1 9 9)
def pre_X4_leastGain (as : List mV) (M : mM) : Prop := ∃ c k, as = [.inr (.inr (4, c)), .inr (.inr (8, k))] ∧ PL M
def fn_X4_leastGain : List mV → mM → Option mV × mM
  | [.inr (.inr (_, c)), .inr (.inr (_, k))], M => (some (.inl (lg M k)), M)
  | _, M => (none, M)
theorem ok_X4_leastGain (as : List mV) (M : mM) (h : pre_X4_leastGain as M) (_ : ∀ v ∈ as, okV v) : okR (fn_X4_leastGain as M).1 := by
  obtain ⟨c, k, rfl, -⟩ := h
  first | trivial | exact (by decide +kernel : kof 14 = 8)
theorem len_X4_leastGain (as : List mV) (M : mM) (h : pre_X4_leastGain as M) : (inL as).length ≤ 4 := by
  obtain ⟨c, k, rfl, -⟩ := h
  exact Nat.le_of_ble_eq_true rfl

theorem fl_120 : FLk "FairBlocks$Outlook" 64 10 9 0 := ⟨RX10, TX10, 10, rfl, inX10, by decide, w_120, by decide, rfl⟩
theorem fl_192 : FLk "FairBlocks$Outlook" 71 1 0 8 := ⟨RX1, TX1, 4, rfl, inX1, by decide, w_192, by decide, rfl⟩
theorem fl_197 : FLk "FairBlocks$Outlook" 67 1 1 11 := ⟨RX1, TX1, 4, rfl, inX1, by decide, w_197, by decide, rfl⟩
theorem fl_64 : FLk "FairBlocks$Outlook" 75 5 2 0 := ⟨RX5, TX5, 5, rfl, inX5, by decide, w_64, by decide, rfl⟩
theorem dX4_leastGain_0 : decode cX4_leastGain 0 = .ok (.aload_n 1, 1) := by decide +kernel
theorem dX4_leastGain_1 : decode cX4_leastGain 1 = .ok (.getfield 31, 3) := by decide +kernel
theorem dX4_leastGain_4 : decode cX4_leastGain 4 = .ok (.iconst 0, 1) := by decide +kernel
theorem dX4_leastGain_5 : decode cX4_leastGain 5 = .ok (.aaload, 1) := by decide +kernel
theorem dX4_leastGain_6 : decode cX4_leastGain 6 = .ok (.getfield 64, 3) := by decide +kernel
theorem dX4_leastGain_9 : decode cX4_leastGain 9 = .ok (.aload_n 0, 1) := by decide +kernel
theorem dX4_leastGain_10 : decode cX4_leastGain 10 = .ok (.getfield 9, 3) := by decide +kernel
theorem dX4_leastGain_13 : decode cX4_leastGain 13 = .ok (.getfield 67, 3) := by decide +kernel
theorem dX4_leastGain_16 : decode cX4_leastGain 16 = .ok (.getfield 31, 3) := by decide +kernel
theorem dX4_leastGain_19 : decode cX4_leastGain 19 = .ok (.iconst 0, 1) := by decide +kernel
theorem dX4_leastGain_20 : decode cX4_leastGain 20 = .ok (.aaload, 1) := by decide +kernel
theorem dX4_leastGain_21 : decode cX4_leastGain 21 = .ok (.getfield 64, 3) := by decide +kernel
theorem dX4_leastGain_24 : decode cX4_leastGain 24 = .ok (.isub, 1) := by decide +kernel
theorem dX4_leastGain_25 : decode cX4_leastGain 25 = .ok (.istore_n 2, 1) := by decide +kernel
theorem dX4_leastGain_26 : decode cX4_leastGain 26 = .ok (.iconst 1, 1) := by decide +kernel
theorem dX4_leastGain_27 : decode cX4_leastGain 27 = .ok (.istore_n 3, 1) := by decide +kernel
theorem dX4_leastGain_28 : decode cX4_leastGain 28 = .ok (.iload_n 3, 1) := by decide +kernel
theorem dX4_leastGain_29 : decode cX4_leastGain 29 = .ok (.aload_n 0, 1) := by decide +kernel
theorem dX4_leastGain_30 : decode cX4_leastGain 30 = .ok (.getfield 9, 3) := by decide +kernel
theorem dX4_leastGain_33 : decode cX4_leastGain 33 = .ok (.getfield 71, 3) := by decide +kernel
theorem dX4_leastGain_36 : decode cX4_leastGain 36 = .ok (.getfield 75, 3) := by decide +kernel
theorem dX4_leastGain_39 : decode cX4_leastGain 39 = .ok (.if_icmp .ge 39, 3) := by decide +kernel
theorem dX4_leastGain_42 : decode cX4_leastGain 42 = .ok (.iload_n 2, 1) := by decide +kernel
theorem dX4_leastGain_43 : decode cX4_leastGain 43 = .ok (.aload_n 1, 1) := by decide +kernel
theorem dX4_leastGain_44 : decode cX4_leastGain 44 = .ok (.getfield 31, 3) := by decide +kernel
theorem dX4_leastGain_47 : decode cX4_leastGain 47 = .ok (.iload_n 3, 1) := by decide +kernel
theorem dX4_leastGain_48 : decode cX4_leastGain 48 = .ok (.aaload, 1) := by decide +kernel
theorem dX4_leastGain_49 : decode cX4_leastGain 49 = .ok (.getfield 64, 3) := by decide +kernel
theorem dX4_leastGain_52 : decode cX4_leastGain 52 = .ok (.aload_n 0, 1) := by decide +kernel
theorem dX4_leastGain_53 : decode cX4_leastGain 53 = .ok (.getfield 9, 3) := by decide +kernel
theorem dX4_leastGain_56 : decode cX4_leastGain 56 = .ok (.getfield 67, 3) := by decide +kernel
theorem dX4_leastGain_59 : decode cX4_leastGain 59 = .ok (.getfield 31, 3) := by decide +kernel
theorem dX4_leastGain_62 : decode cX4_leastGain 62 = .ok (.iload_n 3, 1) := by decide +kernel
theorem dX4_leastGain_63 : decode cX4_leastGain 63 = .ok (.aaload, 1) := by decide +kernel
theorem dX4_leastGain_64 : decode cX4_leastGain 64 = .ok (.getfield 64, 3) := by decide +kernel
theorem dX4_leastGain_67 : decode cX4_leastGain 67 = .ok (.isub, 1) := by decide +kernel
theorem dX4_leastGain_68 : decode cX4_leastGain 68 = .ok (.invokestatic 79, 3) := by decide +kernel
theorem dX4_leastGain_71 : decode cX4_leastGain 71 = .ok (.istore_n 2, 1) := by decide +kernel
theorem dX4_leastGain_72 : decode cX4_leastGain 72 = .ok (.iinc 3 1, 3) := by decide +kernel
theorem dX4_leastGain_75 : decode cX4_leastGain 75 = .ok (.goto (-47), 3) := by decide +kernel
theorem dX4_leastGain_78 : decode cX4_leastGain 78 = .ok (.iload_n 2, 1) := by decide +kernel
theorem dX4_leastGain_79 : decode cX4_leastGain 79 = .ok (.ireturn, 1) := by decide +kernel
theorem mk_X4_leastGain : MVk yX4_leastGain "FairBlocks$Outlook" cX4_leastGain 4 (Option.some FieldType.int) 1 := ⟨w_555, w_554, wp_6, w_9, rfl, by decide +kernel, by decide +kernel, by decide +kernel⟩
def BX4_leastGain_0 (G : Nat → KT) (Q : Option mV → mM → Prop) : KT := (s_aload 1 (s_getr 8 16 (fun k => k + 1) (s_iconst (0) (s_aaldU (s_geti 10 9 (s_aload 0 (s_getr 4 1 (fun _ => 3) (s_getr 1 8 (fun _ => 7) (s_getr 8 16 (fun k => k + 1) (s_iconst (0) (s_aaldU (s_geti 10 9 (s_bin (fun x y => x - y) (s_istore 2 (s_iconst (1) (s_istore 3 (s_at G 28 [true, true, true, true])))))))))))))))))
set_option maxRecDepth 4000 in
theorem bsX4_leastGain_0 {p : Program} {l : Launch} {e : Env} {s : State} {m : MethodId} {args : Array Value} {below : List Frame} {meth : Method} {c : Code} {D : va_G} {ca : Nat → ClassId} {ad : Nat → Nat} {A : Nat → Prop} {Q : Option mV → mM → Prop} (hX : CX p s m args meth c 4 cX4_leastGain "FairBlocks$Outlook" D ca ad A) (hr : meth.sig.returnType = (Option.some FieldType.int)) : ∀ lv st M, BX4_leastGain_0 (Gd p l e (rmD 1) s m args below meth c 4 D ca ad A 0 0 (MQ below (QC D ca ad A Q) args s 0 0 A)) Q lv st M → Gd p l e (rmD 1) s m args below meth c 4 D ca ad A 0 0 (MQ below (QC D ca ad A Q) args s 0 0 A) 0 lv st M :=
  (sd_aload_n hX dX4_leastGain_0 rfl (sd_getr hX fl_143 (fun _ => rfl) okA dX4_leastGain_1 (sd_iconst hX dX4_leastGain_4 rfl (sd_aaldU hX dX4_leastGain_5 (sd_geti hX fl_120 (by decide) dX4_leastGain_6 (sd_aload_n hX dX4_leastGain_9 rfl (sd_getr hX fl_242 (fun _ => rfl) (fun _ _ _ => by decide +kernel) dX4_leastGain_10 (sd_getr hX fl_197 (fun _ => rfl) (fun _ _ _ => by decide +kernel) dX4_leastGain_13 (sd_getr hX fl_143 (fun _ => rfl) okA dX4_leastGain_16 (sd_iconst hX dX4_leastGain_19 rfl (sd_aaldU hX dX4_leastGain_20 (sd_geti hX fl_120 (by decide) dX4_leastGain_21 (sd_isub hX dX4_leastGain_24 (sd_istore_n hX (by decide) dX4_leastGain_25 rfl (sd_iconst hX dX4_leastGain_26 rfl (sd_istore_n hX (by decide) dX4_leastGain_27 rfl sd_at))))))))))))))))
def BX4_leastGain_28 (G : Nat → KT) (Q : Option mV → mM → Prop) : KT := (s_iload 3 (s_aload 0 (s_getr 4 1 (fun _ => 3) (s_getr 1 5 (fun _ => 4) (s_geti 5 2 (s_icmp (fun x y => y ≤ x) (s_at G 78 [false, false, true, false]) (s_iload 2 (s_aload 1 (s_getr 8 16 (fun k => k + 1) (s_iload 3 (s_aaldU (s_geti 10 9 (s_aload 0 (s_getr 4 1 (fun _ => 3) (s_getr 1 8 (fun _ => 7) (s_getr 8 16 (fun k => k + 1) (s_iload 3 (s_aaldU (s_geti 10 9 (s_bin (fun x y => x - y) (s_mth mn (s_istore 2 (s_iinc 3 (1) (s_at G 28 [true, true, true, true]))))))))))))))))))))))))
set_option maxRecDepth 4000 in
theorem bsX4_leastGain_28 {p : Program} {l : Launch} {e : Env} {s : State} {m : MethodId} {args : Array Value} {below : List Frame} {meth : Method} {c : Code} {D : va_G} {ca : Nat → ClassId} {ad : Nat → Nat} {A : Nat → Prop} {Q : Option mV → mM → Prop} (hX : CX p s m args meth c 4 cX4_leastGain "FairBlocks$Outlook" D ca ad A) (hr : meth.sig.returnType = (Option.some FieldType.int)) : ∀ lv st M, BX4_leastGain_28 (Gd p l e (rmD 1) s m args below meth c 4 D ca ad A 0 0 (MQ below (QC D ca ad A Q) args s 0 0 A)) Q lv st M → Gd p l e (rmD 1) s m args below meth c 4 D ca ad A 0 0 (MQ below (QC D ca ad A Q) args s 0 0 A) 28 lv st M :=
  (sd_iload_n hX dX4_leastGain_28 rfl (sd_aload_n hX dX4_leastGain_29 rfl (sd_getr hX fl_242 (fun _ => rfl) (fun _ _ _ => by decide +kernel) dX4_leastGain_30 (sd_getr hX fl_192 (fun _ => rfl) (fun _ _ _ => by decide +kernel) dX4_leastGain_33 (sd_geti hX fl_64 (by decide) dX4_leastGain_36 (sd_icmp_ge hX dX4_leastGain_39 (by decide) sd_at (sd_iload_n hX dX4_leastGain_42 rfl (sd_aload_n hX dX4_leastGain_43 rfl (sd_getr hX fl_143 (fun _ => rfl) okA dX4_leastGain_44 (sd_iload_n hX dX4_leastGain_47 rfl (sd_aaldU hX dX4_leastGain_48 (sd_geti hX fl_120 (by decide) dX4_leastGain_49 (sd_aload_n hX dX4_leastGain_52 rfl (sd_getr hX fl_242 (fun _ => rfl) (fun _ _ _ => by decide +kernel) dX4_leastGain_53 (sd_getr hX fl_197 (fun _ => rfl) (fun _ _ _ => by decide +kernel) dX4_leastGain_56 (sd_getr hX fl_143 (fun _ => rfl) okA dX4_leastGain_59 (sd_iload_n hX dX4_leastGain_62 rfl (sd_aaldU hX dX4_leastGain_63 (sd_geti hX fl_120 (by decide) dX4_leastGain_64 (sd_isub hX dX4_leastGain_67 (sd_mth hX (Or.inl ⟨rfl, rfl, rfl⟩) w_556 w_459 w_14 wm_min ⟨⟨by decide, by decide⟩, by decide, by decide⟩ dX4_leastGain_68 (sd_istore_n hX (by decide) dX4_leastGain_71 rfl (sd_iinc hX (by decide) dX4_leastGain_72 rfl (sd_goto hX dX4_leastGain_75 (by decide) sd_at))))))))))))))))))))))))
def BX4_leastGain_78 (G : Nat → KT) (Q : Option mV → mM → Prop) : KT := (s_iload 2 (s_iret Q))
set_option maxRecDepth 4000 in
theorem bsX4_leastGain_78 {p : Program} {l : Launch} {e : Env} {s : State} {m : MethodId} {args : Array Value} {below : List Frame} {meth : Method} {c : Code} {D : va_G} {ca : Nat → ClassId} {ad : Nat → Nat} {A : Nat → Prop} {Q : Option mV → mM → Prop} (hX : CX p s m args meth c 4 cX4_leastGain "FairBlocks$Outlook" D ca ad A) (hr : meth.sig.returnType = (Option.some FieldType.int)) : ∀ lv st M, BX4_leastGain_78 (Gd p l e (rmD 1) s m args below meth c 4 D ca ad A 0 0 (MQ below (QC D ca ad A Q) args s 0 0 A)) Q lv st M → Gd p l e (rmD 1) s m args below meth c 4 D ca ad A 0 0 (MQ below (QC D ca ad A Q) args s 0 0 A) 78 lv st M :=
  (sd_iload_n hX dX4_leastGain_78 rfl (sd_iret hX hr dX4_leastGain_79))
set_option maxHeartbeats 400000 in
theorem pf_X4_leastGain (G : Nat → KT) (Q : Option mV → mM → Prop) (h0 : ∀ lv st M, BX4_leastGain_0 G Q lv st M → G 0 lv st M) (h28 : ∀ lv st M, BX4_leastGain_28 G Q lv st M → G 28 lv st M) (h78 : ∀ lv st M, BX4_leastGain_78 G Q lv st M → G 78 lv st M) (as : List mV) (M : mM) (ho : ∀ v ∈ as, okV v) (hp : pre_X4_leastGain as M) (hQ : Q (fn_X4_leastGain as M).1 (fn_X4_leastGain as M).2) : G 0 (inL as ++ List.replicate (4 - (inL as).length) none) [] M := by
  obtain ⟨c, k, rfl, hPL⟩ := hp
  have hk : kof k = 8 := ho (.inr (.inr (8, k))) (by simp)
  have hl := lnU hk
  have hn := n5 hPL
  simp only [fn_X4_leastGain, lg] at hQ
  have loop : ∀ (n i : Nat) (t : Int32), 1 ≤ i → i + n = nU M ∨ (n = 0 ∧ nU M ≤ i ∧ i < 10) → Q (some (.inl (itr (lgS M k) i n t))) M → G 28 [some (.inr (.inr (4, c))), some (.inr (.inr (8, k))), some (.inl t), some (.inl (nI i))] [] M := by
    intro n
    induction n with
    | zero =>
      intro i t h1 hi hq
      (apply h28; simp only [BX4_leastGain_28, s_mth, s_mab, s_at, s_iconst, s_lconst, s_iload, s_lload, s_aload, s_istore, s_lstore, s_astore, s_iinc, s_bin, s_binG, s_un, s_lbin, s_lbinG, s_lsh, s_lcmp, s_i2l, s_l2i, s_dup, s_dup2, s_pop, s_if, s_icmp, s_geti, s_getl, s_getr, s_puti, s_putz, s_putl, s_iald, s_zald, s_iast, s_zast, s_aaldS, s_aaldU, s_gets, s_tald, s_tsw, tsw, s_iret, s_zret, s_lret, s_aret, s_vret, s_callV, s_callS, c1, nl1, keepL, csum, pushR, inL, List.getD_cons_zero, List.getD_cons_succ, List.set_cons_zero, List.set_cons_succ, List.cons_append, List.nil_append, List.append_nil, List.replicate, List.length_cons, List.length_nil, List.take_succ_cons, List.take_zero, List.drop_succ_cons, List.drop_zero, List.reverse_cons, List.reverse_nil, true_and, and_true, forall_const, not_true_eq_false, not_false_eq_true, false_implies, true_implies, implies_true, one0, m10, Nat.reduceAdd, Nat.reduceSub, Nat.reduceLeDiff, Nat.zero_add, Nat.add_zero])
      rw [uN hPL]
      refine ⟨fun _ => ?_, fun h => absurd (nI_le (by omega) (by omega)) h⟩
      (apply h78; simp only [BX4_leastGain_78, s_mth, s_mab, s_at, s_iconst, s_lconst, s_iload, s_lload, s_aload, s_istore, s_lstore, s_astore, s_iinc, s_bin, s_binG, s_un, s_lbin, s_lbinG, s_lsh, s_lcmp, s_i2l, s_l2i, s_dup, s_dup2, s_pop, s_if, s_icmp, s_geti, s_getl, s_getr, s_puti, s_putz, s_putl, s_iald, s_zald, s_iast, s_zast, s_aaldS, s_aaldU, s_gets, s_tald, s_tsw, tsw, s_iret, s_zret, s_lret, s_aret, s_vret, s_callV, s_callS, c1, nl1, keepL, csum, pushR, inL, List.getD_cons_zero, List.getD_cons_succ, List.set_cons_zero, List.set_cons_succ, List.cons_append, List.nil_append, List.append_nil, List.replicate, List.length_cons, List.length_nil, List.take_succ_cons, List.take_zero, List.drop_succ_cons, List.drop_zero, List.reverse_cons, List.reverse_nil, true_and, and_true, forall_const, not_true_eq_false, not_false_eq_true, false_implies, true_implies, implies_true, one0, m10, Nat.reduceAdd, Nat.reduceSub, Nat.reduceLeDiff, Nat.zero_add, Nat.add_zero])
      exact hq
    | succ n ih =>
      intro i t h1 hi hq
      have ei : (nI i).toNatClampNeg = i := nI_clamp (by omega)
      have hv : vp_in (nI i) 5 := vp_in_nI (by omega) (by decide)
      (apply h28; simp only [BX4_leastGain_28, s_mth, s_mab, s_at, s_iconst, s_lconst, s_iload, s_lload, s_aload, s_istore, s_lstore, s_astore, s_iinc, s_bin, s_binG, s_un, s_lbin, s_lbinG, s_lsh, s_lcmp, s_i2l, s_l2i, s_dup, s_dup2, s_pop, s_if, s_icmp, s_geti, s_getl, s_getr, s_puti, s_putz, s_putl, s_iald, s_zald, s_iast, s_zast, s_aaldS, s_aaldU, s_gets, s_tald, s_tsw, tsw, s_iret, s_zret, s_lret, s_aret, s_vret, s_callV, s_callS, c1, nl1, keepL, csum, pushR, inL, List.getD_cons_zero, List.getD_cons_succ, List.set_cons_zero, List.set_cons_succ, List.cons_append, List.nil_append, List.append_nil, List.replicate, List.length_cons, List.length_nil, List.take_succ_cons, List.take_zero, List.drop_succ_cons, List.drop_zero, List.reverse_cons, List.reverse_nil, true_and, and_true, forall_const, not_true_eq_false, not_false_eq_true, false_implies, true_implies, implies_true, one0, m10, Nat.reduceAdd, Nat.reduceSub, Nat.reduceLeDiff, Nat.zero_add, Nat.add_zero])
      simp only [uN hPL, hl, l8, ei]
      refine ⟨fun h => absurd h (nI_ge (by omega) (by omega)), fun _ => ⟨hv, hv, ?_⟩⟩
      rw [nI_1]
      exact ih (i + 1) _ (by omega) (by omega) hq
  (apply h0; simp only [BX4_leastGain_0, s_mth, s_mab, s_at, s_iconst, s_lconst, s_iload, s_lload, s_aload, s_istore, s_lstore, s_astore, s_iinc, s_bin, s_binG, s_un, s_lbin, s_lbinG, s_lsh, s_lcmp, s_i2l, s_l2i, s_dup, s_dup2, s_pop, s_if, s_icmp, s_geti, s_getl, s_getr, s_puti, s_putz, s_putl, s_iald, s_zald, s_iast, s_zast, s_aaldS, s_aaldU, s_gets, s_tald, s_tsw, tsw, s_iret, s_zret, s_lret, s_aret, s_vret, s_callV, s_callS, c1, nl1, keepL, csum, pushR, inL, List.getD_cons_zero, List.getD_cons_succ, List.set_cons_zero, List.set_cons_succ, List.cons_append, List.nil_append, List.append_nil, List.replicate, List.length_cons, List.length_nil, List.take_succ_cons, List.take_zero, List.drop_succ_cons, List.drop_zero, List.reverse_cons, List.reverse_nil, true_and, and_true, forall_const, not_true_eq_false, not_false_eq_true, false_implies, true_implies, implies_true, one0, m10, Nat.reduceAdd, Nat.reduceSub, Nat.reduceLeDiff, Nat.zero_add, Nat.add_zero])
  simp only [hl, l8, sb_cl0]
  exact ⟨vp_in_nI (n := 0) (by decide) (by decide), vp_in_nI (n := 0) (by decide) (by decide), loop (nU M - 1) 1 _ (by omega) (by omega) hQ⟩
theorem ct_X4_leastGain (l : Launch) : Con l yX4_leastGain cX4_leastGain 4 (Option.some FieldType.int) 1 pre_X4_leastGain fn_X4_leastGain := con_of (by decide +kernel) ok_X4_leastGain len_X4_leastGain (fun p e s m args below meth c D ca ad A as M hX hr hp ho => pf_X4_leastGain _ _ (bsX4_leastGain_0 hX hr) (bsX4_leastGain_28 hX hr) (bsX4_leastGain_78 hX hr) as M ho hp ⟨rfl, rfl⟩)
def bwM (M : mM) (U w : Nat) : mM := (ru (mset (stc M 14 7) (16 + U) 1 (nI w)) 14 30).2
def bwS (U w : Nat) (q : Int32 × Int32 × mM) : Int32 × Int32 × mM := if lg (bwM q.2.2 U w) 14 ≤ q.2.1 then (q.1, q.2.1, bwM q.2.2 U w) else (nI w, lg (bwM q.2.2 U w) 14, bwM q.2.2 U w)
def bw (M : mM) (U : Nat) : Int32 × Int32 × mM := itr (bwS U) 1 9 (1, -1, M)
theorem GD_bwM {M : mM} {U w : Nat} (h : GD M) (hU : U < 5) : GD (mset (stc M 14 7) (16 + U) 1 (nI w)) ∧ GD (bwM M U w) := by
  have h1 := GD_stc k14 k7 h
  have h2 : GD (mset (stc M 14 7) (16 + U) 1 (nI w)) := ⟨fun a ha => by rw [mset_get, if_neg (by omega)]; exact h1.1 a ha, PL_mset h1.2 (by omega) (by omega)⟩
  exact ⟨h2, GD_ru k14 h2⟩
def pre_X4_bestWeight (as : List mV) (M : mM) : Prop := ∃ c u, as = [.inr (.inr (4, c)), .inl u] ∧ GD M ∧ ∃ j, j < 5 ∧ u = nI j
def fn_X4_bestWeight : List mV → mM → Option mV × mM
  | [.inr (.inr (_, c)), .inl u], M => (some (.inl (bw M u.toNatClampNeg).1), (bw M u.toNatClampNeg).2.2)
  | _, M => (none, M)
theorem ok_X4_bestWeight (as : List mV) (M : mM) (h : pre_X4_bestWeight as M) (_ : ∀ v ∈ as, okV v) : okR (fn_X4_bestWeight as M).1 := by
  obtain ⟨c, u, rfl, -⟩ := h
  first | trivial | exact (by decide +kernel : kof 14 = 8)
theorem len_X4_bestWeight (as : List mV) (M : mM) (h : pre_X4_bestWeight as M) : (inL as).length ≤ 7 := by
  obtain ⟨c, u, rfl, -⟩ := h
  exact Nat.le_of_ble_eq_true rfl

theorem fp_96 : FPk "FairBlocks$Outlook" 53 10 1 0 .int := ⟨RX10, TX10, 10, tyX10, rfl, inX10, by decide, w_96, by decide, rfl, tyX10_ok, nmX10, rfl, rfl⟩
theorem dX4_bestWeight_0 : decode cX4_bestWeight 0 = .ok (.iconst 1, 1) := by decide +kernel
theorem dX4_bestWeight_1 : decode cX4_bestWeight 1 = .ok (.istore_n 2, 1) := by decide +kernel
theorem dX4_bestWeight_2 : decode cX4_bestWeight 2 = .ok (.iconst (-1), 1) := by decide +kernel
theorem dX4_bestWeight_3 : decode cX4_bestWeight 3 = .ok (.istore_n 3, 1) := by decide +kernel
theorem dX4_bestWeight_4 : decode cX4_bestWeight 4 = .ok (.iconst 1, 1) := by decide +kernel
theorem dX4_bestWeight_5 : decode cX4_bestWeight 5 = .ok (.istore 4, 2) := by decide +kernel
theorem dX4_bestWeight_7 : decode cX4_bestWeight 7 = .ok (.iload 4, 2) := by decide +kernel
theorem dX4_bestWeight_9 : decode cX4_bestWeight 9 = .ok (.bipush 9, 2) := by decide +kernel
theorem dX4_bestWeight_11 : decode cX4_bestWeight 11 = .ok (.if_icmp .gt 65, 3) := by decide +kernel
theorem dX4_bestWeight_14 : decode cX4_bestWeight 14 = .ok (.aload_n 0, 1) := by decide +kernel
theorem dX4_bestWeight_15 : decode cX4_bestWeight 15 = .ok (.getfield 9, 3) := by decide +kernel
theorem dX4_bestWeight_18 : decode cX4_bestWeight 18 = .ok (.invokevirtual 15, 3) := by decide +kernel
theorem dX4_bestWeight_21 : decode cX4_bestWeight 21 = .ok (.astore 5, 2) := by decide +kernel
theorem dX4_bestWeight_23 : decode cX4_bestWeight 23 = .ok (.aload 5, 2) := by decide +kernel
theorem dX4_bestWeight_25 : decode cX4_bestWeight 25 = .ok (.getfield 31, 3) := by decide +kernel
theorem dX4_bestWeight_28 : decode cX4_bestWeight 28 = .ok (.iload_n 1, 1) := by decide +kernel
theorem dX4_bestWeight_29 : decode cX4_bestWeight 29 = .ok (.aaload, 1) := by decide +kernel
theorem dX4_bestWeight_30 : decode cX4_bestWeight 30 = .ok (.iload 4, 2) := by decide +kernel
theorem dX4_bestWeight_32 : decode cX4_bestWeight 32 = .ok (.putfield 53, 3) := by decide +kernel
theorem dX4_bestWeight_35 : decode cX4_bestWeight 35 = .ok (.aload_n 0, 1) := by decide +kernel
theorem dX4_bestWeight_36 : decode cX4_bestWeight 36 = .ok (.getfield 9, 3) := by decide +kernel
theorem dX4_bestWeight_39 : decode cX4_bestWeight 39 = .ok (.getfield 21, 3) := by decide +kernel
theorem dX4_bestWeight_42 : decode cX4_bestWeight 42 = .ok (.aload 5, 2) := by decide +kernel
theorem dX4_bestWeight_44 : decode cX4_bestWeight 44 = .ok (.bipush 30, 2) := by decide +kernel
theorem dX4_bestWeight_46 : decode cX4_bestWeight 46 = .ok (.invokevirtual 56, 3) := by decide +kernel
theorem dX4_bestWeight_49 : decode cX4_bestWeight 49 = .ok (.pop, 1) := by decide +kernel
theorem dX4_bestWeight_50 : decode cX4_bestWeight 50 = .ok (.aload_n 0, 1) := by decide +kernel
theorem dX4_bestWeight_51 : decode cX4_bestWeight 51 = .ok (.aload 5, 2) := by decide +kernel
theorem dX4_bestWeight_53 : decode cX4_bestWeight 53 = .ok (.invokevirtual 60, 3) := by decide +kernel
theorem dX4_bestWeight_56 : decode cX4_bestWeight 56 = .ok (.istore 6, 2) := by decide +kernel
theorem dX4_bestWeight_58 : decode cX4_bestWeight 58 = .ok (.iload 6, 2) := by decide +kernel
theorem dX4_bestWeight_60 : decode cX4_bestWeight 60 = .ok (.iload_n 3, 1) := by decide +kernel
theorem dX4_bestWeight_61 : decode cX4_bestWeight 61 = .ok (.if_icmp .le 9, 3) := by decide +kernel
theorem dX4_bestWeight_64 : decode cX4_bestWeight 64 = .ok (.iload 6, 2) := by decide +kernel
theorem dX4_bestWeight_66 : decode cX4_bestWeight 66 = .ok (.istore_n 3, 1) := by decide +kernel
theorem dX4_bestWeight_67 : decode cX4_bestWeight 67 = .ok (.iload 4, 2) := by decide +kernel
theorem dX4_bestWeight_69 : decode cX4_bestWeight 69 = .ok (.istore_n 2, 1) := by decide +kernel
theorem dX4_bestWeight_70 : decode cX4_bestWeight 70 = .ok (.iinc 4 1, 3) := by decide +kernel
theorem dX4_bestWeight_73 : decode cX4_bestWeight 73 = .ok (.goto (-66), 3) := by decide +kernel
theorem dX4_bestWeight_76 : decode cX4_bestWeight 76 = .ok (.iload_n 2, 1) := by decide +kernel
theorem dX4_bestWeight_77 : decode cX4_bestWeight 77 = .ok (.ireturn, 1) := by decide +kernel
theorem mk_X4_bestWeight : MVk yX4_bestWeight "FairBlocks$Outlook" cX4_bestWeight 7 (Option.some FieldType.int) 1 := ⟨w_550, w_548, w_549, w_9, rfl, by decide +kernel, by decide +kernel, by decide +kernel⟩
def BX4_bestWeight_0 (G : Nat → KT) (Q : Option mV → mM → Prop) : KT := (s_iconst (1) (s_istore 2 (s_iconst (-1) (s_istore 3 (s_iconst (1) (s_istore 4 (s_at G 7 [true, true, true, true, true, false, false])))))))
set_option maxRecDepth 4000 in
theorem bsX4_bestWeight_0 {p : Program} {l : Launch} {e : Env} {s : State} {m : MethodId} {args : Array Value} {below : List Frame} {meth : Method} {c : Code} {D : va_G} {ca : Nat → ClassId} {ad : Nat → Nat} {A : Nat → Prop} {Q : Option mV → mM → Prop} (hX : CX p s m args meth c 7 cX4_bestWeight "FairBlocks$Outlook" D ca ad A) (hr : meth.sig.returnType = (Option.some FieldType.int)) : ∀ lv st M, BX4_bestWeight_0 (Gd p l e (rmD 4) s m args below meth c 7 D ca ad A 0 0 (MQ below (QC D ca ad A Q) args s 0 0 A)) Q lv st M → Gd p l e (rmD 4) s m args below meth c 7 D ca ad A 0 0 (MQ below (QC D ca ad A Q) args s 0 0 A) 0 lv st M :=
  (sd_iconst hX dX4_bestWeight_0 rfl (sd_istore_n hX (by decide) dX4_bestWeight_1 rfl (sd_iconst hX dX4_bestWeight_2 rfl (sd_istore_n hX (by decide) dX4_bestWeight_3 rfl (sd_iconst hX dX4_bestWeight_4 rfl (sd_istore hX (by decide) dX4_bestWeight_5 sd_at))))))
def BX4_bestWeight_7 (G : Nat → KT) (Q : Option mV → mM → Prop) : KT := (s_iload 4 (s_iconst (9) (s_icmp (fun x y => y < x) (s_at G 76 [false, false, true, false, false, false, false]) (s_aload 0 (s_getr 4 1 (fun _ => 3) (s_callV 1 0 pre_X1_freshTrial fn_X1_freshTrial (s_astore 5 (s_aload 5 (s_getr 8 16 (fun k => k + 1) (s_iload 1 (s_aaldU (s_iload 4 (s_puti 10 1 (s_aload 0 (s_getr 4 1 (fun _ => 3) (s_getr 1 6 (fun _ => 21) (s_aload 5 (s_iconst (30) (s_callV 6 2 pre_X6_run fn_X6_run (s_pop (s_aload 0 (s_aload 5 (s_callV 4 1 pre_X4_leastGain fn_X4_leastGain (s_istore 6 (s_iload 6 (s_iload 3 (s_icmp (fun x y => x ≤ y) (s_at G 70 [true, true, true, true, true, false, false]) (s_iload 6 (s_istore 3 (s_iload 4 (s_istore 2 (s_at G 70 [true, true, true, true, true, false, false]))))))))))))))))))))))))))))))))
set_option maxRecDepth 4000 in
theorem bsX4_bestWeight_7 {p : Program} {l : Launch} {e : Env} {s : State} {m : MethodId} {args : Array Value} {below : List Frame} {meth : Method} {c : Code} {D : va_G} {ca : Nat → ClassId} {ad : Nat → Nat} {A : Nat → Prop} {Q : Option mV → mM → Prop} (hX : CX p s m args meth c 7 cX4_bestWeight "FairBlocks$Outlook" D ca ad A) (hr : meth.sig.returnType = (Option.some FieldType.int)) : ∀ lv st M, BX4_bestWeight_7 (Gd p l e (rmD 4) s m args below meth c 7 D ca ad A 0 0 (MQ below (QC D ca ad A Q) args s 0 0 A)) Q lv st M → Gd p l e (rmD 4) s m args below meth c 7 D ca ad A 0 0 (MQ below (QC D ca ad A Q) args s 0 0 A) 7 lv st M :=
  (sd_iload hX dX4_bestWeight_7 (sd_bipush hX dX4_bestWeight_9 rfl (sd_icmp_gt hX dX4_bestWeight_11 (by decide) sd_at (sd_aload_n hX dX4_bestWeight_14 rfl (sd_getr hX fl_242 (fun _ => rfl) (fun _ _ _ => by decide +kernel) dX4_bestWeight_15 (sd_callV hX (kd := 1) rfl (by decide) (ct_X1_freshTrial l) mk_X1_freshTrial w_529 ⟨⟨by decide, by decide⟩, by decide, by decide⟩ dX4_bestWeight_18 (sd_astore hX (by decide) dX4_bestWeight_21 (sd_aload hX dX4_bestWeight_23 (sd_getr hX fl_143 (fun _ => rfl) okA dX4_bestWeight_25 (sd_iload_n hX dX4_bestWeight_28 rfl (sd_aaldU hX dX4_bestWeight_29 (sd_iload hX dX4_bestWeight_30 (sd_puti hX fp_96 dX4_bestWeight_32 (sd_aload_n hX dX4_bestWeight_35 rfl (sd_getr hX fl_242 (fun _ => rfl) (fun _ _ _ => by decide +kernel) dX4_bestWeight_36 (sd_getr hX fl_200 (fun _ => rfl) (fun _ _ _ => by decide +kernel) dX4_bestWeight_39 (sd_aload hX dX4_bestWeight_42 (sd_bipush hX dX4_bestWeight_44 rfl (sd_callV hX (kd := 6) rfl (by decide) (ct_X6_run l) mk_X6_run w_551 ⟨⟨by decide, by decide⟩, by decide, by decide⟩ dX4_bestWeight_46 (sd_pop hX dX4_bestWeight_49 (sd_aload_n hX dX4_bestWeight_50 rfl (sd_aload hX dX4_bestWeight_51 (sd_callV hX (kd := 4) rfl (by decide) (ct_X4_leastGain l) mk_X4_leastGain w_552 ⟨⟨by decide, by decide⟩, by decide, by decide⟩ dX4_bestWeight_53 (sd_istore hX (by decide) dX4_bestWeight_56 (sd_iload hX dX4_bestWeight_58 (sd_iload_n hX dX4_bestWeight_60 rfl (sd_icmp_le hX dX4_bestWeight_61 (by decide) sd_at (sd_iload hX dX4_bestWeight_64 (sd_istore_n hX (by decide) dX4_bestWeight_66 rfl (sd_iload hX dX4_bestWeight_67 (sd_istore_n hX (by decide) dX4_bestWeight_69 rfl sd_at)))))))))))))))))))))))))))))))
def BX4_bestWeight_70 (G : Nat → KT) (Q : Option mV → mM → Prop) : KT := (s_iinc 4 (1) (s_at G 7 [true, true, true, true, true, false, false]))
set_option maxRecDepth 4000 in
theorem bsX4_bestWeight_70 {p : Program} {l : Launch} {e : Env} {s : State} {m : MethodId} {args : Array Value} {below : List Frame} {meth : Method} {c : Code} {D : va_G} {ca : Nat → ClassId} {ad : Nat → Nat} {A : Nat → Prop} {Q : Option mV → mM → Prop} (hX : CX p s m args meth c 7 cX4_bestWeight "FairBlocks$Outlook" D ca ad A) (hr : meth.sig.returnType = (Option.some FieldType.int)) : ∀ lv st M, BX4_bestWeight_70 (Gd p l e (rmD 4) s m args below meth c 7 D ca ad A 0 0 (MQ below (QC D ca ad A Q) args s 0 0 A)) Q lv st M → Gd p l e (rmD 4) s m args below meth c 7 D ca ad A 0 0 (MQ below (QC D ca ad A Q) args s 0 0 A) 70 lv st M :=
  (sd_iinc hX (by decide) dX4_bestWeight_70 rfl (sd_goto hX dX4_bestWeight_73 (by decide) sd_at))
def BX4_bestWeight_76 (G : Nat → KT) (Q : Option mV → mM → Prop) : KT := (s_iload 2 (s_iret Q))
set_option maxRecDepth 4000 in
theorem bsX4_bestWeight_76 {p : Program} {l : Launch} {e : Env} {s : State} {m : MethodId} {args : Array Value} {below : List Frame} {meth : Method} {c : Code} {D : va_G} {ca : Nat → ClassId} {ad : Nat → Nat} {A : Nat → Prop} {Q : Option mV → mM → Prop} (hX : CX p s m args meth c 7 cX4_bestWeight "FairBlocks$Outlook" D ca ad A) (hr : meth.sig.returnType = (Option.some FieldType.int)) : ∀ lv st M, BX4_bestWeight_76 (Gd p l e (rmD 4) s m args below meth c 7 D ca ad A 0 0 (MQ below (QC D ca ad A Q) args s 0 0 A)) Q lv st M → Gd p l e (rmD 4) s m args below meth c 7 D ca ad A 0 0 (MQ below (QC D ca ad A Q) args s 0 0 A) 76 lv st M :=
  (sd_iload_n hX dX4_bestWeight_76 rfl (sd_iret hX hr dX4_bestWeight_77))
set_option maxHeartbeats 400000 in
theorem pf_X4_bestWeight (G : Nat → KT) (Q : Option mV → mM → Prop) (h0 : ∀ lv st M, BX4_bestWeight_0 G Q lv st M → G 0 lv st M) (h7 : ∀ lv st M, BX4_bestWeight_7 G Q lv st M → G 7 lv st M) (h70 : ∀ lv st M, BX4_bestWeight_70 G Q lv st M → G 70 lv st M) (h76 : ∀ lv st M, BX4_bestWeight_76 G Q lv st M → G 76 lv st M) (as : List mV) (M : mM) (ho : ∀ v ∈ as, okV v) (hp : pre_X4_bestWeight as M) (hQ : Q (fn_X4_bestWeight as M).1 (fn_X4_bestWeight as M).2) : G 0 (inL as ++ List.replicate (7 - (inL as).length) none) [] M := by
  obtain ⟨c, u, rfl, hG, U, hU, rfl⟩ := hp
  have eU : (nI U).toNatClampNeg = U := nI_clamp (by omega)
  simp only [fn_X4_bestWeight, bw, eU] at hQ
  have loop : ∀ (n i : Nat) (b t : Int32) (M : mM), i + n = 10 → GD M → Q (some (.inl (itr (bwS U) i n (b, t, M)).1)) (itr (bwS U) i n (b, t, M)).2.2 → G 7 [some (.inr (.inr (4, c))), some (.inl (nI U)), some (.inl b), some (.inl t), some (.inl (nI i)), none, none] [] M := by
    intro n
    induction n with
    | zero =>
      intro i b t M hi hG hq
      obtain rfl : i = 10 := by omega
      (apply h7; simp only [BX4_bestWeight_7, s_mth, s_mab, s_at, s_iconst, s_lconst, s_iload, s_lload, s_aload, s_istore, s_lstore, s_astore, s_iinc, s_bin, s_binG, s_un, s_lbin, s_lbinG, s_lsh, s_lcmp, s_i2l, s_l2i, s_dup, s_dup2, s_pop, s_if, s_icmp, s_geti, s_getl, s_getr, s_puti, s_putz, s_putl, s_iald, s_zald, s_iast, s_zast, s_aaldS, s_aaldU, s_gets, s_tald, s_tsw, tsw, s_iret, s_zret, s_lret, s_aret, s_vret, s_callV, s_callS, c1, nl1, keepL, csum, pushR, inL, List.getD_cons_zero, List.getD_cons_succ, List.set_cons_zero, List.set_cons_succ, List.cons_append, List.nil_append, List.append_nil, List.replicate, List.length_cons, List.length_nil, List.take_succ_cons, List.take_zero, List.drop_succ_cons, List.drop_zero, List.reverse_cons, List.reverse_nil, true_and, and_true, forall_const, not_true_eq_false, not_false_eq_true, false_implies, true_implies, implies_true, one0, m10, Nat.reduceAdd, Nat.reduceSub, Nat.reduceLeDiff, Nat.zero_add, Nat.add_zero, fn_X1_freshTrial, fn_X4_leastGain, fn_X6_run])
      refine ⟨fun _ => ?_, fun h => absurd (by decide) h⟩
      (apply h76; simp only [BX4_bestWeight_76, s_mth, s_mab, s_at, s_iconst, s_lconst, s_iload, s_lload, s_aload, s_istore, s_lstore, s_astore, s_iinc, s_bin, s_binG, s_un, s_lbin, s_lbinG, s_lsh, s_lcmp, s_i2l, s_l2i, s_dup, s_dup2, s_pop, s_if, s_icmp, s_geti, s_getl, s_getr, s_puti, s_putz, s_putl, s_iald, s_zald, s_iast, s_zast, s_aaldS, s_aaldU, s_gets, s_tald, s_tsw, tsw, s_iret, s_zret, s_lret, s_aret, s_vret, s_callV, s_callS, c1, nl1, keepL, csum, pushR, inL, List.getD_cons_zero, List.getD_cons_succ, List.set_cons_zero, List.set_cons_succ, List.cons_append, List.nil_append, List.append_nil, List.replicate, List.length_cons, List.length_nil, List.take_succ_cons, List.take_zero, List.drop_succ_cons, List.drop_zero, List.reverse_cons, List.reverse_nil, true_and, and_true, forall_const, not_true_eq_false, not_false_eq_true, false_implies, true_implies, implies_true, one0, m10, Nat.reduceAdd, Nat.reduceSub, Nat.reduceLeDiff, Nat.zero_add, Nat.add_zero, fn_X1_freshTrial, fn_X4_leastGain, fn_X6_run])
      exact hq
    | succ n ih =>
      intro i b t M hi hG hq
      have hb := GD_bwM (w := i) hG hU
      have L : ∀ b2 t2, (b2, t2, bwM M U i) = bwS U i (b, t, M) → G 70 [some (.inr (.inr (4, c))), some (.inl (nI U)), some (.inl b2), some (.inl t2), some (.inl (nI i)), none, none] [] (bwM M U i) := by
        intro b2 t2 e
        (apply h70; simp only [BX4_bestWeight_70, s_mth, s_mab, s_at, s_iconst, s_lconst, s_iload, s_lload, s_aload, s_istore, s_lstore, s_astore, s_iinc, s_bin, s_binG, s_un, s_lbin, s_lbinG, s_lsh, s_lcmp, s_i2l, s_l2i, s_dup, s_dup2, s_pop, s_if, s_icmp, s_geti, s_getl, s_getr, s_puti, s_putz, s_putl, s_iald, s_zald, s_iast, s_zast, s_aaldS, s_aaldU, s_gets, s_tald, s_tsw, tsw, s_iret, s_zret, s_lret, s_aret, s_vret, s_callV, s_callS, c1, nl1, keepL, csum, pushR, inL, List.getD_cons_zero, List.getD_cons_succ, List.set_cons_zero, List.set_cons_succ, List.cons_append, List.nil_append, List.append_nil, List.replicate, List.length_cons, List.length_nil, List.take_succ_cons, List.take_zero, List.drop_succ_cons, List.drop_zero, List.reverse_cons, List.reverse_nil, true_and, and_true, forall_const, not_true_eq_false, not_false_eq_true, false_implies, true_implies, implies_true, one0, m10, Nat.reduceAdd, Nat.reduceSub, Nat.reduceLeDiff, Nat.zero_add, Nat.add_zero, fn_X1_freshTrial, fn_X4_leastGain, fn_X6_run])
        rw [nI_1]
        refine ih (i + 1) _ _ _ (by omega) hb.2 ?_
        rw [e]
        exact hq
      (apply h7; simp only [BX4_bestWeight_7, s_mth, s_mab, s_at, s_iconst, s_lconst, s_iload, s_lload, s_aload, s_istore, s_lstore, s_astore, s_iinc, s_bin, s_binG, s_un, s_lbin, s_lbinG, s_lsh, s_lcmp, s_i2l, s_l2i, s_dup, s_dup2, s_pop, s_if, s_icmp, s_geti, s_getl, s_getr, s_puti, s_putz, s_putl, s_iald, s_zald, s_iast, s_zast, s_aaldS, s_aaldU, s_gets, s_tald, s_tsw, tsw, s_iret, s_zret, s_lret, s_aret, s_vret, s_callV, s_callS, c1, nl1, keepL, csum, pushR, inL, List.getD_cons_zero, List.getD_cons_succ, List.set_cons_zero, List.set_cons_succ, List.cons_append, List.nil_append, List.append_nil, List.replicate, List.length_cons, List.length_nil, List.take_succ_cons, List.take_zero, List.drop_succ_cons, List.drop_zero, List.reverse_cons, List.reverse_nil, true_and, and_true, forall_const, not_true_eq_false, not_false_eq_true, false_implies, true_implies, implies_true, one0, m10, Nat.reduceAdd, Nat.reduceSub, Nat.reduceLeDiff, Nat.zero_add, Nat.add_zero, fn_X1_freshTrial, fn_X4_leastGain, fn_X6_run])
      simp only [eU, l15, c30]
      refine ⟨fun h => absurd h (nI_nlt (b := i) (a := 9) (by omega) (by decide)), fun _ => ⟨⟨_, rfl, hG.1⟩, vp_in_nI hU (by decide), ⟨_, _, _, rfl, hb.1.2, 30, by decide, rfl⟩, ⟨_, _, rfl, hb.2.2⟩, fun h => ?_, fun h => ?_⟩⟩
      · have h' : lg (bwM M U i) 14 ≤ t := h
        exact L b t (by simp only [bwS, if_pos h'])
      · have h' : ¬ lg (bwM M U i) 14 ≤ t := h
        exact L (nI i) (lg (bwM M U i) 14) (by simp only [bwS, if_neg h'])
  (apply h0; simp only [BX4_bestWeight_0, s_mth, s_mab, s_at, s_iconst, s_lconst, s_iload, s_lload, s_aload, s_istore, s_lstore, s_astore, s_iinc, s_bin, s_binG, s_un, s_lbin, s_lbinG, s_lsh, s_lcmp, s_i2l, s_l2i, s_dup, s_dup2, s_pop, s_if, s_icmp, s_geti, s_getl, s_getr, s_puti, s_putz, s_putl, s_iald, s_zald, s_iast, s_zast, s_aaldS, s_aaldU, s_gets, s_tald, s_tsw, tsw, s_iret, s_zret, s_lret, s_aret, s_vret, s_callV, s_callS, c1, nl1, keepL, csum, pushR, inL, List.getD_cons_zero, List.getD_cons_succ, List.set_cons_zero, List.set_cons_succ, List.cons_append, List.nil_append, List.append_nil, List.replicate, List.length_cons, List.length_nil, List.take_succ_cons, List.take_zero, List.drop_succ_cons, List.drop_zero, List.reverse_cons, List.reverse_nil, true_and, and_true, forall_const, not_true_eq_false, not_false_eq_true, false_implies, true_implies, implies_true, one0, m10, Nat.reduceAdd, Nat.reduceSub, Nat.reduceLeDiff, Nat.zero_add, Nat.add_zero, fn_X1_freshTrial, fn_X4_leastGain, fn_X6_run])
  exact loop 9 1 1 (-1) M rfl hG hQ
theorem ct_X4_bestWeight (l : Launch) : Con l yX4_bestWeight cX4_bestWeight 7 (Option.some FieldType.int) 4 pre_X4_bestWeight fn_X4_bestWeight := con_of (by decide +kernel) ok_X4_bestWeight len_X4_bestWeight (fun p e s m args below meth c D ca ad A as M hX hr hp ho => pf_X4_bestWeight _ _ (bsX4_bestWeight_0 hX hr) (bsX4_bestWeight_7 hX hr) (bsX4_bestWeight_70 hX hr) (bsX4_bestWeight_76 hX hr) as M ho hp ⟨rfl, rfl⟩)
end
section
/-! Court -/
def uo (N : Nat) : Int64 := itr (fun _ (p : Int64) => p * 1000) 0 N 1
def pre_X3_unitOf (as : List mV) (M : mM) : Prop := ∃ x, as = [.inl x] ∧ ∃ n, n ≤ 4 ∧ x = nI n
def fn_X3_unitOf : List mV → mM → Option mV × mM
  | [.inl x], M => (some (.inr (.inl (uo x.toNatClampNeg))), M)
  | _, M => (none, M)
theorem ok_X3_unitOf (as : List mV) (M : mM) (h : pre_X3_unitOf as M) (_ : ∀ v ∈ as, okV v) : okR (fn_X3_unitOf as M).1 := by
  obtain ⟨x, rfl, -⟩ := h
  first | trivial | exact (by decide +kernel : kof 14 = 8)
theorem len_X3_unitOf (as : List mV) (M : mM) (h : pre_X3_unitOf as M) : (inL as).length ≤ 4 := by
  obtain ⟨x, rfl, -⟩ := h
  exact Nat.le_of_ble_eq_true rfl


theorem dX3_unitOf_0 : decode cX3_unitOf 0 = .ok (.lconst 1, 1) := by decide +kernel
theorem dX3_unitOf_1 : decode cX3_unitOf 1 = .ok (.lstore_n 1, 1) := by decide +kernel
theorem dX3_unitOf_2 : decode cX3_unitOf 2 = .ok (.iconst 0, 1) := by decide +kernel
theorem dX3_unitOf_3 : decode cX3_unitOf 3 = .ok (.istore_n 3, 1) := by decide +kernel
theorem dX3_unitOf_4 : decode cX3_unitOf 4 = .ok (.iload_n 3, 1) := by decide +kernel
theorem dX3_unitOf_5 : decode cX3_unitOf 5 = .ok (.iload_n 0, 1) := by decide +kernel
theorem dX3_unitOf_6 : decode cX3_unitOf 6 = .ok (.if_icmp .ge 20, 3) := by decide +kernel
theorem dX3_unitOf_9 : decode cX3_unitOf 9 = .ok (.iload_n 3, 1) := by decide +kernel
theorem dX3_unitOf_10 : decode cX3_unitOf 10 = .ok (.iconst 4, 1) := by decide +kernel
theorem dX3_unitOf_11 : decode cX3_unitOf 11 = .ok (.if_icmp .ge 15, 3) := by decide +kernel
theorem dX3_unitOf_14 : decode cX3_unitOf 14 = .ok (.lload_n 1, 1) := by decide +kernel
theorem dX3_unitOf_15 : decode cX3_unitOf 15 = .ok (.ldc2_w 22, 3) := by decide +kernel
theorem dX3_unitOf_18 : decode cX3_unitOf 18 = .ok (.lmul, 1) := by decide +kernel
theorem dX3_unitOf_19 : decode cX3_unitOf 19 = .ok (.lstore_n 1, 1) := by decide +kernel
theorem dX3_unitOf_20 : decode cX3_unitOf 20 = .ok (.iinc 3 1, 3) := by decide +kernel
theorem dX3_unitOf_23 : decode cX3_unitOf 23 = .ok (.goto (-19), 3) := by decide +kernel
theorem dX3_unitOf_26 : decode cX3_unitOf 26 = .ok (.lload_n 1, 1) := by decide +kernel
theorem dX3_unitOf_27 : decode cX3_unitOf 27 = .ok (.lreturn, 1) := by decide +kernel
theorem mk_X3_unitOf : MSk yX3_unitOf cX3_unitOf 4 (Option.some FieldType.long) 1 := ⟨w_563, w_562, w_10, by decide +kernel, by decide +kernel, by decide +kernel⟩
def BX3_unitOf_0 (G : Nat → KT) (Q : Option mV → mM → Prop) : KT := (s_lconst 1 (s_lstore 1 (s_iconst (0) (s_istore 3 (s_at G 4 [true, true, false, true])))))
set_option maxRecDepth 4000 in
theorem bsX3_unitOf_0 {p : Program} {l : Launch} {e : Env} {s : State} {m : MethodId} {args : Array Value} {below : List Frame} {meth : Method} {c : Code} {D : va_G} {ca : Nat → ClassId} {ad : Nat → Nat} {A : Nat → Prop} {Q : Option mV → mM → Prop} (hX : CX p s m args meth c 4 cX3_unitOf "FairBlocks$Court" D ca ad A) (hr : meth.sig.returnType = (Option.some FieldType.long)) : ∀ lv st M, BX3_unitOf_0 (Gd p l e (rmD 0) s m args below meth c 4 D ca ad A 0 0 (MQ below (QC D ca ad A Q) args s 0 0 A)) Q lv st M → Gd p l e (rmD 0) s m args below meth c 4 D ca ad A 0 0 (MQ below (QC D ca ad A Q) args s 0 0 A) 0 lv st M :=
  (sd_lconst hX dX3_unitOf_0 rfl (sd_lstore_n hX (by decide) dX3_unitOf_1 rfl (sd_iconst hX dX3_unitOf_2 rfl (sd_istore_n hX (by decide) dX3_unitOf_3 rfl sd_at))))
def BX3_unitOf_4 (G : Nat → KT) (Q : Option mV → mM → Prop) : KT := (s_iload 3 (s_iload 0 (s_icmp (fun x y => y ≤ x) (s_at G 26 [false, true, false, false]) (s_iload 3 (s_iconst (4) (s_icmp (fun x y => y ≤ x) (s_at G 26 [false, true, false, false]) (s_lload 1 (s_lconst (1000) (s_lbin (fun x y => x * y) (s_lstore 1 (s_iinc 3 (1) (s_at G 4 [true, true, false, true]))))))))))))
set_option maxRecDepth 4000 in
theorem bsX3_unitOf_4 {p : Program} {l : Launch} {e : Env} {s : State} {m : MethodId} {args : Array Value} {below : List Frame} {meth : Method} {c : Code} {D : va_G} {ca : Nat → ClassId} {ad : Nat → Nat} {A : Nat → Prop} {Q : Option mV → mM → Prop} (hX : CX p s m args meth c 4 cX3_unitOf "FairBlocks$Court" D ca ad A) (hr : meth.sig.returnType = (Option.some FieldType.long)) : ∀ lv st M, BX3_unitOf_4 (Gd p l e (rmD 0) s m args below meth c 4 D ca ad A 0 0 (MQ below (QC D ca ad A Q) args s 0 0 A)) Q lv st M → Gd p l e (rmD 0) s m args below meth c 4 D ca ad A 0 0 (MQ below (QC D ca ad A Q) args s 0 0 A) 4 lv st M :=
  (sd_iload_n hX dX3_unitOf_4 rfl (sd_iload_n hX dX3_unitOf_5 rfl (sd_icmp_ge hX dX3_unitOf_6 (by decide) sd_at (sd_iload_n hX dX3_unitOf_9 rfl (sd_iconst hX dX3_unitOf_10 rfl (sd_icmp_ge hX dX3_unitOf_11 (by decide) sd_at (sd_lload_n hX dX3_unitOf_14 rfl (sd_ldc2 hX w_564 dX3_unitOf_15 (sd_lmul hX dX3_unitOf_18 (sd_lstore_n hX (by decide) dX3_unitOf_19 rfl (sd_iinc hX (by decide) dX3_unitOf_20 rfl (sd_goto hX dX3_unitOf_23 (by decide) sd_at))))))))))))
def BX3_unitOf_26 (G : Nat → KT) (Q : Option mV → mM → Prop) : KT := (s_lload 1 (s_lret Q))
set_option maxRecDepth 4000 in
theorem bsX3_unitOf_26 {p : Program} {l : Launch} {e : Env} {s : State} {m : MethodId} {args : Array Value} {below : List Frame} {meth : Method} {c : Code} {D : va_G} {ca : Nat → ClassId} {ad : Nat → Nat} {A : Nat → Prop} {Q : Option mV → mM → Prop} (hX : CX p s m args meth c 4 cX3_unitOf "FairBlocks$Court" D ca ad A) (hr : meth.sig.returnType = (Option.some FieldType.long)) : ∀ lv st M, BX3_unitOf_26 (Gd p l e (rmD 0) s m args below meth c 4 D ca ad A 0 0 (MQ below (QC D ca ad A Q) args s 0 0 A)) Q lv st M → Gd p l e (rmD 0) s m args below meth c 4 D ca ad A 0 0 (MQ below (QC D ca ad A Q) args s 0 0 A) 26 lv st M :=
  (sd_lload_n hX dX3_unitOf_26 rfl (sd_lret hX hr dX3_unitOf_27))
set_option maxHeartbeats 400000 in
theorem pf_X3_unitOf (G : Nat → KT) (Q : Option mV → mM → Prop) (h0 : ∀ lv st M, BX3_unitOf_0 G Q lv st M → G 0 lv st M) (h4 : ∀ lv st M, BX3_unitOf_4 G Q lv st M → G 4 lv st M) (h26 : ∀ lv st M, BX3_unitOf_26 G Q lv st M → G 26 lv st M) (as : List mV) (M : mM) (ho : ∀ v ∈ as, okV v) (hp : pre_X3_unitOf as M) (hQ : Q (fn_X3_unitOf as M).1 (fn_X3_unitOf as M).2) : G 0 (inL as ++ List.replicate (4 - (inL as).length) none) [] M := by
  obtain ⟨x, rfl, N, hN, rfl⟩ := hp
  simp only [fn_X3_unitOf, uo, nI_clamp (by omega : N < 2 ^ 31)] at hQ
  have loop : ∀ (n i : Nat) (p : Int64), i + n = N → Q (some (.inr (.inl (itr (fun _ (p : Int64) => p * 1000) i n p)))) M → G 4 [some (.inl (nI N)), some (.inr (.inl p)), none, some (.inl (nI i))] [] M := by
    intro n
    induction n with
    | zero =>
      intro i p hi hq
      obtain rfl : i = N := by omega
      (apply h4; simp only [BX3_unitOf_4, s_mth, s_mab, s_at, s_iconst, s_lconst, s_iload, s_lload, s_aload, s_istore, s_lstore, s_astore, s_iinc, s_bin, s_binG, s_un, s_lbin, s_lbinG, s_lsh, s_lcmp, s_i2l, s_l2i, s_dup, s_dup2, s_pop, s_if, s_icmp, s_geti, s_getl, s_getr, s_puti, s_putz, s_putl, s_iald, s_zald, s_iast, s_zast, s_aaldS, s_aaldU, s_gets, s_tald, s_tsw, tsw, s_iret, s_zret, s_lret, s_aret, s_vret, s_callV, s_callS, c1, nl1, keepL, csum, pushR, inL, List.getD_cons_zero, List.getD_cons_succ, List.set_cons_zero, List.set_cons_succ, List.cons_append, List.nil_append, List.append_nil, List.replicate, List.length_cons, List.length_nil, List.take_succ_cons, List.take_zero, List.drop_succ_cons, List.drop_zero, List.reverse_cons, List.reverse_nil, true_and, and_true, forall_const, not_true_eq_false, not_false_eq_true, false_implies, true_implies, implies_true, one0, m10, Nat.reduceAdd, Nat.reduceSub, Nat.reduceLeDiff, Nat.zero_add, Nat.add_zero])
      refine ⟨fun _ => ?_, fun h => absurd (nI_le (Nat.le_refl i) (by omega)) h⟩
      (apply h26; simp only [BX3_unitOf_26, s_mth, s_mab, s_at, s_iconst, s_lconst, s_iload, s_lload, s_aload, s_istore, s_lstore, s_astore, s_iinc, s_bin, s_binG, s_un, s_lbin, s_lbinG, s_lsh, s_lcmp, s_i2l, s_l2i, s_dup, s_dup2, s_pop, s_if, s_icmp, s_geti, s_getl, s_getr, s_puti, s_putz, s_putl, s_iald, s_zald, s_iast, s_zast, s_aaldS, s_aaldU, s_gets, s_tald, s_tsw, tsw, s_iret, s_zret, s_lret, s_aret, s_vret, s_callV, s_callS, c1, nl1, keepL, csum, pushR, inL, List.getD_cons_zero, List.getD_cons_succ, List.set_cons_zero, List.set_cons_succ, List.cons_append, List.nil_append, List.append_nil, List.replicate, List.length_cons, List.length_nil, List.take_succ_cons, List.take_zero, List.drop_succ_cons, List.drop_zero, List.reverse_cons, List.reverse_nil, true_and, and_true, forall_const, not_true_eq_false, not_false_eq_true, false_implies, true_implies, implies_true, one0, m10, Nat.reduceAdd, Nat.reduceSub, Nat.reduceLeDiff, Nat.zero_add, Nat.add_zero])
      exact hq
    | succ n ih =>
      intro i p hi hq
      (apply h4; simp only [BX3_unitOf_4, s_mth, s_mab, s_at, s_iconst, s_lconst, s_iload, s_lload, s_aload, s_istore, s_lstore, s_astore, s_iinc, s_bin, s_binG, s_un, s_lbin, s_lbinG, s_lsh, s_lcmp, s_i2l, s_l2i, s_dup, s_dup2, s_pop, s_if, s_icmp, s_geti, s_getl, s_getr, s_puti, s_putz, s_putl, s_iald, s_zald, s_iast, s_zast, s_aaldS, s_aaldU, s_gets, s_tald, s_tsw, tsw, s_iret, s_zret, s_lret, s_aret, s_vret, s_callV, s_callS, c1, nl1, keepL, csum, pushR, inL, List.getD_cons_zero, List.getD_cons_succ, List.set_cons_zero, List.set_cons_succ, List.cons_append, List.nil_append, List.append_nil, List.replicate, List.length_cons, List.length_nil, List.take_succ_cons, List.take_zero, List.drop_succ_cons, List.drop_zero, List.reverse_cons, List.reverse_nil, true_and, and_true, forall_const, not_true_eq_false, not_false_eq_true, false_implies, true_implies, implies_true, one0, m10, Nat.reduceAdd, Nat.reduceSub, Nat.reduceLeDiff, Nat.zero_add, Nat.add_zero])
      refine ⟨fun h => absurd h (nI_ge (by omega) (by omega)), fun _ => ⟨fun h => absurd h (nI_ge (b := 4) (by omega) (by decide)), fun _ => ?_⟩⟩
      rw [nI_1]
      exact ih (i + 1) _ (by omega) hq
  (apply h0; simp only [BX3_unitOf_0, s_mth, s_mab, s_at, s_iconst, s_lconst, s_iload, s_lload, s_aload, s_istore, s_lstore, s_astore, s_iinc, s_bin, s_binG, s_un, s_lbin, s_lbinG, s_lsh, s_lcmp, s_i2l, s_l2i, s_dup, s_dup2, s_pop, s_if, s_icmp, s_geti, s_getl, s_getr, s_puti, s_putz, s_putl, s_iald, s_zald, s_iast, s_zast, s_aaldS, s_aaldU, s_gets, s_tald, s_tsw, tsw, s_iret, s_zret, s_lret, s_aret, s_vret, s_callV, s_callS, c1, nl1, keepL, csum, pushR, inL, List.getD_cons_zero, List.getD_cons_succ, List.set_cons_zero, List.set_cons_succ, List.cons_append, List.nil_append, List.append_nil, List.replicate, List.length_cons, List.length_nil, List.take_succ_cons, List.take_zero, List.drop_succ_cons, List.drop_zero, List.reverse_cons, List.reverse_nil, true_and, and_true, forall_const, not_true_eq_false, not_false_eq_true, false_implies, true_implies, implies_true, one0, m10, Nat.reduceAdd, Nat.reduceSub, Nat.reduceLeDiff, Nat.zero_add, Nat.add_zero])
  exact loop N 0 1 (by omega) hQ
theorem ct_X3_unitOf (l : Launch) : Con l yX3_unitOf cX3_unitOf 4 (Option.some FieldType.long) 0 pre_X3_unitOf fn_X3_unitOf := con_of (by decide +kernel) ok_X3_unitOf len_X3_unitOf (fun p e s m args below meth c D ca ad A as M hX hr hp ho => pf_X3_unitOf _ _ (bsX3_unitOf_0 hX hr) (bsX3_unitOf_4 hX hr) (bsX3_unitOf_26 hX hr) as M ho hp ⟨rfl, rfl⟩)
def pre_X3_weighs (as : List mV) (M : mM) : Prop := ∃ k x, as = [.inr (.inr (10, k)), .inl x]
def fn_X3_weighs : List mV → mM → Option mV × mM
  | [.inr (.inr (_, k)), .inl x], M => (some (.inl 1), mset M k 1 x)
  | _, M => (none, M)
theorem ok_X3_weighs (as : List mV) (M : mM) (h : pre_X3_weighs as M) (_ : ∀ v ∈ as, okV v) : okR (fn_X3_weighs as M).1 := by
  obtain ⟨k, x, rfl⟩ := h
  first | trivial | exact (by decide +kernel : kof 14 = 8)
theorem len_X3_weighs (as : List mV) (M : mM) (h : pre_X3_weighs as M) : (inL as).length ≤ 2 := by
  obtain ⟨k, x, rfl⟩ := h
  exact Nat.le_of_ble_eq_true rfl

theorem fp_97 : FPk "FairBlocks$Court" 93 10 1 0 .int := ⟨RX10, TX10, 10, tyX10, rfl, inX10, by decide, w_97, by decide, rfl, tyX10_ok, nmX10, rfl, rfl⟩
theorem dX3_weighs_0 : decode cX3_weighs 0 = .ok (.aload_n 0, 1) := by decide +kernel
theorem dX3_weighs_1 : decode cX3_weighs 1 = .ok (.iload_n 1, 1) := by decide +kernel
theorem dX3_weighs_2 : decode cX3_weighs 2 = .ok (.putfield 93, 3) := by decide +kernel
theorem dX3_weighs_5 : decode cX3_weighs 5 = .ok (.iconst 1, 1) := by decide +kernel
theorem dX3_weighs_6 : decode cX3_weighs 6 = .ok (.ireturn, 1) := by decide +kernel
theorem mk_X3_weighs : MSk yX3_weighs cX3_weighs 2 (Option.some FieldType.boolean) 2 := ⟨w_583, w_582, w_10, by decide +kernel, by decide +kernel, by decide +kernel⟩
def BX3_weighs_0 (G : Nat → KT) (Q : Option mV → mM → Prop) : KT := (s_aload 0 (s_iload 1 (s_puti 10 1 (s_iconst (1) (s_zret Q)))))
set_option maxRecDepth 4000 in
theorem bsX3_weighs_0 {p : Program} {l : Launch} {e : Env} {s : State} {m : MethodId} {args : Array Value} {below : List Frame} {meth : Method} {c : Code} {D : va_G} {ca : Nat → ClassId} {ad : Nat → Nat} {A : Nat → Prop} {Q : Option mV → mM → Prop} (hX : CX p s m args meth c 2 cX3_weighs "FairBlocks$Court" D ca ad A) (hr : meth.sig.returnType = (Option.some FieldType.boolean)) : ∀ lv st M, BX3_weighs_0 (Gd p l e (rmD 0) s m args below meth c 2 D ca ad A 0 0 (MQ below (QC D ca ad A Q) args s 0 0 A)) Q lv st M → Gd p l e (rmD 0) s m args below meth c 2 D ca ad A 0 0 (MQ below (QC D ca ad A Q) args s 0 0 A) 0 lv st M :=
  (sd_aload_n hX dX3_weighs_0 rfl (sd_iload_n hX dX3_weighs_1 rfl (sd_puti hX fp_97 dX3_weighs_2 (sd_iconst hX dX3_weighs_5 rfl (sd_zret hX hr dX3_weighs_6)))))
set_option maxHeartbeats 400000 in
theorem pf_X3_weighs (G : Nat → KT) (Q : Option mV → mM → Prop) (h0 : ∀ lv st M, BX3_weighs_0 G Q lv st M → G 0 lv st M) (as : List mV) (M : mM) (ho : ∀ v ∈ as, okV v) (hp : pre_X3_weighs as M) (hQ : Q (fn_X3_weighs as M).1 (fn_X3_weighs as M).2) : G 0 (inL as ++ List.replicate (2 - (inL as).length) none) [] M := by
  obtain ⟨k, x, rfl⟩ := hp
  (apply h0; simp only [BX3_weighs_0, s_mth, s_mab, s_at, s_iconst, s_lconst, s_iload, s_lload, s_aload, s_istore, s_lstore, s_astore, s_iinc, s_bin, s_binG, s_un, s_lbin, s_lbinG, s_lsh, s_lcmp, s_i2l, s_l2i, s_dup, s_dup2, s_pop, s_if, s_icmp, s_geti, s_getl, s_getr, s_puti, s_putz, s_putl, s_iald, s_zald, s_iast, s_zast, s_aaldS, s_aaldU, s_gets, s_tald, s_tsw, tsw, s_iret, s_zret, s_lret, s_aret, s_vret, s_callV, s_callS, c1, nl1, keepL, csum, pushR, inL, List.getD_cons_zero, List.getD_cons_succ, List.set_cons_zero, List.set_cons_succ, List.cons_append, List.nil_append, List.append_nil, List.replicate, List.length_cons, List.length_nil, List.take_succ_cons, List.take_zero, List.drop_succ_cons, List.drop_zero, List.reverse_cons, List.reverse_nil, true_and, and_true, forall_const, not_true_eq_false, not_false_eq_true, false_implies, true_implies, implies_true, one0, m10, Nat.reduceAdd, Nat.reduceSub, Nat.reduceLeDiff, Nat.zero_add, Nat.add_zero])
  exact ⟨by simp, hQ⟩
theorem ct_X3_weighs (l : Launch) : Con l yX3_weighs cX3_weighs 2 (Option.some FieldType.boolean) 0 pre_X3_weighs fn_X3_weighs := con_of (by decide +kernel) ok_X3_weighs len_X3_weighs (fun p e s m args below meth c D ca ad A as M hX hr hp ho => pf_X3_weighs _ _ (bsX3_weighs_0 hX hr) as M ho hp ⟨rfl, rfl⟩)
def tod (M : mM) (a : Int32) (k : Nat) : mM := if a = 2 then mset M k 3 (if M.1 k 3 = 0 then 1 else 0) else mset (mset M k 4 0) k 5 0
def pre_X3_turnsOrDrops (as : List mV) (M : mM) : Prop := ∃ a k, as = [.inl a, .inr (.inr (10, k))]
def fn_X3_turnsOrDrops : List mV → mM → Option mV × mM
  | [.inl a, .inr (.inr (_, k))], M => (some (.inl 1), tod M a k)
  | _, M => (none, M)
theorem ok_X3_turnsOrDrops (as : List mV) (M : mM) (h : pre_X3_turnsOrDrops as M) (_ : ∀ v ∈ as, okV v) : okR (fn_X3_turnsOrDrops as M).1 := by
  obtain ⟨a, k, rfl⟩ := h
  first | trivial | exact (by decide +kernel : kof 14 = 8)
theorem len_X3_turnsOrDrops (as : List mV) (M : mM) (h : pre_X3_turnsOrDrops as M) : (inL as).length ≤ 2 := by
  obtain ⟨a, k, rfl⟩ := h
  exact Nat.le_of_ble_eq_true rfl

theorem fl_104 : FLk "FairBlocks$Court" 86 10 3 1 := ⟨RX10, TX10, 10, rfl, inX10, by decide, w_104, by decide, rfl⟩
theorem fp_104 : FPk "FairBlocks$Court" 86 10 3 1 .boolean := ⟨RX10, TX10, 10, tyX10, rfl, inX10, by decide, w_104, by decide, rfl, tyX10_ok, nmX10, rfl, rfl⟩
theorem dX3_turnsOrDrops_0 : decode cX3_turnsOrDrops 0 = .ok (.iload_n 0, 1) := by decide +kernel
theorem dX3_turnsOrDrops_1 : decode cX3_turnsOrDrops 1 = .ok (.iconst 2, 1) := by decide +kernel
theorem dX3_turnsOrDrops_2 : decode cX3_turnsOrDrops 2 = .ok (.if_icmp .ne 22, 3) := by decide +kernel
theorem dX3_turnsOrDrops_5 : decode cX3_turnsOrDrops 5 = .ok (.aload_n 1, 1) := by decide +kernel
theorem dX3_turnsOrDrops_6 : decode cX3_turnsOrDrops 6 = .ok (.aload_n 1, 1) := by decide +kernel
theorem dX3_turnsOrDrops_7 : decode cX3_turnsOrDrops 7 = .ok (.getfield 86, 3) := by decide +kernel
theorem dX3_turnsOrDrops_10 : decode cX3_turnsOrDrops 10 = .ok (.ifCond .ne 7, 3) := by decide +kernel
theorem dX3_turnsOrDrops_13 : decode cX3_turnsOrDrops 13 = .ok (.iconst 1, 1) := by decide +kernel
theorem dX3_turnsOrDrops_14 : decode cX3_turnsOrDrops 14 = .ok (.goto 4, 3) := by decide +kernel
theorem dX3_turnsOrDrops_17 : decode cX3_turnsOrDrops 17 = .ok (.iconst 0, 1) := by decide +kernel
theorem dX3_turnsOrDrops_18 : decode cX3_turnsOrDrops 18 = .ok (.putfield 86, 3) := by decide +kernel
theorem dX3_turnsOrDrops_21 : decode cX3_turnsOrDrops 21 = .ok (.goto 7, 3) := by decide +kernel
theorem dX3_turnsOrDrops_24 : decode cX3_turnsOrDrops 24 = .ok (.aload_n 1, 1) := by decide +kernel
theorem dX3_turnsOrDrops_25 : decode cX3_turnsOrDrops 25 = .ok (.invokevirtual 90, 3) := by decide +kernel
theorem dX3_turnsOrDrops_28 : decode cX3_turnsOrDrops 28 = .ok (.iconst 1, 1) := by decide +kernel
theorem dX3_turnsOrDrops_29 : decode cX3_turnsOrDrops 29 = .ok (.ireturn, 1) := by decide +kernel
theorem mk_X3_turnsOrDrops : MSk yX3_turnsOrDrops cX3_turnsOrDrops 2 (Option.some FieldType.boolean) 2 := ⟨w_579, w_578, w_10, by decide +kernel, by decide +kernel, by decide +kernel⟩
def BX3_turnsOrDrops_0 (G : Nat → KT) (Q : Option mV → mM → Prop) : KT := (s_iload 0 (s_iconst (2) (s_icmp (fun x y => x = y) ((s_aload 1 (s_aload 1 (s_geti 10 3 (s_if (fun x => x = 0) ((s_iconst (1) (s_at G 18 [false, false]))) (s_at G 17 [false, false])))))) (s_at G 24 [false, true]))))
set_option maxRecDepth 4000 in
theorem bsX3_turnsOrDrops_0 {p : Program} {l : Launch} {e : Env} {s : State} {m : MethodId} {args : Array Value} {below : List Frame} {meth : Method} {c : Code} {D : va_G} {ca : Nat → ClassId} {ad : Nat → Nat} {A : Nat → Prop} {Q : Option mV → mM → Prop} (hX : CX p s m args meth c 2 cX3_turnsOrDrops "FairBlocks$Court" D ca ad A) (hr : meth.sig.returnType = (Option.some FieldType.boolean)) : ∀ lv st M, BX3_turnsOrDrops_0 (Gd p l e (rmD 1) s m args below meth c 2 D ca ad A 0 0 (MQ below (QC D ca ad A Q) args s 0 0 A)) Q lv st M → Gd p l e (rmD 1) s m args below meth c 2 D ca ad A 0 0 (MQ below (QC D ca ad A Q) args s 0 0 A) 0 lv st M :=
  (sd_iload_n hX dX3_turnsOrDrops_0 rfl (sd_iconst hX dX3_turnsOrDrops_1 rfl (sd_icmp_ne hX dX3_turnsOrDrops_2 (by decide) sd_at (sd_aload_n hX dX3_turnsOrDrops_5 rfl (sd_aload_n hX dX3_turnsOrDrops_6 rfl (sd_geti hX fl_104 (by decide) dX3_turnsOrDrops_7 (sd_if_ne hX dX3_turnsOrDrops_10 (by decide) sd_at (sd_iconst hX dX3_turnsOrDrops_13 rfl (sd_goto hX dX3_turnsOrDrops_14 (by decide) sd_at)))))))))
def BX3_turnsOrDrops_17 (G : Nat → KT) (Q : Option mV → mM → Prop) : KT := (s_iconst (0) (s_at G 18 [false, false]))
set_option maxRecDepth 4000 in
theorem bsX3_turnsOrDrops_17 {p : Program} {l : Launch} {e : Env} {s : State} {m : MethodId} {args : Array Value} {below : List Frame} {meth : Method} {c : Code} {D : va_G} {ca : Nat → ClassId} {ad : Nat → Nat} {A : Nat → Prop} {Q : Option mV → mM → Prop} (hX : CX p s m args meth c 2 cX3_turnsOrDrops "FairBlocks$Court" D ca ad A) (hr : meth.sig.returnType = (Option.some FieldType.boolean)) : ∀ lv st M, BX3_turnsOrDrops_17 (Gd p l e (rmD 1) s m args below meth c 2 D ca ad A 0 0 (MQ below (QC D ca ad A Q) args s 0 0 A)) Q lv st M → Gd p l e (rmD 1) s m args below meth c 2 D ca ad A 0 0 (MQ below (QC D ca ad A Q) args s 0 0 A) 17 lv st M :=
  (sd_iconst hX dX3_turnsOrDrops_17 rfl sd_at)
def BX3_turnsOrDrops_18 (G : Nat → KT) (Q : Option mV → mM → Prop) : KT := (s_putz 10 3 (s_at G 28 [false, false]))
set_option maxRecDepth 4000 in
theorem bsX3_turnsOrDrops_18 {p : Program} {l : Launch} {e : Env} {s : State} {m : MethodId} {args : Array Value} {below : List Frame} {meth : Method} {c : Code} {D : va_G} {ca : Nat → ClassId} {ad : Nat → Nat} {A : Nat → Prop} {Q : Option mV → mM → Prop} (hX : CX p s m args meth c 2 cX3_turnsOrDrops "FairBlocks$Court" D ca ad A) (hr : meth.sig.returnType = (Option.some FieldType.boolean)) : ∀ lv st M, BX3_turnsOrDrops_18 (Gd p l e (rmD 1) s m args below meth c 2 D ca ad A 0 0 (MQ below (QC D ca ad A Q) args s 0 0 A)) Q lv st M → Gd p l e (rmD 1) s m args below meth c 2 D ca ad A 0 0 (MQ below (QC D ca ad A Q) args s 0 0 A) 18 lv st M :=
  (sd_putz hX fp_104 dX3_turnsOrDrops_18 (sd_goto hX dX3_turnsOrDrops_21 (by decide) sd_at))
def BX3_turnsOrDrops_24 (G : Nat → KT) (Q : Option mV → mM → Prop) : KT := (s_aload 1 (s_callV 10 0 pre_X10_dropAll fn_X10_dropAll (s_at G 28 [false, false])))
set_option maxRecDepth 4000 in
theorem bsX3_turnsOrDrops_24 {p : Program} {l : Launch} {e : Env} {s : State} {m : MethodId} {args : Array Value} {below : List Frame} {meth : Method} {c : Code} {D : va_G} {ca : Nat → ClassId} {ad : Nat → Nat} {A : Nat → Prop} {Q : Option mV → mM → Prop} (hX : CX p s m args meth c 2 cX3_turnsOrDrops "FairBlocks$Court" D ca ad A) (hr : meth.sig.returnType = (Option.some FieldType.boolean)) : ∀ lv st M, BX3_turnsOrDrops_24 (Gd p l e (rmD 1) s m args below meth c 2 D ca ad A 0 0 (MQ below (QC D ca ad A Q) args s 0 0 A)) Q lv st M → Gd p l e (rmD 1) s m args below meth c 2 D ca ad A 0 0 (MQ below (QC D ca ad A Q) args s 0 0 A) 24 lv st M :=
  (sd_aload_n hX dX3_turnsOrDrops_24 rfl (sd_callV hX (kd := 10) rfl (by decide) (ct_X10_dropAll l) mk_X10_dropAll w_580 ⟨⟨by decide, by decide⟩, by decide, by decide⟩ dX3_turnsOrDrops_25 sd_at))
def BX3_turnsOrDrops_28 (G : Nat → KT) (Q : Option mV → mM → Prop) : KT := (s_iconst (1) (s_zret Q))
set_option maxRecDepth 4000 in
theorem bsX3_turnsOrDrops_28 {p : Program} {l : Launch} {e : Env} {s : State} {m : MethodId} {args : Array Value} {below : List Frame} {meth : Method} {c : Code} {D : va_G} {ca : Nat → ClassId} {ad : Nat → Nat} {A : Nat → Prop} {Q : Option mV → mM → Prop} (hX : CX p s m args meth c 2 cX3_turnsOrDrops "FairBlocks$Court" D ca ad A) (hr : meth.sig.returnType = (Option.some FieldType.boolean)) : ∀ lv st M, BX3_turnsOrDrops_28 (Gd p l e (rmD 1) s m args below meth c 2 D ca ad A 0 0 (MQ below (QC D ca ad A Q) args s 0 0 A)) Q lv st M → Gd p l e (rmD 1) s m args below meth c 2 D ca ad A 0 0 (MQ below (QC D ca ad A Q) args s 0 0 A) 28 lv st M :=
  (sd_iconst hX dX3_turnsOrDrops_28 rfl (sd_zret hX hr dX3_turnsOrDrops_29))
set_option maxHeartbeats 400000 in
theorem pf_X3_turnsOrDrops (G : Nat → KT) (Q : Option mV → mM → Prop) (h0 : ∀ lv st M, BX3_turnsOrDrops_0 G Q lv st M → G 0 lv st M) (h17 : ∀ lv st M, BX3_turnsOrDrops_17 G Q lv st M → G 17 lv st M) (h18 : ∀ lv st M, BX3_turnsOrDrops_18 G Q lv st M → G 18 lv st M) (h24 : ∀ lv st M, BX3_turnsOrDrops_24 G Q lv st M → G 24 lv st M) (h28 : ∀ lv st M, BX3_turnsOrDrops_28 G Q lv st M → G 28 lv st M) (as : List mV) (M : mM) (ho : ∀ v ∈ as, okV v) (hp : pre_X3_turnsOrDrops as M) (hQ : Q (fn_X3_turnsOrDrops as M).1 (fn_X3_turnsOrDrops as M).2) : G 0 (inL as ++ List.replicate (2 - (inL as).length) none) [] M := by
  obtain ⟨a, k, rfl⟩ := hp
  simp only [fn_X3_turnsOrDrops, tod] at hQ
  have L : ∀ M : mM, Q (some (.inl 1)) M → G 28 [none, none] [] M := by
    intro M hq
    (apply h28; simp only [BX3_turnsOrDrops_28, s_mth, s_mab, s_at, s_iconst, s_lconst, s_iload, s_lload, s_aload, s_istore, s_lstore, s_astore, s_iinc, s_bin, s_binG, s_un, s_lbin, s_lbinG, s_lsh, s_lcmp, s_i2l, s_l2i, s_dup, s_dup2, s_pop, s_if, s_icmp, s_geti, s_getl, s_getr, s_puti, s_putz, s_putl, s_iald, s_zald, s_iast, s_zast, s_aaldS, s_aaldU, s_gets, s_tald, s_tsw, tsw, s_iret, s_zret, s_lret, s_aret, s_vret, s_callV, s_callS, c1, nl1, keepL, csum, pushR, inL, List.getD_cons_zero, List.getD_cons_succ, List.set_cons_zero, List.set_cons_succ, List.cons_append, List.nil_append, List.append_nil, List.replicate, List.length_cons, List.length_nil, List.take_succ_cons, List.take_zero, List.drop_succ_cons, List.drop_zero, List.reverse_cons, List.reverse_nil, true_and, and_true, forall_const, not_true_eq_false, not_false_eq_true, false_implies, true_implies, implies_true, one0, m10, Nat.reduceAdd, Nat.reduceSub, Nat.reduceLeDiff, Nat.zero_add, Nat.add_zero, fn_X10_dropAll])
    exact ⟨by simp, hq⟩
  (apply h0; simp only [BX3_turnsOrDrops_0, s_mth, s_mab, s_at, s_iconst, s_lconst, s_iload, s_lload, s_aload, s_istore, s_lstore, s_astore, s_iinc, s_bin, s_binG, s_un, s_lbin, s_lbinG, s_lsh, s_lcmp, s_i2l, s_l2i, s_dup, s_dup2, s_pop, s_if, s_icmp, s_geti, s_getl, s_getr, s_puti, s_putz, s_putl, s_iald, s_zald, s_iast, s_zast, s_aaldS, s_aaldU, s_gets, s_tald, s_tsw, tsw, s_iret, s_zret, s_lret, s_aret, s_vret, s_callV, s_callS, c1, nl1, keepL, csum, pushR, inL, List.getD_cons_zero, List.getD_cons_succ, List.set_cons_zero, List.set_cons_succ, List.cons_append, List.nil_append, List.append_nil, List.replicate, List.length_cons, List.length_nil, List.take_succ_cons, List.take_zero, List.drop_succ_cons, List.drop_zero, List.reverse_cons, List.reverse_nil, true_and, and_true, forall_const, not_true_eq_false, not_false_eq_true, false_implies, true_implies, implies_true, one0, m10, Nat.reduceAdd, Nat.reduceSub, Nat.reduceLeDiff, Nat.zero_add, Nat.add_zero, fn_X10_dropAll])
  refine ⟨fun h => ⟨fun h2 => ?_, fun h2 => ?_⟩, fun h => ?_⟩
  · (apply h18; simp only [BX3_turnsOrDrops_18, s_mth, s_mab, s_at, s_iconst, s_lconst, s_iload, s_lload, s_aload, s_istore, s_lstore, s_astore, s_iinc, s_bin, s_binG, s_un, s_lbin, s_lbinG, s_lsh, s_lcmp, s_i2l, s_l2i, s_dup, s_dup2, s_pop, s_if, s_icmp, s_geti, s_getl, s_getr, s_puti, s_putz, s_putl, s_iald, s_zald, s_iast, s_zast, s_aaldS, s_aaldU, s_gets, s_tald, s_tsw, tsw, s_iret, s_zret, s_lret, s_aret, s_vret, s_callV, s_callS, c1, nl1, keepL, csum, pushR, inL, List.getD_cons_zero, List.getD_cons_succ, List.set_cons_zero, List.set_cons_succ, List.cons_append, List.nil_append, List.append_nil, List.replicate, List.length_cons, List.length_nil, List.take_succ_cons, List.take_zero, List.drop_succ_cons, List.drop_zero, List.reverse_cons, List.reverse_nil, true_and, and_true, forall_const, not_true_eq_false, not_false_eq_true, false_implies, true_implies, implies_true, one0, m10, Nat.reduceAdd, Nat.reduceSub, Nat.reduceLeDiff, Nat.zero_add, Nat.add_zero, fn_X10_dropAll])
    rw [if_pos h, if_pos h2] at hQ
    exact ⟨by simp, L _ hQ⟩
  · (apply h17; simp only [BX3_turnsOrDrops_17, s_mth, s_mab, s_at, s_iconst, s_lconst, s_iload, s_lload, s_aload, s_istore, s_lstore, s_astore, s_iinc, s_bin, s_binG, s_un, s_lbin, s_lbinG, s_lsh, s_lcmp, s_i2l, s_l2i, s_dup, s_dup2, s_pop, s_if, s_icmp, s_geti, s_getl, s_getr, s_puti, s_putz, s_putl, s_iald, s_zald, s_iast, s_zast, s_aaldS, s_aaldU, s_gets, s_tald, s_tsw, tsw, s_iret, s_zret, s_lret, s_aret, s_vret, s_callV, s_callS, c1, nl1, keepL, csum, pushR, inL, List.getD_cons_zero, List.getD_cons_succ, List.set_cons_zero, List.set_cons_succ, List.cons_append, List.nil_append, List.append_nil, List.replicate, List.length_cons, List.length_nil, List.take_succ_cons, List.take_zero, List.drop_succ_cons, List.drop_zero, List.reverse_cons, List.reverse_nil, true_and, and_true, forall_const, not_true_eq_false, not_false_eq_true, false_implies, true_implies, implies_true, one0, m10, Nat.reduceAdd, Nat.reduceSub, Nat.reduceLeDiff, Nat.zero_add, Nat.add_zero, fn_X10_dropAll])
    (apply h18; simp only [BX3_turnsOrDrops_18, s_mth, s_mab, s_at, s_iconst, s_lconst, s_iload, s_lload, s_aload, s_istore, s_lstore, s_astore, s_iinc, s_bin, s_binG, s_un, s_lbin, s_lbinG, s_lsh, s_lcmp, s_i2l, s_l2i, s_dup, s_dup2, s_pop, s_if, s_icmp, s_geti, s_getl, s_getr, s_puti, s_putz, s_putl, s_iald, s_zald, s_iast, s_zast, s_aaldS, s_aaldU, s_gets, s_tald, s_tsw, tsw, s_iret, s_zret, s_lret, s_aret, s_vret, s_callV, s_callS, c1, nl1, keepL, csum, pushR, inL, List.getD_cons_zero, List.getD_cons_succ, List.set_cons_zero, List.set_cons_succ, List.cons_append, List.nil_append, List.append_nil, List.replicate, List.length_cons, List.length_nil, List.take_succ_cons, List.take_zero, List.drop_succ_cons, List.drop_zero, List.reverse_cons, List.reverse_nil, true_and, and_true, forall_const, not_true_eq_false, not_false_eq_true, false_implies, true_implies, implies_true, one0, m10, Nat.reduceAdd, Nat.reduceSub, Nat.reduceLeDiff, Nat.zero_add, Nat.add_zero, fn_X10_dropAll])
    rw [if_pos h, if_neg h2] at hQ
    exact ⟨by simp, L _ hQ⟩
  · (apply h24; simp only [BX3_turnsOrDrops_24, s_mth, s_mab, s_at, s_iconst, s_lconst, s_iload, s_lload, s_aload, s_istore, s_lstore, s_astore, s_iinc, s_bin, s_binG, s_un, s_lbin, s_lbinG, s_lsh, s_lcmp, s_i2l, s_l2i, s_dup, s_dup2, s_pop, s_if, s_icmp, s_geti, s_getl, s_getr, s_puti, s_putz, s_putl, s_iald, s_zald, s_iast, s_zast, s_aaldS, s_aaldU, s_gets, s_tald, s_tsw, tsw, s_iret, s_zret, s_lret, s_aret, s_vret, s_callV, s_callS, c1, nl1, keepL, csum, pushR, inL, List.getD_cons_zero, List.getD_cons_succ, List.set_cons_zero, List.set_cons_succ, List.cons_append, List.nil_append, List.append_nil, List.replicate, List.length_cons, List.length_nil, List.take_succ_cons, List.take_zero, List.drop_succ_cons, List.drop_zero, List.reverse_cons, List.reverse_nil, true_and, and_true, forall_const, not_true_eq_false, not_false_eq_true, false_implies, true_implies, implies_true, one0, m10, Nat.reduceAdd, Nat.reduceSub, Nat.reduceLeDiff, Nat.zero_add, Nat.add_zero, fn_X10_dropAll])
    rw [if_neg h] at hQ
    exact ⟨⟨_, rfl⟩, L _ hQ⟩
theorem ct_X3_turnsOrDrops (l : Launch) : Con l yX3_turnsOrDrops cX3_turnsOrDrops 2 (Option.some FieldType.boolean) 1 pre_X3_turnsOrDrops fn_X3_turnsOrDrops := con_of (by decide +kernel) ok_X3_turnsOrDrops len_X3_turnsOrDrops (fun p e s m args below meth c D ca ad A as M hX hr hp ho => pf_X3_turnsOrDrops _ _ (bsX3_turnsOrDrops_0 hX hr) (bsX3_turnsOrDrops_17 hX hr) (bsX3_turnsOrDrops_18 hX hr) (bsX3_turnsOrDrops_24 hX hr) (bsX3_turnsOrDrops_28 hX hr) as M ho hp ⟨rfl, rfl⟩)
def hb (M : mM) (k : Nat) (b : Int32) : Int32 × mM := (if wi b 0 3 = 0 then -9 else (ro (stc M 144 k) 144 0).2.1 25 b.toNatClampNeg, (ro (stc M 144 k) 144 0).2)
def pre_X3_holderBehind (as : List mV) (M : mM) : Prop := ∃ c k b, as = [.inr (.inr (3, c)), .inr (.inr (8, k)), .inl b] ∧ GD M
def fn_X3_holderBehind : List mV → mM → Option mV × mM
  | [.inr (.inr (_, c)), .inr (.inr (_, k)), .inl b], M => (some (.inl (hb M k b).1), (hb M k b).2)
  | _, M => (none, M)
theorem ok_X3_holderBehind (as : List mV) (M : mM) (h : pre_X3_holderBehind as M) (_ : ∀ v ∈ as, okV v) : okR (fn_X3_holderBehind as M).1 := by
  obtain ⟨c, k, b, rfl, -⟩ := h
  first | trivial | exact (by decide +kernel : kof 14 = 8)
theorem len_X3_holderBehind (as : List mV) (M : mM) (h : pre_X3_holderBehind as M) : (inL as).length ≤ 3 := by
  obtain ⟨c, k, b, rfl, -⟩ := h
  exact Nat.le_of_ble_eq_true rfl

theorem fl_203 : FLk "FairBlocks$Court" 42 1 3 9 := ⟨RX1, TX1, 4, rfl, inX1, by decide, w_203, by decide, rfl⟩
theorem fl_255 : FLk "FairBlocks$Court" 9 3 0 4 := ⟨RX3, TX3, 2, rfl, inX3, by decide, w_255, by decide, rfl⟩
theorem fl_256 : FLk "FairBlocks$Court" 18 3 1 11 := ⟨RX3, TX3, 2, rfl, inX3, by decide, w_256, by decide, rfl⟩
theorem dX3_holderBehind_0 : decode cX3_holderBehind 0 = .ok (.aload_n 0, 1) := by decide +kernel
theorem dX3_holderBehind_1 : decode cX3_holderBehind 1 = .ok (.getfield 18, 3) := by decide +kernel
theorem dX3_holderBehind_4 : decode cX3_holderBehind 4 = .ok (.aload_n 1, 1) := by decide +kernel
theorem dX3_holderBehind_5 : decode cX3_holderBehind 5 = .ok (.invokevirtual 96, 3) := by decide +kernel
theorem dX3_holderBehind_8 : decode cX3_holderBehind 8 = .ok (.aload_n 0, 1) := by decide +kernel
theorem dX3_holderBehind_9 : decode cX3_holderBehind 9 = .ok (.getfield 9, 3) := by decide +kernel
theorem dX3_holderBehind_12 : decode cX3_holderBehind 12 = .ok (.getfield 42, 3) := by decide +kernel
theorem dX3_holderBehind_15 : decode cX3_holderBehind 15 = .ok (.aload_n 0, 1) := by decide +kernel
theorem dX3_holderBehind_16 : decode cX3_holderBehind 16 = .ok (.getfield 18, 3) := by decide +kernel
theorem dX3_holderBehind_19 : decode cX3_holderBehind 19 = .ok (.iconst 0, 1) := by decide +kernel
theorem dX3_holderBehind_20 : decode cX3_holderBehind 20 = .ok (.invokevirtual 100, 3) := by decide +kernel
theorem dX3_holderBehind_23 : decode cX3_holderBehind 23 = .ok (.pop, 1) := by decide +kernel
theorem dX3_holderBehind_24 : decode cX3_holderBehind 24 = .ok (.aload_n 0, 1) := by decide +kernel
theorem dX3_holderBehind_25 : decode cX3_holderBehind 25 = .ok (.getfield 9, 3) := by decide +kernel
theorem dX3_holderBehind_28 : decode cX3_holderBehind 28 = .ok (.getfield 42, 3) := by decide +kernel
theorem dX3_holderBehind_31 : decode cX3_holderBehind 31 = .ok (.iload_n 2, 1) := by decide +kernel
theorem dX3_holderBehind_32 : decode cX3_holderBehind 32 = .ok (.invokevirtual 104, 3) := by decide +kernel
theorem dX3_holderBehind_35 : decode cX3_holderBehind 35 = .ok (.ireturn, 1) := by decide +kernel
theorem mk_X3_holderBehind : MVk yX3_holderBehind "FairBlocks$Court" cX3_holderBehind 3 (Option.some FieldType.int) 2 := ⟨w_587, w_586, wp_8, w_10, rfl, by decide +kernel, by decide +kernel, by decide +kernel⟩
def BX3_holderBehind_0 (G : Nat → KT) (Q : Option mV → mM → Prop) : KT := (s_aload 0 (s_getr 3 8 (fun _ => 144) (s_aload 1 (s_callV 8 1 pre_X8_copyFrom fn_X8_copyFrom (s_aload 0 (s_getr 3 1 (fun _ => 3) (s_getr 1 6 (fun _ => 21) (s_aload 0 (s_getr 3 8 (fun _ => 144) (s_iconst (0) (s_callV 6 2 pre_X6_runOne fn_X6_runOne (s_pop (s_aload 0 (s_getr 3 1 (fun _ => 3) (s_getr 1 6 (fun _ => 21) (s_iload 2 (s_callV 6 1 pre_X6_holderOf fn_X6_holderOf (s_iret Q))))))))))))))))))
set_option maxRecDepth 4000 in
theorem bsX3_holderBehind_0 {p : Program} {l : Launch} {e : Env} {s : State} {m : MethodId} {args : Array Value} {below : List Frame} {meth : Method} {c : Code} {D : va_G} {ca : Nat → ClassId} {ad : Nat → Nat} {A : Nat → Prop} {Q : Option mV → mM → Prop} (hX : CX p s m args meth c 3 cX3_holderBehind "FairBlocks$Court" D ca ad A) (hr : meth.sig.returnType = (Option.some FieldType.int)) : ∀ lv st M, BX3_holderBehind_0 (Gd p l e (rmD 3) s m args below meth c 3 D ca ad A 0 0 (MQ below (QC D ca ad A Q) args s 0 0 A)) Q lv st M → Gd p l e (rmD 3) s m args below meth c 3 D ca ad A 0 0 (MQ below (QC D ca ad A Q) args s 0 0 A) 0 lv st M :=
  (sd_aload_n hX dX3_holderBehind_0 rfl (sd_getr hX fl_256 (fun _ => rfl) (fun _ _ _ => by decide +kernel) dX3_holderBehind_1 (sd_aload_n hX dX3_holderBehind_4 rfl (sd_callV hX (kd := 8) rfl (by decide) (ct_X8_copyFrom l) mk_X8_copyFrom w_588 ⟨⟨by decide, by decide⟩, by decide, by decide⟩ dX3_holderBehind_5 (sd_aload_n hX dX3_holderBehind_8 rfl (sd_getr hX fl_255 (fun _ => rfl) (fun _ _ _ => by decide +kernel) dX3_holderBehind_9 (sd_getr hX fl_203 (fun _ => rfl) (fun _ _ _ => by decide +kernel) dX3_holderBehind_12 (sd_aload_n hX dX3_holderBehind_15 rfl (sd_getr hX fl_256 (fun _ => rfl) (fun _ _ _ => by decide +kernel) dX3_holderBehind_16 (sd_iconst hX dX3_holderBehind_19 rfl (sd_callV hX (kd := 6) rfl (by decide) (ct_X6_runOne l) mk_X6_runOne w_589 ⟨⟨by decide, by decide⟩, by decide, by decide⟩ dX3_holderBehind_20 (sd_pop hX dX3_holderBehind_23 (sd_aload_n hX dX3_holderBehind_24 rfl (sd_getr hX fl_255 (fun _ => rfl) (fun _ _ _ => by decide +kernel) dX3_holderBehind_25 (sd_getr hX fl_203 (fun _ => rfl) (fun _ _ _ => by decide +kernel) dX3_holderBehind_28 (sd_iload_n hX dX3_holderBehind_31 rfl (sd_callV hX (kd := 6) rfl (by decide) (ct_X6_holderOf l) mk_X6_holderOf w_590 ⟨⟨by decide, by decide⟩, by decide, by decide⟩ dX3_holderBehind_32 (sd_iret hX hr dX3_holderBehind_35))))))))))))))))))
set_option maxHeartbeats 400000 in
theorem pf_X3_holderBehind (G : Nat → KT) (Q : Option mV → mM → Prop) (h0 : ∀ lv st M, BX3_holderBehind_0 G Q lv st M → G 0 lv st M) (as : List mV) (M : mM) (ho : ∀ v ∈ as, okV v) (hp : pre_X3_holderBehind as M) (hQ : Q (fn_X3_holderBehind as M).1 (fn_X3_holderBehind as M).2) : G 0 (inL as ++ List.replicate (3 - (inL as).length) none) [] M := by
  obtain ⟨c, k, b, rfl, hG⟩ := hp
  (apply h0; simp only [BX3_holderBehind_0, s_mth, s_mab, s_at, s_iconst, s_lconst, s_iload, s_lload, s_aload, s_istore, s_lstore, s_astore, s_iinc, s_bin, s_binG, s_un, s_lbin, s_lbinG, s_lsh, s_lcmp, s_i2l, s_l2i, s_dup, s_dup2, s_pop, s_if, s_icmp, s_geti, s_getl, s_getr, s_puti, s_putz, s_putl, s_iald, s_zald, s_iast, s_zast, s_aaldS, s_aaldU, s_gets, s_tald, s_tsw, tsw, s_iret, s_zret, s_lret, s_aret, s_vret, s_callV, s_callS, c1, nl1, keepL, csum, pushR, inL, List.getD_cons_zero, List.getD_cons_succ, List.set_cons_zero, List.set_cons_succ, List.cons_append, List.nil_append, List.append_nil, List.replicate, List.length_cons, List.length_nil, List.take_succ_cons, List.take_zero, List.drop_succ_cons, List.drop_zero, List.reverse_cons, List.reverse_nil, true_and, and_true, forall_const, not_true_eq_false, not_false_eq_true, false_implies, true_implies, implies_true, one0, m10, Nat.reduceAdd, Nat.reduceSub, Nat.reduceLeDiff, Nat.zero_add, Nat.add_zero, fn_X6_holderOf, fn_X6_runOne, fn_X8_copyFrom])
  exact ⟨⟨_, _, rfl, hG.1⟩, ⟨_, _, _, rfl, PL_stc hG.2 k144⟩, ⟨_, _, rfl⟩, hQ⟩
theorem ct_X3_holderBehind (l : Launch) : Con l yX3_holderBehind cX3_holderBehind 3 (Option.some FieldType.int) 3 pre_X3_holderBehind fn_X3_holderBehind := con_of (by decide +kernel) ok_X3_holderBehind len_X3_holderBehind (fun p e s m args below meth c D ca ad A as M hX hr hp ho => pf_X3_holderBehind _ _ (bsX3_holderBehind_0 hX hr) as M ho hp ⟨rfl, rfl⟩)
def hd1 (M : mM) (k : Nat) (b d : Int32) : Int32 × mM := (if 0 < b then 1 else if d ≤ 0 then 0 else 1, (ru M k (10 * b + d).toNatClampNeg).2)
def hd2 (M : mM) (k : Nat) (a b d : Int32) : Int32 × mM := if b = 0 then (if hasI M d = 0 then (0, M) else (1, tod M a (k + 1 + 1 + d.toNatClampNeg))) else (0, M)
def hd4 (M : mM) (k : Nat) (b d : Int32) : Int32 × mM := if hasI M b = 0 then (0, M) else if d ≤ 0 then (0, M) else (1, mset M (k + 1 + 1 + b.toNatClampNeg) 1 d)
def hd5 (M : mM) (k : Nat) (b d : Int32) : Int32 × mM := if hasI M b = 0 then (0, M) else if M.1 (k + 1 + 1 + b.toNatClampNeg) 7 = d then (1, M) else (0, M)
def hd6 (M : mM) (k : Nat) (b d : Int32) : Int32 × mM := if hasI M b = 0 then (0, M) else if M.1 4 0 ≤ d then (0, M) else (if (hb M k d).1 = b then 1 else 0, (hb M k d).2)
def hd7 (M : mM) (k : Nat) (b d : Int32) : Int32 × mM := if hasI M b = 0 then (0, M) else if 1 < d then (0, M) else (if pz (M.1 (k + 1 + 1 + b.toNatClampNeg) 4 + M.1 (k + 1 + 1 + b.toNatClampNeg) 5) = (if d = 1 then 1 else 0) then 1 else 0, M)
def hd (M : mM) (k : Nat) (a b d : Int32) : Int32 × mM := if a.toInt = 1 then hd1 M k b d else if a.toInt = 2 ∨ a.toInt = 3 then hd2 M k a b d else if a.toInt = 4 then hd4 M k b d else if a.toInt = 5 then hd5 M k b d else if a.toInt = 6 then hd6 M k b d else if a.toInt = 7 then hd7 M k b d else (0, M)
def pre_X3_holds (as : List mV) (M : mM) : Prop := ∃ c k a b d, as = [.inr (.inr (3, c)), .inr (.inr (8, k)), .inl a, .inl b, .inl d] ∧ GD M ∧ (∃ j, j ≤ 9 ∧ b = nI j) ∧ ∃ j, j ≤ 9 ∧ d = nI j
def fn_X3_holds : List mV → mM → Option mV × mM
  | [.inr (.inr (_, c)), .inr (.inr (_, k)), .inl a, .inl b, .inl d], M => (some (.inl (hd M k a b d).1), (hd M k a b d).2)
  | _, M => (none, M)
theorem ok_X3_holds (as : List mV) (M : mM) (h : pre_X3_holds as M) (_ : ∀ v ∈ as, okV v) : okR (fn_X3_holds as M).1 := by
  obtain ⟨c, k, a, b, d, rfl, -⟩ := h
  first | trivial | exact (by decide +kernel : kof 14 = 8)
theorem len_X3_holds (as : List mV) (M : mM) (h : pre_X3_holds as M) : (inL as).length ≤ 6 := by
  obtain ⟨c, k, a, b, d, rfl, -⟩ := h
  exact Nat.le_of_ble_eq_true rfl

theorem fl_115 : FLk "FairBlocks$Court" 70 10 7 0 := ⟨RX10, TX10, 10, rfl, inX10, by decide, w_115, by decide, rfl⟩
theorem fl_147 : FLk "FairBlocks$Court" 58 8 0 19 := ⟨RX8, TX8, 3, rfl, inX8, by decide, w_147, by decide, rfl⟩
theorem fl_191 : FLk "FairBlocks$Court" 38 1 0 8 := ⟨RX1, TX1, 4, rfl, inX1, by decide, w_191, by decide, rfl⟩
theorem fl_53 : FLk "FairBlocks$Court" 76 5 0 0 := ⟨RX5, TX5, 5, rfl, inX5, by decide, w_53, by decide, rfl⟩
theorem dX3_holds_0 : decode cX3_holds 0 = .ok (.aload_n 0, 1) := by decide +kernel
theorem dX3_holds_1 : decode cX3_holds 1 = .ok (.getfield 9, 3) := by decide +kernel
theorem dX3_holds_4 : decode cX3_holds 4 = .ok (.getfield 38, 3) := by decide +kernel
theorem dX3_holds_7 : decode cX3_holds 7 = .ok (.astore 5, 2) := by decide +kernel
theorem dX3_holds_9 : decode cX3_holds 9 = .ok (.iload_n 2, 1) := by decide +kernel
theorem dX3_holds_10 : decode cX3_holds 10 = .ok (.tableswitch 261 1 7 #[42, 76, 76, 110, 144, 173, 209], 42) := by decide +kernel
theorem dX3_holds_52 : decode cX3_holds 52 = .ok (.aload_n 0, 1) := by decide +kernel
theorem dX3_holds_53 : decode cX3_holds 53 = .ok (.getfield 9, 3) := by decide +kernel
theorem dX3_holds_56 : decode cX3_holds 56 = .ok (.getfield 42, 3) := by decide +kernel
theorem dX3_holds_59 : decode cX3_holds 59 = .ok (.aload_n 1, 1) := by decide +kernel
theorem dX3_holds_60 : decode cX3_holds 60 = .ok (.bipush 10, 2) := by decide +kernel
theorem dX3_holds_62 : decode cX3_holds 62 = .ok (.iload_n 3, 1) := by decide +kernel
theorem dX3_holds_63 : decode cX3_holds 63 = .ok (.imul, 1) := by decide +kernel
theorem dX3_holds_64 : decode cX3_holds 64 = .ok (.iload 4, 2) := by decide +kernel
theorem dX3_holds_66 : decode cX3_holds 66 = .ok (.iadd, 1) := by decide +kernel
theorem dX3_holds_67 : decode cX3_holds 67 = .ok (.invokevirtual 46, 3) := by decide +kernel
theorem dX3_holds_70 : decode cX3_holds 70 = .ok (.pop, 1) := by decide +kernel
theorem dX3_holds_71 : decode cX3_holds 71 = .ok (.iload_n 3, 1) := by decide +kernel
theorem dX3_holds_72 : decode cX3_holds 72 = .ok (.ifCond .gt 8, 3) := by decide +kernel
theorem dX3_holds_75 : decode cX3_holds 75 = .ok (.iload 4, 2) := by decide +kernel
theorem dX3_holds_77 : decode cX3_holds 77 = .ok (.ifCond .le 7, 3) := by decide +kernel
theorem dX3_holds_80 : decode cX3_holds 80 = .ok (.iconst 1, 1) := by decide +kernel
theorem dX3_holds_81 : decode cX3_holds 81 = .ok (.goto 4, 3) := by decide +kernel
theorem dX3_holds_84 : decode cX3_holds 84 = .ok (.iconst 0, 1) := by decide +kernel
theorem dX3_holds_85 : decode cX3_holds 85 = .ok (.ireturn, 1) := by decide +kernel
theorem dX3_holds_86 : decode cX3_holds 86 = .ok (.iload_n 3, 1) := by decide +kernel
theorem dX3_holds_87 : decode cX3_holds 87 = .ok (.ifCond .ne 31, 3) := by decide +kernel
theorem dX3_holds_90 : decode cX3_holds 90 = .ok (.aload 5, 2) := by decide +kernel
theorem dX3_holds_92 : decode cX3_holds 92 = .ok (.iload 4, 2) := by decide +kernel
theorem dX3_holds_94 : decode cX3_holds 94 = .ok (.invokevirtual 52, 3) := by decide +kernel
theorem dX3_holds_97 : decode cX3_holds 97 = .ok (.ifCond .eq 21, 3) := by decide +kernel
theorem dX3_holds_100 : decode cX3_holds 100 = .ok (.iload_n 2, 1) := by decide +kernel
theorem dX3_holds_101 : decode cX3_holds 101 = .ok (.aload_n 1, 1) := by decide +kernel
theorem dX3_holds_102 : decode cX3_holds 102 = .ok (.getfield 58, 3) := by decide +kernel
theorem dX3_holds_105 : decode cX3_holds 105 = .ok (.iload 4, 2) := by decide +kernel
theorem dX3_holds_107 : decode cX3_holds 107 = .ok (.aaload, 1) := by decide +kernel
theorem dX3_holds_108 : decode cX3_holds 108 = .ok (.invokestatic 62, 3) := by decide +kernel
theorem dX3_holds_111 : decode cX3_holds 111 = .ok (.ifCond .eq 7, 3) := by decide +kernel
theorem dX3_holds_114 : decode cX3_holds 114 = .ok (.iconst 1, 1) := by decide +kernel
theorem dX3_holds_115 : decode cX3_holds 115 = .ok (.goto 4, 3) := by decide +kernel
theorem dX3_holds_118 : decode cX3_holds 118 = .ok (.iconst 0, 1) := by decide +kernel
theorem dX3_holds_119 : decode cX3_holds 119 = .ok (.ireturn, 1) := by decide +kernel
theorem dX3_holds_120 : decode cX3_holds 120 = .ok (.aload 5, 2) := by decide +kernel
theorem dX3_holds_122 : decode cX3_holds 122 = .ok (.iload_n 3, 1) := by decide +kernel
theorem dX3_holds_123 : decode cX3_holds 123 = .ok (.invokevirtual 52, 3) := by decide +kernel
theorem dX3_holds_126 : decode cX3_holds 126 = .ok (.ifCond .eq 26, 3) := by decide +kernel
theorem dX3_holds_129 : decode cX3_holds 129 = .ok (.iload 4, 2) := by decide +kernel
theorem dX3_holds_131 : decode cX3_holds 131 = .ok (.ifCond .le 21, 3) := by decide +kernel
theorem dX3_holds_134 : decode cX3_holds 134 = .ok (.aload_n 1, 1) := by decide +kernel
theorem dX3_holds_135 : decode cX3_holds 135 = .ok (.getfield 58, 3) := by decide +kernel
theorem dX3_holds_138 : decode cX3_holds 138 = .ok (.iload_n 3, 1) := by decide +kernel
theorem dX3_holds_139 : decode cX3_holds 139 = .ok (.aaload, 1) := by decide +kernel
theorem dX3_holds_140 : decode cX3_holds 140 = .ok (.iload 4, 2) := by decide +kernel
theorem dX3_holds_142 : decode cX3_holds 142 = .ok (.invokestatic 66, 3) := by decide +kernel
theorem dX3_holds_145 : decode cX3_holds 145 = .ok (.ifCond .eq 7, 3) := by decide +kernel
theorem dX3_holds_148 : decode cX3_holds 148 = .ok (.iconst 1, 1) := by decide +kernel
theorem dX3_holds_149 : decode cX3_holds 149 = .ok (.goto 4, 3) := by decide +kernel
theorem dX3_holds_152 : decode cX3_holds 152 = .ok (.iconst 0, 1) := by decide +kernel
theorem dX3_holds_153 : decode cX3_holds 153 = .ok (.ireturn, 1) := by decide +kernel
theorem dX3_holds_154 : decode cX3_holds 154 = .ok (.aload 5, 2) := by decide +kernel
theorem dX3_holds_156 : decode cX3_holds 156 = .ok (.iload_n 3, 1) := by decide +kernel
theorem dX3_holds_157 : decode cX3_holds 157 = .ok (.invokevirtual 52, 3) := by decide +kernel
theorem dX3_holds_160 : decode cX3_holds 160 = .ok (.ifCond .eq 21, 3) := by decide +kernel
theorem dX3_holds_163 : decode cX3_holds 163 = .ok (.aload_n 1, 1) := by decide +kernel
theorem dX3_holds_164 : decode cX3_holds 164 = .ok (.getfield 58, 3) := by decide +kernel
theorem dX3_holds_167 : decode cX3_holds 167 = .ok (.iload_n 3, 1) := by decide +kernel
theorem dX3_holds_168 : decode cX3_holds 168 = .ok (.aaload, 1) := by decide +kernel
theorem dX3_holds_169 : decode cX3_holds 169 = .ok (.getfield 70, 3) := by decide +kernel
theorem dX3_holds_172 : decode cX3_holds 172 = .ok (.iload 4, 2) := by decide +kernel
theorem dX3_holds_174 : decode cX3_holds 174 = .ok (.if_icmp .ne 7, 3) := by decide +kernel
theorem dX3_holds_177 : decode cX3_holds 177 = .ok (.iconst 1, 1) := by decide +kernel
theorem dX3_holds_178 : decode cX3_holds 178 = .ok (.goto 4, 3) := by decide +kernel
theorem dX3_holds_181 : decode cX3_holds 181 = .ok (.iconst 0, 1) := by decide +kernel
theorem dX3_holds_182 : decode cX3_holds 182 = .ok (.ireturn, 1) := by decide +kernel
theorem dX3_holds_183 : decode cX3_holds 183 = .ok (.aload 5, 2) := by decide +kernel
theorem dX3_holds_185 : decode cX3_holds 185 = .ok (.iload_n 3, 1) := by decide +kernel
theorem dX3_holds_186 : decode cX3_holds 186 = .ok (.invokevirtual 52, 3) := by decide +kernel
theorem dX3_holds_189 : decode cX3_holds 189 = .ok (.ifCond .eq 28, 3) := by decide +kernel
theorem dX3_holds_192 : decode cX3_holds 192 = .ok (.iload 4, 2) := by decide +kernel
theorem dX3_holds_194 : decode cX3_holds 194 = .ok (.aload 5, 2) := by decide +kernel
theorem dX3_holds_196 : decode cX3_holds 196 = .ok (.getfield 76, 3) := by decide +kernel
theorem dX3_holds_199 : decode cX3_holds 199 = .ok (.if_icmp .ge 18, 3) := by decide +kernel
theorem dX3_holds_202 : decode cX3_holds 202 = .ok (.aload_n 0, 1) := by decide +kernel
theorem dX3_holds_203 : decode cX3_holds 203 = .ok (.aload_n 1, 1) := by decide +kernel
theorem dX3_holds_204 : decode cX3_holds 204 = .ok (.iload 4, 2) := by decide +kernel
theorem dX3_holds_206 : decode cX3_holds 206 = .ok (.invokevirtual 79, 3) := by decide +kernel
theorem dX3_holds_209 : decode cX3_holds 209 = .ok (.iload_n 3, 1) := by decide +kernel
theorem dX3_holds_210 : decode cX3_holds 210 = .ok (.if_icmp .ne 7, 3) := by decide +kernel
theorem dX3_holds_213 : decode cX3_holds 213 = .ok (.iconst 1, 1) := by decide +kernel
theorem dX3_holds_214 : decode cX3_holds 214 = .ok (.goto 4, 3) := by decide +kernel
theorem dX3_holds_217 : decode cX3_holds 217 = .ok (.iconst 0, 1) := by decide +kernel
theorem dX3_holds_218 : decode cX3_holds 218 = .ok (.ireturn, 1) := by decide +kernel
theorem dX3_holds_219 : decode cX3_holds 219 = .ok (.aload 5, 2) := by decide +kernel
theorem dX3_holds_221 : decode cX3_holds 221 = .ok (.iload_n 3, 1) := by decide +kernel
theorem dX3_holds_222 : decode cX3_holds 222 = .ok (.invokevirtual 52, 3) := by decide +kernel
theorem dX3_holds_225 : decode cX3_holds 225 = .ok (.ifCond .eq 44, 3) := by decide +kernel
theorem dX3_holds_228 : decode cX3_holds 228 = .ok (.iload 4, 2) := by decide +kernel
theorem dX3_holds_230 : decode cX3_holds 230 = .ok (.iconst 1, 1) := by decide +kernel
theorem dX3_holds_231 : decode cX3_holds 231 = .ok (.if_icmp .gt 38, 3) := by decide +kernel
theorem dX3_holds_234 : decode cX3_holds 234 = .ok (.aload_n 1, 1) := by decide +kernel
theorem dX3_holds_235 : decode cX3_holds 235 = .ok (.getfield 58, 3) := by decide +kernel
theorem dX3_holds_238 : decode cX3_holds 238 = .ok (.iload_n 3, 1) := by decide +kernel
theorem dX3_holds_239 : decode cX3_holds 239 = .ok (.aaload, 1) := by decide +kernel
theorem dX3_holds_240 : decode cX3_holds 240 = .ok (.invokevirtual 82, 3) := by decide +kernel
theorem dX3_holds_243 : decode cX3_holds 243 = .ok (.ifCond .le 7, 3) := by decide +kernel
theorem dX3_holds_246 : decode cX3_holds 246 = .ok (.iconst 1, 1) := by decide +kernel
theorem dX3_holds_247 : decode cX3_holds 247 = .ok (.goto 4, 3) := by decide +kernel
theorem dX3_holds_250 : decode cX3_holds 250 = .ok (.iconst 0, 1) := by decide +kernel
theorem dX3_holds_251 : decode cX3_holds 251 = .ok (.iload 4, 2) := by decide +kernel
theorem dX3_holds_253 : decode cX3_holds 253 = .ok (.iconst 1, 1) := by decide +kernel
theorem dX3_holds_254 : decode cX3_holds 254 = .ok (.if_icmp .ne 7, 3) := by decide +kernel
theorem dX3_holds_257 : decode cX3_holds 257 = .ok (.iconst 1, 1) := by decide +kernel
theorem dX3_holds_258 : decode cX3_holds 258 = .ok (.goto 4, 3) := by decide +kernel
theorem dX3_holds_261 : decode cX3_holds 261 = .ok (.iconst 0, 1) := by decide +kernel
theorem dX3_holds_262 : decode cX3_holds 262 = .ok (.if_icmp .ne 7, 3) := by decide +kernel
theorem dX3_holds_265 : decode cX3_holds 265 = .ok (.iconst 1, 1) := by decide +kernel
theorem dX3_holds_266 : decode cX3_holds 266 = .ok (.goto 4, 3) := by decide +kernel
theorem dX3_holds_269 : decode cX3_holds 269 = .ok (.iconst 0, 1) := by decide +kernel
theorem dX3_holds_270 : decode cX3_holds 270 = .ok (.ireturn, 1) := by decide +kernel
theorem dX3_holds_271 : decode cX3_holds 271 = .ok (.iconst 0, 1) := by decide +kernel
theorem dX3_holds_272 : decode cX3_holds 272 = .ok (.ireturn, 1) := by decide +kernel
theorem mk_X3_holds : MVk yX3_holds "FairBlocks$Court" cX3_holds 6 (Option.some FieldType.boolean) 4 := ⟨w_574, w_573, wp_7, w_10, rfl, by decide +kernel, by decide +kernel, by decide +kernel⟩
def BX3_holds_0 (G : Nat → KT) (Q : Option mV → mM → Prop) : KT := (s_aload 0 (s_getr 3 1 (fun _ => 3) (s_getr 1 5 (fun _ => 4) (s_astore 5 (s_iload 2 (s_tsw (1) (7) [s_at G 52 [true, true, false, true, true, false], s_at G 86 [false, true, true, true, true, true], s_at G 86 [false, true, true, true, true, true], s_at G 120 [false, true, false, true, true, true], s_at G 154 [false, true, false, true, true, true], s_at G 183 [true, true, false, true, true, true], s_at G 219 [false, true, false, true, true, true]] (s_at G 271 [false, false, false, false, false, false])))))))
set_option maxRecDepth 4000 in
theorem bsX3_holds_0 {p : Program} {l : Launch} {e : Env} {s : State} {m : MethodId} {args : Array Value} {below : List Frame} {meth : Method} {c : Code} {D : va_G} {ca : Nat → ClassId} {ad : Nat → Nat} {A : Nat → Prop} {Q : Option mV → mM → Prop} (hX : CX p s m args meth c 6 cX3_holds "FairBlocks$Court" D ca ad A) (hr : meth.sig.returnType = (Option.some FieldType.boolean)) : ∀ lv st M, BX3_holds_0 (Gd p l e (rmD 4) s m args below meth c 6 D ca ad A 0 0 (MQ below (QC D ca ad A Q) args s 0 0 A)) Q lv st M → Gd p l e (rmD 4) s m args below meth c 6 D ca ad A 0 0 (MQ below (QC D ca ad A Q) args s 0 0 A) 0 lv st M :=
  (sd_aload_n hX dX3_holds_0 rfl (sd_getr hX fl_255 (fun _ => rfl) (fun _ _ _ => by decide +kernel) dX3_holds_1 (sd_getr hX fl_191 (fun _ => rfl) (fun _ _ _ => by decide +kernel) dX3_holds_4 (sd_astore hX (by decide) dX3_holds_7 (sd_iload_n hX dX3_holds_9 rfl (sd_tsw hX dX3_holds_10 (ts := [52, 86, 86, 120, 154, 183, 219]) (td := 271) (by decide) (by decide) rfl ⟨sd_at, sd_at, sd_at, sd_at, sd_at, sd_at, sd_at, trivial⟩ sd_at))))))
def BX3_holds_52 (G : Nat → KT) (Q : Option mV → mM → Prop) : KT := (s_aload 0 (s_getr 3 1 (fun _ => 3) (s_getr 1 6 (fun _ => 21) (s_aload 1 (s_iconst (10) (s_iload 3 (s_bin (fun x y => x * y) (s_iload 4 (s_bin (fun x y => x + y) (s_callV 6 2 pre_X6_run fn_X6_run (s_pop (s_iload 3 (s_if (fun x => 0 < x) (s_at G 80 [false, false, false, false, false, false]) (s_iload 4 (s_if (fun x => x ≤ 0) (s_at G 84 [false, false, false, false, false, false]) (s_at G 80 [false, false, false, false, false, false]))))))))))))))))
set_option maxRecDepth 4000 in
theorem bsX3_holds_52 {p : Program} {l : Launch} {e : Env} {s : State} {m : MethodId} {args : Array Value} {below : List Frame} {meth : Method} {c : Code} {D : va_G} {ca : Nat → ClassId} {ad : Nat → Nat} {A : Nat → Prop} {Q : Option mV → mM → Prop} (hX : CX p s m args meth c 6 cX3_holds "FairBlocks$Court" D ca ad A) (hr : meth.sig.returnType = (Option.some FieldType.boolean)) : ∀ lv st M, BX3_holds_52 (Gd p l e (rmD 4) s m args below meth c 6 D ca ad A 0 0 (MQ below (QC D ca ad A Q) args s 0 0 A)) Q lv st M → Gd p l e (rmD 4) s m args below meth c 6 D ca ad A 0 0 (MQ below (QC D ca ad A Q) args s 0 0 A) 52 lv st M :=
  (sd_aload_n hX dX3_holds_52 rfl (sd_getr hX fl_255 (fun _ => rfl) (fun _ _ _ => by decide +kernel) dX3_holds_53 (sd_getr hX fl_203 (fun _ => rfl) (fun _ _ _ => by decide +kernel) dX3_holds_56 (sd_aload_n hX dX3_holds_59 rfl (sd_bipush hX dX3_holds_60 rfl (sd_iload_n hX dX3_holds_62 rfl (sd_imul hX dX3_holds_63 (sd_iload hX dX3_holds_64 (sd_iadd hX dX3_holds_66 (sd_callV hX (kd := 6) rfl (by decide) (ct_X6_run l) mk_X6_run w_575 ⟨⟨by decide, by decide⟩, by decide, by decide⟩ dX3_holds_67 (sd_pop hX dX3_holds_70 (sd_iload_n hX dX3_holds_71 rfl (sd_if_gt hX dX3_holds_72 (by decide) sd_at (sd_iload hX dX3_holds_75 (sd_if_le hX dX3_holds_77 (by decide) sd_at sd_at)))))))))))))))
def BX3_holds_80 (G : Nat → KT) (Q : Option mV → mM → Prop) : KT := (s_iconst (1) (s_at G 85 [false, false, false, false, false, false]))
set_option maxRecDepth 4000 in
theorem bsX3_holds_80 {p : Program} {l : Launch} {e : Env} {s : State} {m : MethodId} {args : Array Value} {below : List Frame} {meth : Method} {c : Code} {D : va_G} {ca : Nat → ClassId} {ad : Nat → Nat} {A : Nat → Prop} {Q : Option mV → mM → Prop} (hX : CX p s m args meth c 6 cX3_holds "FairBlocks$Court" D ca ad A) (hr : meth.sig.returnType = (Option.some FieldType.boolean)) : ∀ lv st M, BX3_holds_80 (Gd p l e (rmD 4) s m args below meth c 6 D ca ad A 0 0 (MQ below (QC D ca ad A Q) args s 0 0 A)) Q lv st M → Gd p l e (rmD 4) s m args below meth c 6 D ca ad A 0 0 (MQ below (QC D ca ad A Q) args s 0 0 A) 80 lv st M :=
  (sd_iconst hX dX3_holds_80 rfl (sd_goto hX dX3_holds_81 (by decide) sd_at))
def BX3_holds_84 (G : Nat → KT) (Q : Option mV → mM → Prop) : KT := (s_iconst (0) (s_at G 85 [false, false, false, false, false, false]))
set_option maxRecDepth 4000 in
theorem bsX3_holds_84 {p : Program} {l : Launch} {e : Env} {s : State} {m : MethodId} {args : Array Value} {below : List Frame} {meth : Method} {c : Code} {D : va_G} {ca : Nat → ClassId} {ad : Nat → Nat} {A : Nat → Prop} {Q : Option mV → mM → Prop} (hX : CX p s m args meth c 6 cX3_holds "FairBlocks$Court" D ca ad A) (hr : meth.sig.returnType = (Option.some FieldType.boolean)) : ∀ lv st M, BX3_holds_84 (Gd p l e (rmD 4) s m args below meth c 6 D ca ad A 0 0 (MQ below (QC D ca ad A Q) args s 0 0 A)) Q lv st M → Gd p l e (rmD 4) s m args below meth c 6 D ca ad A 0 0 (MQ below (QC D ca ad A Q) args s 0 0 A) 84 lv st M :=
  (sd_iconst hX dX3_holds_84 rfl sd_at)
def BX3_holds_85 (G : Nat → KT) (Q : Option mV → mM → Prop) : KT := (s_zret Q)
set_option maxRecDepth 4000 in
theorem bsX3_holds_85 {p : Program} {l : Launch} {e : Env} {s : State} {m : MethodId} {args : Array Value} {below : List Frame} {meth : Method} {c : Code} {D : va_G} {ca : Nat → ClassId} {ad : Nat → Nat} {A : Nat → Prop} {Q : Option mV → mM → Prop} (hX : CX p s m args meth c 6 cX3_holds "FairBlocks$Court" D ca ad A) (hr : meth.sig.returnType = (Option.some FieldType.boolean)) : ∀ lv st M, BX3_holds_85 (Gd p l e (rmD 4) s m args below meth c 6 D ca ad A 0 0 (MQ below (QC D ca ad A Q) args s 0 0 A)) Q lv st M → Gd p l e (rmD 4) s m args below meth c 6 D ca ad A 0 0 (MQ below (QC D ca ad A Q) args s 0 0 A) 85 lv st M :=
  sd_zret hX hr dX3_holds_85
def BX3_holds_86 (G : Nat → KT) (Q : Option mV → mM → Prop) : KT := (s_iload 3 (s_if (fun x => x = 0) ((s_aload 5 (s_iload 4 (s_callV 5 1 pre_X5_has fn_X5_has (s_if (fun x => x = 0) (s_at G 118 [false, false, false, false, false, false]) (s_iload 2 (s_aload 1 (s_getr 8 16 (fun k => k + 1) (s_iload 4 (s_aaldU (s_callS 2 pre_X3_turnsOrDrops fn_X3_turnsOrDrops (s_if (fun x => x = 0) (s_at G 118 [false, false, false, false, false, false]) (s_iconst (1) (s_at G 119 [false, false, false, false, false, false])))))))))))))) (s_at G 118 [false, false, false, false, false, false])))
set_option maxRecDepth 4000 in
theorem bsX3_holds_86 {p : Program} {l : Launch} {e : Env} {s : State} {m : MethodId} {args : Array Value} {below : List Frame} {meth : Method} {c : Code} {D : va_G} {ca : Nat → ClassId} {ad : Nat → Nat} {A : Nat → Prop} {Q : Option mV → mM → Prop} (hX : CX p s m args meth c 6 cX3_holds "FairBlocks$Court" D ca ad A) (hr : meth.sig.returnType = (Option.some FieldType.boolean)) : ∀ lv st M, BX3_holds_86 (Gd p l e (rmD 4) s m args below meth c 6 D ca ad A 0 0 (MQ below (QC D ca ad A Q) args s 0 0 A)) Q lv st M → Gd p l e (rmD 4) s m args below meth c 6 D ca ad A 0 0 (MQ below (QC D ca ad A Q) args s 0 0 A) 86 lv st M :=
  (sd_iload_n hX dX3_holds_86 rfl (sd_if_ne hX dX3_holds_87 (by decide) sd_at (sd_aload hX dX3_holds_90 (sd_iload hX dX3_holds_92 (sd_callV hX (kd := 5) rfl (by decide) (ct_X5_has l) mk_X5_has w_576 ⟨⟨by decide, by decide⟩, by decide, by decide⟩ dX3_holds_94 (sd_if_eq hX dX3_holds_97 (by decide) sd_at (sd_iload_n hX dX3_holds_100 rfl (sd_aload_n hX dX3_holds_101 rfl (sd_getr hX fl_147 (fun _ => rfl) okA dX3_holds_102 (sd_iload hX dX3_holds_105 (sd_aaldU hX dX3_holds_107 (sd_callS hX (ct_X3_turnsOrDrops l) mk_X3_turnsOrDrops w_577 ⟨⟨by decide, by decide⟩, by decide, by decide⟩ dX3_holds_108 (sd_if_eq hX dX3_holds_111 (by decide) sd_at (sd_iconst hX dX3_holds_114 rfl (sd_goto hX dX3_holds_115 (by decide) sd_at)))))))))))))))
def BX3_holds_118 (G : Nat → KT) (Q : Option mV → mM → Prop) : KT := (s_iconst (0) (s_at G 119 [false, false, false, false, false, false]))
set_option maxRecDepth 4000 in
theorem bsX3_holds_118 {p : Program} {l : Launch} {e : Env} {s : State} {m : MethodId} {args : Array Value} {below : List Frame} {meth : Method} {c : Code} {D : va_G} {ca : Nat → ClassId} {ad : Nat → Nat} {A : Nat → Prop} {Q : Option mV → mM → Prop} (hX : CX p s m args meth c 6 cX3_holds "FairBlocks$Court" D ca ad A) (hr : meth.sig.returnType = (Option.some FieldType.boolean)) : ∀ lv st M, BX3_holds_118 (Gd p l e (rmD 4) s m args below meth c 6 D ca ad A 0 0 (MQ below (QC D ca ad A Q) args s 0 0 A)) Q lv st M → Gd p l e (rmD 4) s m args below meth c 6 D ca ad A 0 0 (MQ below (QC D ca ad A Q) args s 0 0 A) 118 lv st M :=
  (sd_iconst hX dX3_holds_118 rfl sd_at)
def BX3_holds_119 (G : Nat → KT) (Q : Option mV → mM → Prop) : KT := (s_zret Q)
set_option maxRecDepth 4000 in
theorem bsX3_holds_119 {p : Program} {l : Launch} {e : Env} {s : State} {m : MethodId} {args : Array Value} {below : List Frame} {meth : Method} {c : Code} {D : va_G} {ca : Nat → ClassId} {ad : Nat → Nat} {A : Nat → Prop} {Q : Option mV → mM → Prop} (hX : CX p s m args meth c 6 cX3_holds "FairBlocks$Court" D ca ad A) (hr : meth.sig.returnType = (Option.some FieldType.boolean)) : ∀ lv st M, BX3_holds_119 (Gd p l e (rmD 4) s m args below meth c 6 D ca ad A 0 0 (MQ below (QC D ca ad A Q) args s 0 0 A)) Q lv st M → Gd p l e (rmD 4) s m args below meth c 6 D ca ad A 0 0 (MQ below (QC D ca ad A Q) args s 0 0 A) 119 lv st M :=
  sd_zret hX hr dX3_holds_119
def BX3_holds_120 (G : Nat → KT) (Q : Option mV → mM → Prop) : KT := (s_aload 5 (s_iload 3 (s_callV 5 1 pre_X5_has fn_X5_has (s_if (fun x => x = 0) (s_at G 152 [false, false, false, false, false, false]) (s_iload 4 (s_if (fun x => x ≤ 0) (s_at G 152 [false, false, false, false, false, false]) (s_aload 1 (s_getr 8 16 (fun k => k + 1) (s_iload 3 (s_aaldU (s_iload 4 (s_callS 2 pre_X3_weighs fn_X3_weighs (s_if (fun x => x = 0) (s_at G 152 [false, false, false, false, false, false]) (s_iconst (1) (s_at G 153 [false, false, false, false, false, false])))))))))))))))
set_option maxRecDepth 4000 in
theorem bsX3_holds_120 {p : Program} {l : Launch} {e : Env} {s : State} {m : MethodId} {args : Array Value} {below : List Frame} {meth : Method} {c : Code} {D : va_G} {ca : Nat → ClassId} {ad : Nat → Nat} {A : Nat → Prop} {Q : Option mV → mM → Prop} (hX : CX p s m args meth c 6 cX3_holds "FairBlocks$Court" D ca ad A) (hr : meth.sig.returnType = (Option.some FieldType.boolean)) : ∀ lv st M, BX3_holds_120 (Gd p l e (rmD 4) s m args below meth c 6 D ca ad A 0 0 (MQ below (QC D ca ad A Q) args s 0 0 A)) Q lv st M → Gd p l e (rmD 4) s m args below meth c 6 D ca ad A 0 0 (MQ below (QC D ca ad A Q) args s 0 0 A) 120 lv st M :=
  (sd_aload hX dX3_holds_120 (sd_iload_n hX dX3_holds_122 rfl (sd_callV hX (kd := 5) rfl (by decide) (ct_X5_has l) mk_X5_has w_576 ⟨⟨by decide, by decide⟩, by decide, by decide⟩ dX3_holds_123 (sd_if_eq hX dX3_holds_126 (by decide) sd_at (sd_iload hX dX3_holds_129 (sd_if_le hX dX3_holds_131 (by decide) sd_at (sd_aload_n hX dX3_holds_134 rfl (sd_getr hX fl_147 (fun _ => rfl) okA dX3_holds_135 (sd_iload_n hX dX3_holds_138 rfl (sd_aaldU hX dX3_holds_139 (sd_iload hX dX3_holds_140 (sd_callS hX (ct_X3_weighs l) mk_X3_weighs w_581 ⟨⟨by decide, by decide⟩, by decide, by decide⟩ dX3_holds_142 (sd_if_eq hX dX3_holds_145 (by decide) sd_at (sd_iconst hX dX3_holds_148 rfl (sd_goto hX dX3_holds_149 (by decide) sd_at)))))))))))))))
def BX3_holds_152 (G : Nat → KT) (Q : Option mV → mM → Prop) : KT := (s_iconst (0) (s_at G 153 [false, false, false, false, false, false]))
set_option maxRecDepth 4000 in
theorem bsX3_holds_152 {p : Program} {l : Launch} {e : Env} {s : State} {m : MethodId} {args : Array Value} {below : List Frame} {meth : Method} {c : Code} {D : va_G} {ca : Nat → ClassId} {ad : Nat → Nat} {A : Nat → Prop} {Q : Option mV → mM → Prop} (hX : CX p s m args meth c 6 cX3_holds "FairBlocks$Court" D ca ad A) (hr : meth.sig.returnType = (Option.some FieldType.boolean)) : ∀ lv st M, BX3_holds_152 (Gd p l e (rmD 4) s m args below meth c 6 D ca ad A 0 0 (MQ below (QC D ca ad A Q) args s 0 0 A)) Q lv st M → Gd p l e (rmD 4) s m args below meth c 6 D ca ad A 0 0 (MQ below (QC D ca ad A Q) args s 0 0 A) 152 lv st M :=
  (sd_iconst hX dX3_holds_152 rfl sd_at)
def BX3_holds_153 (G : Nat → KT) (Q : Option mV → mM → Prop) : KT := (s_zret Q)
set_option maxRecDepth 4000 in
theorem bsX3_holds_153 {p : Program} {l : Launch} {e : Env} {s : State} {m : MethodId} {args : Array Value} {below : List Frame} {meth : Method} {c : Code} {D : va_G} {ca : Nat → ClassId} {ad : Nat → Nat} {A : Nat → Prop} {Q : Option mV → mM → Prop} (hX : CX p s m args meth c 6 cX3_holds "FairBlocks$Court" D ca ad A) (hr : meth.sig.returnType = (Option.some FieldType.boolean)) : ∀ lv st M, BX3_holds_153 (Gd p l e (rmD 4) s m args below meth c 6 D ca ad A 0 0 (MQ below (QC D ca ad A Q) args s 0 0 A)) Q lv st M → Gd p l e (rmD 4) s m args below meth c 6 D ca ad A 0 0 (MQ below (QC D ca ad A Q) args s 0 0 A) 153 lv st M :=
  sd_zret hX hr dX3_holds_153
def BX3_holds_154 (G : Nat → KT) (Q : Option mV → mM → Prop) : KT := (s_aload 5 (s_iload 3 (s_callV 5 1 pre_X5_has fn_X5_has (s_if (fun x => x = 0) (s_at G 181 [false, false, false, false, false, false]) (s_aload 1 (s_getr 8 16 (fun k => k + 1) (s_iload 3 (s_aaldU (s_geti 10 7 (s_iload 4 (s_icmp (fun x y => x = y) ((s_iconst (1) (s_at G 182 [false, false, false, false, false, false]))) (s_at G 181 [false, false, false, false, false, false]))))))))))))
set_option maxRecDepth 4000 in
theorem bsX3_holds_154 {p : Program} {l : Launch} {e : Env} {s : State} {m : MethodId} {args : Array Value} {below : List Frame} {meth : Method} {c : Code} {D : va_G} {ca : Nat → ClassId} {ad : Nat → Nat} {A : Nat → Prop} {Q : Option mV → mM → Prop} (hX : CX p s m args meth c 6 cX3_holds "FairBlocks$Court" D ca ad A) (hr : meth.sig.returnType = (Option.some FieldType.boolean)) : ∀ lv st M, BX3_holds_154 (Gd p l e (rmD 4) s m args below meth c 6 D ca ad A 0 0 (MQ below (QC D ca ad A Q) args s 0 0 A)) Q lv st M → Gd p l e (rmD 4) s m args below meth c 6 D ca ad A 0 0 (MQ below (QC D ca ad A Q) args s 0 0 A) 154 lv st M :=
  (sd_aload hX dX3_holds_154 (sd_iload_n hX dX3_holds_156 rfl (sd_callV hX (kd := 5) rfl (by decide) (ct_X5_has l) mk_X5_has w_576 ⟨⟨by decide, by decide⟩, by decide, by decide⟩ dX3_holds_157 (sd_if_eq hX dX3_holds_160 (by decide) sd_at (sd_aload_n hX dX3_holds_163 rfl (sd_getr hX fl_147 (fun _ => rfl) okA dX3_holds_164 (sd_iload_n hX dX3_holds_167 rfl (sd_aaldU hX dX3_holds_168 (sd_geti hX fl_115 (by decide) dX3_holds_169 (sd_iload hX dX3_holds_172 (sd_icmp_ne hX dX3_holds_174 (by decide) sd_at (sd_iconst hX dX3_holds_177 rfl (sd_goto hX dX3_holds_178 (by decide) sd_at)))))))))))))
def BX3_holds_181 (G : Nat → KT) (Q : Option mV → mM → Prop) : KT := (s_iconst (0) (s_at G 182 [false, false, false, false, false, false]))
set_option maxRecDepth 4000 in
theorem bsX3_holds_181 {p : Program} {l : Launch} {e : Env} {s : State} {m : MethodId} {args : Array Value} {below : List Frame} {meth : Method} {c : Code} {D : va_G} {ca : Nat → ClassId} {ad : Nat → Nat} {A : Nat → Prop} {Q : Option mV → mM → Prop} (hX : CX p s m args meth c 6 cX3_holds "FairBlocks$Court" D ca ad A) (hr : meth.sig.returnType = (Option.some FieldType.boolean)) : ∀ lv st M, BX3_holds_181 (Gd p l e (rmD 4) s m args below meth c 6 D ca ad A 0 0 (MQ below (QC D ca ad A Q) args s 0 0 A)) Q lv st M → Gd p l e (rmD 4) s m args below meth c 6 D ca ad A 0 0 (MQ below (QC D ca ad A Q) args s 0 0 A) 181 lv st M :=
  (sd_iconst hX dX3_holds_181 rfl sd_at)
def BX3_holds_182 (G : Nat → KT) (Q : Option mV → mM → Prop) : KT := (s_zret Q)
set_option maxRecDepth 4000 in
theorem bsX3_holds_182 {p : Program} {l : Launch} {e : Env} {s : State} {m : MethodId} {args : Array Value} {below : List Frame} {meth : Method} {c : Code} {D : va_G} {ca : Nat → ClassId} {ad : Nat → Nat} {A : Nat → Prop} {Q : Option mV → mM → Prop} (hX : CX p s m args meth c 6 cX3_holds "FairBlocks$Court" D ca ad A) (hr : meth.sig.returnType = (Option.some FieldType.boolean)) : ∀ lv st M, BX3_holds_182 (Gd p l e (rmD 4) s m args below meth c 6 D ca ad A 0 0 (MQ below (QC D ca ad A Q) args s 0 0 A)) Q lv st M → Gd p l e (rmD 4) s m args below meth c 6 D ca ad A 0 0 (MQ below (QC D ca ad A Q) args s 0 0 A) 182 lv st M :=
  sd_zret hX hr dX3_holds_182
def BX3_holds_183 (G : Nat → KT) (Q : Option mV → mM → Prop) : KT := (s_aload 5 (s_iload 3 (s_callV 5 1 pre_X5_has fn_X5_has (s_if (fun x => x = 0) (s_at G 217 [false, false, false, false, false, false]) (s_iload 4 (s_aload 5 (s_geti 5 0 (s_icmp (fun x y => y ≤ x) (s_at G 217 [false, false, false, false, false, false]) (s_aload 0 (s_aload 1 (s_iload 4 (s_callV 3 2 pre_X3_holderBehind fn_X3_holderBehind (s_iload 3 (s_icmp (fun x y => x = y) ((s_iconst (1) (s_at G 218 [false, false, false, false, false, false]))) (s_at G 217 [false, false, false, false, false, false])))))))))))))))
set_option maxRecDepth 4000 in
theorem bsX3_holds_183 {p : Program} {l : Launch} {e : Env} {s : State} {m : MethodId} {args : Array Value} {below : List Frame} {meth : Method} {c : Code} {D : va_G} {ca : Nat → ClassId} {ad : Nat → Nat} {A : Nat → Prop} {Q : Option mV → mM → Prop} (hX : CX p s m args meth c 6 cX3_holds "FairBlocks$Court" D ca ad A) (hr : meth.sig.returnType = (Option.some FieldType.boolean)) : ∀ lv st M, BX3_holds_183 (Gd p l e (rmD 4) s m args below meth c 6 D ca ad A 0 0 (MQ below (QC D ca ad A Q) args s 0 0 A)) Q lv st M → Gd p l e (rmD 4) s m args below meth c 6 D ca ad A 0 0 (MQ below (QC D ca ad A Q) args s 0 0 A) 183 lv st M :=
  (sd_aload hX dX3_holds_183 (sd_iload_n hX dX3_holds_185 rfl (sd_callV hX (kd := 5) rfl (by decide) (ct_X5_has l) mk_X5_has w_576 ⟨⟨by decide, by decide⟩, by decide, by decide⟩ dX3_holds_186 (sd_if_eq hX dX3_holds_189 (by decide) sd_at (sd_iload hX dX3_holds_192 (sd_aload hX dX3_holds_194 (sd_geti hX fl_53 (by decide) dX3_holds_196 (sd_icmp_ge hX dX3_holds_199 (by decide) sd_at (sd_aload_n hX dX3_holds_202 rfl (sd_aload_n hX dX3_holds_203 rfl (sd_iload hX dX3_holds_204 (sd_callV hX (kd := 3) rfl (by decide) (ct_X3_holderBehind l) mk_X3_holderBehind w_584 ⟨⟨by decide, by decide⟩, by decide, by decide⟩ dX3_holds_206 (sd_iload_n hX dX3_holds_209 rfl (sd_icmp_ne hX dX3_holds_210 (by decide) sd_at (sd_iconst hX dX3_holds_213 rfl (sd_goto hX dX3_holds_214 (by decide) sd_at))))))))))))))))
def BX3_holds_217 (G : Nat → KT) (Q : Option mV → mM → Prop) : KT := (s_iconst (0) (s_at G 218 [false, false, false, false, false, false]))
set_option maxRecDepth 4000 in
theorem bsX3_holds_217 {p : Program} {l : Launch} {e : Env} {s : State} {m : MethodId} {args : Array Value} {below : List Frame} {meth : Method} {c : Code} {D : va_G} {ca : Nat → ClassId} {ad : Nat → Nat} {A : Nat → Prop} {Q : Option mV → mM → Prop} (hX : CX p s m args meth c 6 cX3_holds "FairBlocks$Court" D ca ad A) (hr : meth.sig.returnType = (Option.some FieldType.boolean)) : ∀ lv st M, BX3_holds_217 (Gd p l e (rmD 4) s m args below meth c 6 D ca ad A 0 0 (MQ below (QC D ca ad A Q) args s 0 0 A)) Q lv st M → Gd p l e (rmD 4) s m args below meth c 6 D ca ad A 0 0 (MQ below (QC D ca ad A Q) args s 0 0 A) 217 lv st M :=
  (sd_iconst hX dX3_holds_217 rfl sd_at)
def BX3_holds_218 (G : Nat → KT) (Q : Option mV → mM → Prop) : KT := (s_zret Q)
set_option maxRecDepth 4000 in
theorem bsX3_holds_218 {p : Program} {l : Launch} {e : Env} {s : State} {m : MethodId} {args : Array Value} {below : List Frame} {meth : Method} {c : Code} {D : va_G} {ca : Nat → ClassId} {ad : Nat → Nat} {A : Nat → Prop} {Q : Option mV → mM → Prop} (hX : CX p s m args meth c 6 cX3_holds "FairBlocks$Court" D ca ad A) (hr : meth.sig.returnType = (Option.some FieldType.boolean)) : ∀ lv st M, BX3_holds_218 (Gd p l e (rmD 4) s m args below meth c 6 D ca ad A 0 0 (MQ below (QC D ca ad A Q) args s 0 0 A)) Q lv st M → Gd p l e (rmD 4) s m args below meth c 6 D ca ad A 0 0 (MQ below (QC D ca ad A Q) args s 0 0 A) 218 lv st M :=
  sd_zret hX hr dX3_holds_218
def BX3_holds_219 (G : Nat → KT) (Q : Option mV → mM → Prop) : KT := (s_aload 5 (s_iload 3 (s_callV 5 1 pre_X5_has fn_X5_has (s_if (fun x => x = 0) (s_at G 269 [false, false, false, false, false, false]) (s_iload 4 (s_iconst (1) (s_icmp (fun x y => y < x) (s_at G 269 [false, false, false, false, false, false]) (s_aload 1 (s_getr 8 16 (fun k => k + 1) (s_iload 3 (s_aaldU (s_callV 10 0 pre_X10_waiting fn_X10_waiting (s_if (fun x => x ≤ 0) (s_at G 250 [false, false, false, false, true, false]) (s_iconst (1) (s_at G 251 [false, false, false, false, true, false])))))))))))))))
set_option maxRecDepth 4000 in
theorem bsX3_holds_219 {p : Program} {l : Launch} {e : Env} {s : State} {m : MethodId} {args : Array Value} {below : List Frame} {meth : Method} {c : Code} {D : va_G} {ca : Nat → ClassId} {ad : Nat → Nat} {A : Nat → Prop} {Q : Option mV → mM → Prop} (hX : CX p s m args meth c 6 cX3_holds "FairBlocks$Court" D ca ad A) (hr : meth.sig.returnType = (Option.some FieldType.boolean)) : ∀ lv st M, BX3_holds_219 (Gd p l e (rmD 4) s m args below meth c 6 D ca ad A 0 0 (MQ below (QC D ca ad A Q) args s 0 0 A)) Q lv st M → Gd p l e (rmD 4) s m args below meth c 6 D ca ad A 0 0 (MQ below (QC D ca ad A Q) args s 0 0 A) 219 lv st M :=
  (sd_aload hX dX3_holds_219 (sd_iload_n hX dX3_holds_221 rfl (sd_callV hX (kd := 5) rfl (by decide) (ct_X5_has l) mk_X5_has w_576 ⟨⟨by decide, by decide⟩, by decide, by decide⟩ dX3_holds_222 (sd_if_eq hX dX3_holds_225 (by decide) sd_at (sd_iload hX dX3_holds_228 (sd_iconst hX dX3_holds_230 rfl (sd_icmp_gt hX dX3_holds_231 (by decide) sd_at (sd_aload_n hX dX3_holds_234 rfl (sd_getr hX fl_147 (fun _ => rfl) okA dX3_holds_235 (sd_iload_n hX dX3_holds_238 rfl (sd_aaldU hX dX3_holds_239 (sd_callV hX (kd := 10) rfl (by decide) (ct_X10_waiting l) mk_X10_waiting w_591 ⟨⟨by decide, by decide⟩, by decide, by decide⟩ dX3_holds_240 (sd_if_le hX dX3_holds_243 (by decide) sd_at (sd_iconst hX dX3_holds_246 rfl (sd_goto hX dX3_holds_247 (by decide) sd_at)))))))))))))))
def BX3_holds_250 (G : Nat → KT) (Q : Option mV → mM → Prop) : KT := (s_iconst (0) (s_at G 251 [false, false, false, false, true, false]))
set_option maxRecDepth 4000 in
theorem bsX3_holds_250 {p : Program} {l : Launch} {e : Env} {s : State} {m : MethodId} {args : Array Value} {below : List Frame} {meth : Method} {c : Code} {D : va_G} {ca : Nat → ClassId} {ad : Nat → Nat} {A : Nat → Prop} {Q : Option mV → mM → Prop} (hX : CX p s m args meth c 6 cX3_holds "FairBlocks$Court" D ca ad A) (hr : meth.sig.returnType = (Option.some FieldType.boolean)) : ∀ lv st M, BX3_holds_250 (Gd p l e (rmD 4) s m args below meth c 6 D ca ad A 0 0 (MQ below (QC D ca ad A Q) args s 0 0 A)) Q lv st M → Gd p l e (rmD 4) s m args below meth c 6 D ca ad A 0 0 (MQ below (QC D ca ad A Q) args s 0 0 A) 250 lv st M :=
  (sd_iconst hX dX3_holds_250 rfl sd_at)
def BX3_holds_251 (G : Nat → KT) (Q : Option mV → mM → Prop) : KT := (s_iload 4 (s_iconst (1) (s_icmp (fun x y => x = y) ((s_iconst (1) (s_at G 262 [false, false, false, false, false, false]))) (s_at G 261 [false, false, false, false, false, false]))))
set_option maxRecDepth 4000 in
theorem bsX3_holds_251 {p : Program} {l : Launch} {e : Env} {s : State} {m : MethodId} {args : Array Value} {below : List Frame} {meth : Method} {c : Code} {D : va_G} {ca : Nat → ClassId} {ad : Nat → Nat} {A : Nat → Prop} {Q : Option mV → mM → Prop} (hX : CX p s m args meth c 6 cX3_holds "FairBlocks$Court" D ca ad A) (hr : meth.sig.returnType = (Option.some FieldType.boolean)) : ∀ lv st M, BX3_holds_251 (Gd p l e (rmD 4) s m args below meth c 6 D ca ad A 0 0 (MQ below (QC D ca ad A Q) args s 0 0 A)) Q lv st M → Gd p l e (rmD 4) s m args below meth c 6 D ca ad A 0 0 (MQ below (QC D ca ad A Q) args s 0 0 A) 251 lv st M :=
  (sd_iload hX dX3_holds_251 (sd_iconst hX dX3_holds_253 rfl (sd_icmp_ne hX dX3_holds_254 (by decide) sd_at (sd_iconst hX dX3_holds_257 rfl (sd_goto hX dX3_holds_258 (by decide) sd_at)))))
def BX3_holds_261 (G : Nat → KT) (Q : Option mV → mM → Prop) : KT := (s_iconst (0) (s_at G 262 [false, false, false, false, false, false]))
set_option maxRecDepth 4000 in
theorem bsX3_holds_261 {p : Program} {l : Launch} {e : Env} {s : State} {m : MethodId} {args : Array Value} {below : List Frame} {meth : Method} {c : Code} {D : va_G} {ca : Nat → ClassId} {ad : Nat → Nat} {A : Nat → Prop} {Q : Option mV → mM → Prop} (hX : CX p s m args meth c 6 cX3_holds "FairBlocks$Court" D ca ad A) (hr : meth.sig.returnType = (Option.some FieldType.boolean)) : ∀ lv st M, BX3_holds_261 (Gd p l e (rmD 4) s m args below meth c 6 D ca ad A 0 0 (MQ below (QC D ca ad A Q) args s 0 0 A)) Q lv st M → Gd p l e (rmD 4) s m args below meth c 6 D ca ad A 0 0 (MQ below (QC D ca ad A Q) args s 0 0 A) 261 lv st M :=
  (sd_iconst hX dX3_holds_261 rfl sd_at)
def BX3_holds_262 (G : Nat → KT) (Q : Option mV → mM → Prop) : KT := (s_icmp (fun x y => x = y) ((s_iconst (1) (s_at G 270 [false, false, false, false, false, false]))) (s_at G 269 [false, false, false, false, false, false]))
set_option maxRecDepth 4000 in
theorem bsX3_holds_262 {p : Program} {l : Launch} {e : Env} {s : State} {m : MethodId} {args : Array Value} {below : List Frame} {meth : Method} {c : Code} {D : va_G} {ca : Nat → ClassId} {ad : Nat → Nat} {A : Nat → Prop} {Q : Option mV → mM → Prop} (hX : CX p s m args meth c 6 cX3_holds "FairBlocks$Court" D ca ad A) (hr : meth.sig.returnType = (Option.some FieldType.boolean)) : ∀ lv st M, BX3_holds_262 (Gd p l e (rmD 4) s m args below meth c 6 D ca ad A 0 0 (MQ below (QC D ca ad A Q) args s 0 0 A)) Q lv st M → Gd p l e (rmD 4) s m args below meth c 6 D ca ad A 0 0 (MQ below (QC D ca ad A Q) args s 0 0 A) 262 lv st M :=
  (sd_icmp_ne hX dX3_holds_262 (by decide) sd_at (sd_iconst hX dX3_holds_265 rfl (sd_goto hX dX3_holds_266 (by decide) sd_at)))
def BX3_holds_269 (G : Nat → KT) (Q : Option mV → mM → Prop) : KT := (s_iconst (0) (s_at G 270 [false, false, false, false, false, false]))
set_option maxRecDepth 4000 in
theorem bsX3_holds_269 {p : Program} {l : Launch} {e : Env} {s : State} {m : MethodId} {args : Array Value} {below : List Frame} {meth : Method} {c : Code} {D : va_G} {ca : Nat → ClassId} {ad : Nat → Nat} {A : Nat → Prop} {Q : Option mV → mM → Prop} (hX : CX p s m args meth c 6 cX3_holds "FairBlocks$Court" D ca ad A) (hr : meth.sig.returnType = (Option.some FieldType.boolean)) : ∀ lv st M, BX3_holds_269 (Gd p l e (rmD 4) s m args below meth c 6 D ca ad A 0 0 (MQ below (QC D ca ad A Q) args s 0 0 A)) Q lv st M → Gd p l e (rmD 4) s m args below meth c 6 D ca ad A 0 0 (MQ below (QC D ca ad A Q) args s 0 0 A) 269 lv st M :=
  (sd_iconst hX dX3_holds_269 rfl sd_at)
def BX3_holds_270 (G : Nat → KT) (Q : Option mV → mM → Prop) : KT := (s_zret Q)
set_option maxRecDepth 4000 in
theorem bsX3_holds_270 {p : Program} {l : Launch} {e : Env} {s : State} {m : MethodId} {args : Array Value} {below : List Frame} {meth : Method} {c : Code} {D : va_G} {ca : Nat → ClassId} {ad : Nat → Nat} {A : Nat → Prop} {Q : Option mV → mM → Prop} (hX : CX p s m args meth c 6 cX3_holds "FairBlocks$Court" D ca ad A) (hr : meth.sig.returnType = (Option.some FieldType.boolean)) : ∀ lv st M, BX3_holds_270 (Gd p l e (rmD 4) s m args below meth c 6 D ca ad A 0 0 (MQ below (QC D ca ad A Q) args s 0 0 A)) Q lv st M → Gd p l e (rmD 4) s m args below meth c 6 D ca ad A 0 0 (MQ below (QC D ca ad A Q) args s 0 0 A) 270 lv st M :=
  sd_zret hX hr dX3_holds_270
def BX3_holds_271 (G : Nat → KT) (Q : Option mV → mM → Prop) : KT := (s_iconst (0) (s_zret Q))
set_option maxRecDepth 4000 in
theorem bsX3_holds_271 {p : Program} {l : Launch} {e : Env} {s : State} {m : MethodId} {args : Array Value} {below : List Frame} {meth : Method} {c : Code} {D : va_G} {ca : Nat → ClassId} {ad : Nat → Nat} {A : Nat → Prop} {Q : Option mV → mM → Prop} (hX : CX p s m args meth c 6 cX3_holds "FairBlocks$Court" D ca ad A) (hr : meth.sig.returnType = (Option.some FieldType.boolean)) : ∀ lv st M, BX3_holds_271 (Gd p l e (rmD 4) s m args below meth c 6 D ca ad A 0 0 (MQ below (QC D ca ad A Q) args s 0 0 A)) Q lv st M → Gd p l e (rmD 4) s m args below meth c 6 D ca ad A 0 0 (MQ below (QC D ca ad A Q) args s 0 0 A) 271 lv st M :=
  (sd_iconst hX dX3_holds_271 rfl (sd_zret hX hr dX3_holds_272))
set_option maxHeartbeats 400000 in
theorem pf_X3_holds (G : Nat → KT) (Q : Option mV → mM → Prop) (h0 : ∀ lv st M, BX3_holds_0 G Q lv st M → G 0 lv st M) (h52 : ∀ lv st M, BX3_holds_52 G Q lv st M → G 52 lv st M) (h80 : ∀ lv st M, BX3_holds_80 G Q lv st M → G 80 lv st M) (h84 : ∀ lv st M, BX3_holds_84 G Q lv st M → G 84 lv st M) (h85 : ∀ lv st M, BX3_holds_85 G Q lv st M → G 85 lv st M) (h86 : ∀ lv st M, BX3_holds_86 G Q lv st M → G 86 lv st M) (h118 : ∀ lv st M, BX3_holds_118 G Q lv st M → G 118 lv st M) (h119 : ∀ lv st M, BX3_holds_119 G Q lv st M → G 119 lv st M) (h120 : ∀ lv st M, BX3_holds_120 G Q lv st M → G 120 lv st M) (h152 : ∀ lv st M, BX3_holds_152 G Q lv st M → G 152 lv st M) (h153 : ∀ lv st M, BX3_holds_153 G Q lv st M → G 153 lv st M) (h154 : ∀ lv st M, BX3_holds_154 G Q lv st M → G 154 lv st M) (h181 : ∀ lv st M, BX3_holds_181 G Q lv st M → G 181 lv st M) (h182 : ∀ lv st M, BX3_holds_182 G Q lv st M → G 182 lv st M) (h183 : ∀ lv st M, BX3_holds_183 G Q lv st M → G 183 lv st M) (h217 : ∀ lv st M, BX3_holds_217 G Q lv st M → G 217 lv st M) (h218 : ∀ lv st M, BX3_holds_218 G Q lv st M → G 218 lv st M) (h219 : ∀ lv st M, BX3_holds_219 G Q lv st M → G 219 lv st M) (h250 : ∀ lv st M, BX3_holds_250 G Q lv st M → G 250 lv st M) (h251 : ∀ lv st M, BX3_holds_251 G Q lv st M → G 251 lv st M) (h261 : ∀ lv st M, BX3_holds_261 G Q lv st M → G 261 lv st M) (h262 : ∀ lv st M, BX3_holds_262 G Q lv st M → G 262 lv st M) (h269 : ∀ lv st M, BX3_holds_269 G Q lv st M → G 269 lv st M) (h270 : ∀ lv st M, BX3_holds_270 G Q lv st M → G 270 lv st M) (h271 : ∀ lv st M, BX3_holds_271 G Q lv st M → G 271 lv st M) (as : List mV) (M : mM) (ho : ∀ v ∈ as, okV v) (hp : pre_X3_holds as M) (hQ : Q (fn_X3_holds as M).1 (fn_X3_holds as M).2) : G 0 (inL as ++ List.replicate (6 - (inL as).length) none) [] M := by
  obtain ⟨c, k, a, b, d, rfl, hG, ⟨B, hB, eB⟩, E, hE, eE⟩ := hp
  have hk : kof k = 8 := ho (.inr (.inr (8, k))) (by simp)
  have hl := lnU hk
  have hn := n5 hG.2
  have hin : ∀ x, ¬ hasI M x = 0 → vp_in x 5 := by
    intro x h
    obtain ⟨j, hj, rfl⟩ := hasI_1 hG.2 h
    exact vp_in_nI (by omega) (by decide)
  simp only [fn_X3_holds, hd] at hQ
  (apply h0; simp only [BX3_holds_0, s_mth, s_mab, s_at, s_iconst, s_lconst, s_iload, s_lload, s_aload, s_istore, s_lstore, s_astore, s_iinc, s_bin, s_binG, s_un, s_lbin, s_lbinG, s_lsh, s_lcmp, s_i2l, s_l2i, s_dup, s_dup2, s_pop, s_if, s_icmp, s_geti, s_getl, s_getr, s_puti, s_putz, s_putl, s_iald, s_zald, s_iast, s_zast, s_aaldS, s_aaldU, s_gets, s_tald, s_tsw, tsw, s_iret, s_zret, s_lret, s_aret, s_vret, s_callV, s_callS, c1, nl1, keepL, csum, pushR, inL, List.getD_cons_zero, List.getD_cons_succ, List.set_cons_zero, List.set_cons_succ, List.cons_append, List.nil_append, List.append_nil, List.replicate, List.length_cons, List.length_nil, List.take_succ_cons, List.take_zero, List.drop_succ_cons, List.drop_zero, List.reverse_cons, List.reverse_nil, true_and, and_true, forall_const, not_true_eq_false, not_false_eq_true, false_implies, true_implies, implies_true, one0, m10, Nat.reduceAdd, Nat.reduceSub, Nat.reduceLeDiff, Nat.zero_add, Nat.add_zero, fn_X10_waiting, fn_X3_holderBehind, fn_X3_turnsOrDrops, fn_X3_weighs, fn_X5_has, fn_X6_run])
  refine ⟨fun h => ?_, fun h => ?_, fun h => ?_, fun h => ?_, fun h => ?_, fun h => ?_, fun h => ?_, fun h => ?_⟩
  · rw [if_neg (by omega), if_neg (by omega), if_neg (by omega), if_neg (by omega), if_neg (by omega), if_neg (by omega)] at hQ
    (apply h271; simp only [BX3_holds_271, s_mth, s_mab, s_at, s_iconst, s_lconst, s_iload, s_lload, s_aload, s_istore, s_lstore, s_astore, s_iinc, s_bin, s_binG, s_un, s_lbin, s_lbinG, s_lsh, s_lcmp, s_i2l, s_l2i, s_dup, s_dup2, s_pop, s_if, s_icmp, s_geti, s_getl, s_getr, s_puti, s_putz, s_putl, s_iald, s_zald, s_iast, s_zast, s_aaldS, s_aaldU, s_gets, s_tald, s_tsw, tsw, s_iret, s_zret, s_lret, s_aret, s_vret, s_callV, s_callS, c1, nl1, keepL, csum, pushR, inL, List.getD_cons_zero, List.getD_cons_succ, List.set_cons_zero, List.set_cons_succ, List.cons_append, List.nil_append, List.append_nil, List.replicate, List.length_cons, List.length_nil, List.take_succ_cons, List.take_zero, List.drop_succ_cons, List.drop_zero, List.reverse_cons, List.reverse_nil, true_and, and_true, forall_const, not_true_eq_false, not_false_eq_true, false_implies, true_implies, implies_true, one0, m10, Nat.reduceAdd, Nat.reduceSub, Nat.reduceLeDiff, Nat.zero_add, Nat.add_zero, fn_X10_waiting, fn_X3_holderBehind, fn_X3_turnsOrDrops, fn_X3_weighs, fn_X5_has, fn_X6_run])
    exact ⟨by simp, hQ⟩
  · rw [if_pos h] at hQ
    have e10 : (10 : Int32) * b + d = nI (10 * B + E) := by rw [eB, eE, show (10 : Int32) = nI 10 from rfl, pk_mul, nI_add]
    simp only [hd1] at hQ
    have T : (if 0 < b then (1 : Int32) else if d ≤ 0 then 0 else 1) = 1 → G 80 [none, none, none, none, none, none] [] (ru M k (10 * b + d).toNatClampNeg).2 := by
      intro e
      rw [e] at hQ
      (apply h80; simp only [BX3_holds_80, s_mth, s_mab, s_at, s_iconst, s_lconst, s_iload, s_lload, s_aload, s_istore, s_lstore, s_astore, s_iinc, s_bin, s_binG, s_un, s_lbin, s_lbinG, s_lsh, s_lcmp, s_i2l, s_l2i, s_dup, s_dup2, s_pop, s_if, s_icmp, s_geti, s_getl, s_getr, s_puti, s_putz, s_putl, s_iald, s_zald, s_iast, s_zast, s_aaldS, s_aaldU, s_gets, s_tald, s_tsw, tsw, s_iret, s_zret, s_lret, s_aret, s_vret, s_callV, s_callS, c1, nl1, keepL, csum, pushR, inL, List.getD_cons_zero, List.getD_cons_succ, List.set_cons_zero, List.set_cons_succ, List.cons_append, List.nil_append, List.append_nil, List.replicate, List.length_cons, List.length_nil, List.take_succ_cons, List.take_zero, List.drop_succ_cons, List.drop_zero, List.reverse_cons, List.reverse_nil, true_and, and_true, forall_const, not_true_eq_false, not_false_eq_true, false_implies, true_implies, implies_true, one0, m10, Nat.reduceAdd, Nat.reduceSub, Nat.reduceLeDiff, Nat.zero_add, Nat.add_zero, fn_X10_waiting, fn_X3_holderBehind, fn_X3_turnsOrDrops, fn_X3_weighs, fn_X5_has, fn_X6_run])
      (apply h85; simp only [BX3_holds_85, s_mth, s_mab, s_at, s_iconst, s_lconst, s_iload, s_lload, s_aload, s_istore, s_lstore, s_astore, s_iinc, s_bin, s_binG, s_un, s_lbin, s_lbinG, s_lsh, s_lcmp, s_i2l, s_l2i, s_dup, s_dup2, s_pop, s_if, s_icmp, s_geti, s_getl, s_getr, s_puti, s_putz, s_putl, s_iald, s_zald, s_iast, s_zast, s_aaldS, s_aaldU, s_gets, s_tald, s_tsw, tsw, s_iret, s_zret, s_lret, s_aret, s_vret, s_callV, s_callS, c1, nl1, keepL, csum, pushR, inL, List.getD_cons_zero, List.getD_cons_succ, List.set_cons_zero, List.set_cons_succ, List.cons_append, List.nil_append, List.append_nil, List.replicate, List.length_cons, List.length_nil, List.take_succ_cons, List.take_zero, List.drop_succ_cons, List.drop_zero, List.reverse_cons, List.reverse_nil, true_and, and_true, forall_const, not_true_eq_false, not_false_eq_true, false_implies, true_implies, implies_true, one0, m10, Nat.reduceAdd, Nat.reduceSub, Nat.reduceLeDiff, Nat.zero_add, Nat.add_zero, fn_X10_waiting, fn_X3_holderBehind, fn_X3_turnsOrDrops, fn_X3_weighs, fn_X5_has, fn_X6_run])
      exact ⟨by simp, hQ⟩
    have F : (if 0 < b then (1 : Int32) else if d ≤ 0 then 0 else 1) = 0 → G 84 [none, none, none, none, none, none] [] (ru M k (10 * b + d).toNatClampNeg).2 := by
      intro e
      rw [e] at hQ
      (apply h84; simp only [BX3_holds_84, s_mth, s_mab, s_at, s_iconst, s_lconst, s_iload, s_lload, s_aload, s_istore, s_lstore, s_astore, s_iinc, s_bin, s_binG, s_un, s_lbin, s_lbinG, s_lsh, s_lcmp, s_i2l, s_l2i, s_dup, s_dup2, s_pop, s_if, s_icmp, s_geti, s_getl, s_getr, s_puti, s_putz, s_putl, s_iald, s_zald, s_iast, s_zast, s_aaldS, s_aaldU, s_gets, s_tald, s_tsw, tsw, s_iret, s_zret, s_lret, s_aret, s_vret, s_callV, s_callS, c1, nl1, keepL, csum, pushR, inL, List.getD_cons_zero, List.getD_cons_succ, List.set_cons_zero, List.set_cons_succ, List.cons_append, List.nil_append, List.append_nil, List.replicate, List.length_cons, List.length_nil, List.take_succ_cons, List.take_zero, List.drop_succ_cons, List.drop_zero, List.reverse_cons, List.reverse_nil, true_and, and_true, forall_const, not_true_eq_false, not_false_eq_true, false_implies, true_implies, implies_true, one0, m10, Nat.reduceAdd, Nat.reduceSub, Nat.reduceLeDiff, Nat.zero_add, Nat.add_zero, fn_X10_waiting, fn_X3_holderBehind, fn_X3_turnsOrDrops, fn_X3_weighs, fn_X5_has, fn_X6_run])
      (apply h85; simp only [BX3_holds_85, s_mth, s_mab, s_at, s_iconst, s_lconst, s_iload, s_lload, s_aload, s_istore, s_lstore, s_astore, s_iinc, s_bin, s_binG, s_un, s_lbin, s_lbinG, s_lsh, s_lcmp, s_i2l, s_l2i, s_dup, s_dup2, s_pop, s_if, s_icmp, s_geti, s_getl, s_getr, s_puti, s_putz, s_putl, s_iald, s_zald, s_iast, s_zast, s_aaldS, s_aaldU, s_gets, s_tald, s_tsw, tsw, s_iret, s_zret, s_lret, s_aret, s_vret, s_callV, s_callS, c1, nl1, keepL, csum, pushR, inL, List.getD_cons_zero, List.getD_cons_succ, List.set_cons_zero, List.set_cons_succ, List.cons_append, List.nil_append, List.append_nil, List.replicate, List.length_cons, List.length_nil, List.take_succ_cons, List.take_zero, List.drop_succ_cons, List.drop_zero, List.reverse_cons, List.reverse_nil, true_and, and_true, forall_const, not_true_eq_false, not_false_eq_true, false_implies, true_implies, implies_true, one0, m10, Nat.reduceAdd, Nat.reduceSub, Nat.reduceLeDiff, Nat.zero_add, Nat.add_zero, fn_X10_waiting, fn_X3_holderBehind, fn_X3_turnsOrDrops, fn_X3_weighs, fn_X5_has, fn_X6_run])
      exact ⟨by simp, hQ⟩
    (apply h52; simp only [BX3_holds_52, s_mth, s_mab, s_at, s_iconst, s_lconst, s_iload, s_lload, s_aload, s_istore, s_lstore, s_astore, s_iinc, s_bin, s_binG, s_un, s_lbin, s_lbinG, s_lsh, s_lcmp, s_i2l, s_l2i, s_dup, s_dup2, s_pop, s_if, s_icmp, s_geti, s_getl, s_getr, s_puti, s_putz, s_putl, s_iald, s_zald, s_iast, s_zast, s_aaldS, s_aaldU, s_gets, s_tald, s_tsw, tsw, s_iret, s_zret, s_lret, s_aret, s_vret, s_callV, s_callS, c1, nl1, keepL, csum, pushR, inL, List.getD_cons_zero, List.getD_cons_succ, List.set_cons_zero, List.set_cons_succ, List.cons_append, List.nil_append, List.append_nil, List.replicate, List.length_cons, List.length_nil, List.take_succ_cons, List.take_zero, List.drop_succ_cons, List.drop_zero, List.reverse_cons, List.reverse_nil, true_and, and_true, forall_const, not_true_eq_false, not_false_eq_true, false_implies, true_implies, implies_true, one0, m10, Nat.reduceAdd, Nat.reduceSub, Nat.reduceLeDiff, Nat.zero_add, Nat.add_zero, fn_X10_waiting, fn_X3_holderBehind, fn_X3_turnsOrDrops, fn_X3_weighs, fn_X5_has, fn_X6_run])
    refine ⟨⟨_, _, _, rfl, hG.2, 10 * B + E, by omega, e10⟩, fun h1 => ?_, fun h1 => ⟨fun h2 => ?_, fun h2 => ?_⟩⟩
    · exact T (by rw [if_pos h1])
    · exact F (by rw [if_neg h1, if_pos h2])
    · exact T (by rw [if_neg h1, if_neg h2])
  · rw [if_neg (by omega), if_pos (Or.inl (by omega))] at hQ
    simp only [hd2] at hQ
    have F : Q (some (.inl 0)) M → G 118 [none, none, none, none, none, none] [] M := by
      intro hQ
      (apply h118; simp only [BX3_holds_118, s_mth, s_mab, s_at, s_iconst, s_lconst, s_iload, s_lload, s_aload, s_istore, s_lstore, s_astore, s_iinc, s_bin, s_binG, s_un, s_lbin, s_lbinG, s_lsh, s_lcmp, s_i2l, s_l2i, s_dup, s_dup2, s_pop, s_if, s_icmp, s_geti, s_getl, s_getr, s_puti, s_putz, s_putl, s_iald, s_zald, s_iast, s_zast, s_aaldS, s_aaldU, s_gets, s_tald, s_tsw, tsw, s_iret, s_zret, s_lret, s_aret, s_vret, s_callV, s_callS, c1, nl1, keepL, csum, pushR, inL, List.getD_cons_zero, List.getD_cons_succ, List.set_cons_zero, List.set_cons_succ, List.cons_append, List.nil_append, List.append_nil, List.replicate, List.length_cons, List.length_nil, List.take_succ_cons, List.take_zero, List.drop_succ_cons, List.drop_zero, List.reverse_cons, List.reverse_nil, true_and, and_true, forall_const, not_true_eq_false, not_false_eq_true, false_implies, true_implies, implies_true, one0, m10, Nat.reduceAdd, Nat.reduceSub, Nat.reduceLeDiff, Nat.zero_add, Nat.add_zero, fn_X10_waiting, fn_X3_holderBehind, fn_X3_turnsOrDrops, fn_X3_weighs, fn_X5_has, fn_X6_run])
      (apply h119; simp only [BX3_holds_119, s_mth, s_mab, s_at, s_iconst, s_lconst, s_iload, s_lload, s_aload, s_istore, s_lstore, s_astore, s_iinc, s_bin, s_binG, s_un, s_lbin, s_lbinG, s_lsh, s_lcmp, s_i2l, s_l2i, s_dup, s_dup2, s_pop, s_if, s_icmp, s_geti, s_getl, s_getr, s_puti, s_putz, s_putl, s_iald, s_zald, s_iast, s_zast, s_aaldS, s_aaldU, s_gets, s_tald, s_tsw, tsw, s_iret, s_zret, s_lret, s_aret, s_vret, s_callV, s_callS, c1, nl1, keepL, csum, pushR, inL, List.getD_cons_zero, List.getD_cons_succ, List.set_cons_zero, List.set_cons_succ, List.cons_append, List.nil_append, List.append_nil, List.replicate, List.length_cons, List.length_nil, List.take_succ_cons, List.take_zero, List.drop_succ_cons, List.drop_zero, List.reverse_cons, List.reverse_nil, true_and, and_true, forall_const, not_true_eq_false, not_false_eq_true, false_implies, true_implies, implies_true, one0, m10, Nat.reduceAdd, Nat.reduceSub, Nat.reduceLeDiff, Nat.zero_add, Nat.add_zero, fn_X10_waiting, fn_X3_holderBehind, fn_X3_turnsOrDrops, fn_X3_weighs, fn_X5_has, fn_X6_run])
      exact ⟨by simp, hQ⟩
    (apply h86; simp only [BX3_holds_86, s_mth, s_mab, s_at, s_iconst, s_lconst, s_iload, s_lload, s_aload, s_istore, s_lstore, s_astore, s_iinc, s_bin, s_binG, s_un, s_lbin, s_lbinG, s_lsh, s_lcmp, s_i2l, s_l2i, s_dup, s_dup2, s_pop, s_if, s_icmp, s_geti, s_getl, s_getr, s_puti, s_putz, s_putl, s_iald, s_zald, s_iast, s_zast, s_aaldS, s_aaldU, s_gets, s_tald, s_tsw, tsw, s_iret, s_zret, s_lret, s_aret, s_vret, s_callV, s_callS, c1, nl1, keepL, csum, pushR, inL, List.getD_cons_zero, List.getD_cons_succ, List.set_cons_zero, List.set_cons_succ, List.cons_append, List.nil_append, List.append_nil, List.replicate, List.length_cons, List.length_nil, List.take_succ_cons, List.take_zero, List.drop_succ_cons, List.drop_zero, List.reverse_cons, List.reverse_nil, true_and, and_true, forall_const, not_true_eq_false, not_false_eq_true, false_implies, true_implies, implies_true, one0, m10, Nat.reduceAdd, Nat.reduceSub, Nat.reduceLeDiff, Nat.zero_add, Nat.add_zero, fn_X10_waiting, fn_X3_holderBehind, fn_X3_turnsOrDrops, fn_X3_weighs, fn_X5_has, fn_X6_run])
    simp only [hl]
    refine ⟨fun h1 => ⟨⟨_, _, rfl⟩, fun h2 => ?_, fun h2 => ⟨hin _ h2, ⟨_, _, rfl⟩, ?_⟩⟩, fun h1 => ?_⟩
    · rw [if_pos h1, if_pos h2] at hQ; exact F hQ
    · rw [if_pos h1, if_neg h2] at hQ
      (apply h119; simp only [BX3_holds_119, s_mth, s_mab, s_at, s_iconst, s_lconst, s_iload, s_lload, s_aload, s_istore, s_lstore, s_astore, s_iinc, s_bin, s_binG, s_un, s_lbin, s_lbinG, s_lsh, s_lcmp, s_i2l, s_l2i, s_dup, s_dup2, s_pop, s_if, s_icmp, s_geti, s_getl, s_getr, s_puti, s_putz, s_putl, s_iald, s_zald, s_iast, s_zast, s_aaldS, s_aaldU, s_gets, s_tald, s_tsw, tsw, s_iret, s_zret, s_lret, s_aret, s_vret, s_callV, s_callS, c1, nl1, keepL, csum, pushR, inL, List.getD_cons_zero, List.getD_cons_succ, List.set_cons_zero, List.set_cons_succ, List.cons_append, List.nil_append, List.append_nil, List.replicate, List.length_cons, List.length_nil, List.take_succ_cons, List.take_zero, List.drop_succ_cons, List.drop_zero, List.reverse_cons, List.reverse_nil, true_and, and_true, forall_const, not_true_eq_false, not_false_eq_true, false_implies, true_implies, implies_true, one0, m10, Nat.reduceAdd, Nat.reduceSub, Nat.reduceLeDiff, Nat.zero_add, Nat.add_zero, fn_X10_waiting, fn_X3_holderBehind, fn_X3_turnsOrDrops, fn_X3_weighs, fn_X5_has, fn_X6_run])
      exact ⟨by simp, hQ⟩
    · rw [if_neg h1] at hQ; exact F hQ
  · rw [if_neg (by omega), if_pos (Or.inr (by omega))] at hQ
    simp only [hd2] at hQ
    have F : Q (some (.inl 0)) M → G 118 [none, none, none, none, none, none] [] M := by
      intro hQ
      (apply h118; simp only [BX3_holds_118, s_mth, s_mab, s_at, s_iconst, s_lconst, s_iload, s_lload, s_aload, s_istore, s_lstore, s_astore, s_iinc, s_bin, s_binG, s_un, s_lbin, s_lbinG, s_lsh, s_lcmp, s_i2l, s_l2i, s_dup, s_dup2, s_pop, s_if, s_icmp, s_geti, s_getl, s_getr, s_puti, s_putz, s_putl, s_iald, s_zald, s_iast, s_zast, s_aaldS, s_aaldU, s_gets, s_tald, s_tsw, tsw, s_iret, s_zret, s_lret, s_aret, s_vret, s_callV, s_callS, c1, nl1, keepL, csum, pushR, inL, List.getD_cons_zero, List.getD_cons_succ, List.set_cons_zero, List.set_cons_succ, List.cons_append, List.nil_append, List.append_nil, List.replicate, List.length_cons, List.length_nil, List.take_succ_cons, List.take_zero, List.drop_succ_cons, List.drop_zero, List.reverse_cons, List.reverse_nil, true_and, and_true, forall_const, not_true_eq_false, not_false_eq_true, false_implies, true_implies, implies_true, one0, m10, Nat.reduceAdd, Nat.reduceSub, Nat.reduceLeDiff, Nat.zero_add, Nat.add_zero, fn_X10_waiting, fn_X3_holderBehind, fn_X3_turnsOrDrops, fn_X3_weighs, fn_X5_has, fn_X6_run])
      (apply h119; simp only [BX3_holds_119, s_mth, s_mab, s_at, s_iconst, s_lconst, s_iload, s_lload, s_aload, s_istore, s_lstore, s_astore, s_iinc, s_bin, s_binG, s_un, s_lbin, s_lbinG, s_lsh, s_lcmp, s_i2l, s_l2i, s_dup, s_dup2, s_pop, s_if, s_icmp, s_geti, s_getl, s_getr, s_puti, s_putz, s_putl, s_iald, s_zald, s_iast, s_zast, s_aaldS, s_aaldU, s_gets, s_tald, s_tsw, tsw, s_iret, s_zret, s_lret, s_aret, s_vret, s_callV, s_callS, c1, nl1, keepL, csum, pushR, inL, List.getD_cons_zero, List.getD_cons_succ, List.set_cons_zero, List.set_cons_succ, List.cons_append, List.nil_append, List.append_nil, List.replicate, List.length_cons, List.length_nil, List.take_succ_cons, List.take_zero, List.drop_succ_cons, List.drop_zero, List.reverse_cons, List.reverse_nil, true_and, and_true, forall_const, not_true_eq_false, not_false_eq_true, false_implies, true_implies, implies_true, one0, m10, Nat.reduceAdd, Nat.reduceSub, Nat.reduceLeDiff, Nat.zero_add, Nat.add_zero, fn_X10_waiting, fn_X3_holderBehind, fn_X3_turnsOrDrops, fn_X3_weighs, fn_X5_has, fn_X6_run])
      exact ⟨by simp, hQ⟩
    (apply h86; simp only [BX3_holds_86, s_mth, s_mab, s_at, s_iconst, s_lconst, s_iload, s_lload, s_aload, s_istore, s_lstore, s_astore, s_iinc, s_bin, s_binG, s_un, s_lbin, s_lbinG, s_lsh, s_lcmp, s_i2l, s_l2i, s_dup, s_dup2, s_pop, s_if, s_icmp, s_geti, s_getl, s_getr, s_puti, s_putz, s_putl, s_iald, s_zald, s_iast, s_zast, s_aaldS, s_aaldU, s_gets, s_tald, s_tsw, tsw, s_iret, s_zret, s_lret, s_aret, s_vret, s_callV, s_callS, c1, nl1, keepL, csum, pushR, inL, List.getD_cons_zero, List.getD_cons_succ, List.set_cons_zero, List.set_cons_succ, List.cons_append, List.nil_append, List.append_nil, List.replicate, List.length_cons, List.length_nil, List.take_succ_cons, List.take_zero, List.drop_succ_cons, List.drop_zero, List.reverse_cons, List.reverse_nil, true_and, and_true, forall_const, not_true_eq_false, not_false_eq_true, false_implies, true_implies, implies_true, one0, m10, Nat.reduceAdd, Nat.reduceSub, Nat.reduceLeDiff, Nat.zero_add, Nat.add_zero, fn_X10_waiting, fn_X3_holderBehind, fn_X3_turnsOrDrops, fn_X3_weighs, fn_X5_has, fn_X6_run])
    simp only [hl]
    refine ⟨fun h1 => ⟨⟨_, _, rfl⟩, fun h2 => ?_, fun h2 => ⟨hin _ h2, ⟨_, _, rfl⟩, ?_⟩⟩, fun h1 => ?_⟩
    · rw [if_pos h1, if_pos h2] at hQ; exact F hQ
    · rw [if_pos h1, if_neg h2] at hQ
      (apply h119; simp only [BX3_holds_119, s_mth, s_mab, s_at, s_iconst, s_lconst, s_iload, s_lload, s_aload, s_istore, s_lstore, s_astore, s_iinc, s_bin, s_binG, s_un, s_lbin, s_lbinG, s_lsh, s_lcmp, s_i2l, s_l2i, s_dup, s_dup2, s_pop, s_if, s_icmp, s_geti, s_getl, s_getr, s_puti, s_putz, s_putl, s_iald, s_zald, s_iast, s_zast, s_aaldS, s_aaldU, s_gets, s_tald, s_tsw, tsw, s_iret, s_zret, s_lret, s_aret, s_vret, s_callV, s_callS, c1, nl1, keepL, csum, pushR, inL, List.getD_cons_zero, List.getD_cons_succ, List.set_cons_zero, List.set_cons_succ, List.cons_append, List.nil_append, List.append_nil, List.replicate, List.length_cons, List.length_nil, List.take_succ_cons, List.take_zero, List.drop_succ_cons, List.drop_zero, List.reverse_cons, List.reverse_nil, true_and, and_true, forall_const, not_true_eq_false, not_false_eq_true, false_implies, true_implies, implies_true, one0, m10, Nat.reduceAdd, Nat.reduceSub, Nat.reduceLeDiff, Nat.zero_add, Nat.add_zero, fn_X10_waiting, fn_X3_holderBehind, fn_X3_turnsOrDrops, fn_X3_weighs, fn_X5_has, fn_X6_run])
      exact ⟨by simp, hQ⟩
    · rw [if_neg h1] at hQ; exact F hQ
  · rw [if_neg (by omega), if_neg (by omega), if_pos (by omega)] at hQ
    simp only [hd4] at hQ
    have F : Q (some (.inl 0)) M → G 152 [none, none, none, none, none, none] [] M := by
      intro hQ
      (apply h152; simp only [BX3_holds_152, s_mth, s_mab, s_at, s_iconst, s_lconst, s_iload, s_lload, s_aload, s_istore, s_lstore, s_astore, s_iinc, s_bin, s_binG, s_un, s_lbin, s_lbinG, s_lsh, s_lcmp, s_i2l, s_l2i, s_dup, s_dup2, s_pop, s_if, s_icmp, s_geti, s_getl, s_getr, s_puti, s_putz, s_putl, s_iald, s_zald, s_iast, s_zast, s_aaldS, s_aaldU, s_gets, s_tald, s_tsw, tsw, s_iret, s_zret, s_lret, s_aret, s_vret, s_callV, s_callS, c1, nl1, keepL, csum, pushR, inL, List.getD_cons_zero, List.getD_cons_succ, List.set_cons_zero, List.set_cons_succ, List.cons_append, List.nil_append, List.append_nil, List.replicate, List.length_cons, List.length_nil, List.take_succ_cons, List.take_zero, List.drop_succ_cons, List.drop_zero, List.reverse_cons, List.reverse_nil, true_and, and_true, forall_const, not_true_eq_false, not_false_eq_true, false_implies, true_implies, implies_true, one0, m10, Nat.reduceAdd, Nat.reduceSub, Nat.reduceLeDiff, Nat.zero_add, Nat.add_zero, fn_X10_waiting, fn_X3_holderBehind, fn_X3_turnsOrDrops, fn_X3_weighs, fn_X5_has, fn_X6_run])
      (apply h153; simp only [BX3_holds_153, s_mth, s_mab, s_at, s_iconst, s_lconst, s_iload, s_lload, s_aload, s_istore, s_lstore, s_astore, s_iinc, s_bin, s_binG, s_un, s_lbin, s_lbinG, s_lsh, s_lcmp, s_i2l, s_l2i, s_dup, s_dup2, s_pop, s_if, s_icmp, s_geti, s_getl, s_getr, s_puti, s_putz, s_putl, s_iald, s_zald, s_iast, s_zast, s_aaldS, s_aaldU, s_gets, s_tald, s_tsw, tsw, s_iret, s_zret, s_lret, s_aret, s_vret, s_callV, s_callS, c1, nl1, keepL, csum, pushR, inL, List.getD_cons_zero, List.getD_cons_succ, List.set_cons_zero, List.set_cons_succ, List.cons_append, List.nil_append, List.append_nil, List.replicate, List.length_cons, List.length_nil, List.take_succ_cons, List.take_zero, List.drop_succ_cons, List.drop_zero, List.reverse_cons, List.reverse_nil, true_and, and_true, forall_const, not_true_eq_false, not_false_eq_true, false_implies, true_implies, implies_true, one0, m10, Nat.reduceAdd, Nat.reduceSub, Nat.reduceLeDiff, Nat.zero_add, Nat.add_zero, fn_X10_waiting, fn_X3_holderBehind, fn_X3_turnsOrDrops, fn_X3_weighs, fn_X5_has, fn_X6_run])
      exact ⟨by simp, hQ⟩
    (apply h120; simp only [BX3_holds_120, s_mth, s_mab, s_at, s_iconst, s_lconst, s_iload, s_lload, s_aload, s_istore, s_lstore, s_astore, s_iinc, s_bin, s_binG, s_un, s_lbin, s_lbinG, s_lsh, s_lcmp, s_i2l, s_l2i, s_dup, s_dup2, s_pop, s_if, s_icmp, s_geti, s_getl, s_getr, s_puti, s_putz, s_putl, s_iald, s_zald, s_iast, s_zast, s_aaldS, s_aaldU, s_gets, s_tald, s_tsw, tsw, s_iret, s_zret, s_lret, s_aret, s_vret, s_callV, s_callS, c1, nl1, keepL, csum, pushR, inL, List.getD_cons_zero, List.getD_cons_succ, List.set_cons_zero, List.set_cons_succ, List.cons_append, List.nil_append, List.append_nil, List.replicate, List.length_cons, List.length_nil, List.take_succ_cons, List.take_zero, List.drop_succ_cons, List.drop_zero, List.reverse_cons, List.reverse_nil, true_and, and_true, forall_const, not_true_eq_false, not_false_eq_true, false_implies, true_implies, implies_true, one0, m10, Nat.reduceAdd, Nat.reduceSub, Nat.reduceLeDiff, Nat.zero_add, Nat.add_zero, fn_X10_waiting, fn_X3_holderBehind, fn_X3_turnsOrDrops, fn_X3_weighs, fn_X5_has, fn_X6_run])
    simp only [hl]
    refine ⟨⟨_, _, rfl⟩, fun h1 => ?_, fun h1 => ⟨fun h2 => ?_, fun h2 => ⟨hin _ h1, ⟨_, _, rfl⟩, ?_⟩⟩⟩
    · rw [if_pos h1] at hQ; exact F hQ
    · rw [if_neg h1, if_pos h2] at hQ; exact F hQ
    · rw [if_neg h1, if_neg h2] at hQ
      (apply h153; simp only [BX3_holds_153, s_mth, s_mab, s_at, s_iconst, s_lconst, s_iload, s_lload, s_aload, s_istore, s_lstore, s_astore, s_iinc, s_bin, s_binG, s_un, s_lbin, s_lbinG, s_lsh, s_lcmp, s_i2l, s_l2i, s_dup, s_dup2, s_pop, s_if, s_icmp, s_geti, s_getl, s_getr, s_puti, s_putz, s_putl, s_iald, s_zald, s_iast, s_zast, s_aaldS, s_aaldU, s_gets, s_tald, s_tsw, tsw, s_iret, s_zret, s_lret, s_aret, s_vret, s_callV, s_callS, c1, nl1, keepL, csum, pushR, inL, List.getD_cons_zero, List.getD_cons_succ, List.set_cons_zero, List.set_cons_succ, List.cons_append, List.nil_append, List.append_nil, List.replicate, List.length_cons, List.length_nil, List.take_succ_cons, List.take_zero, List.drop_succ_cons, List.drop_zero, List.reverse_cons, List.reverse_nil, true_and, and_true, forall_const, not_true_eq_false, not_false_eq_true, false_implies, true_implies, implies_true, one0, m10, Nat.reduceAdd, Nat.reduceSub, Nat.reduceLeDiff, Nat.zero_add, Nat.add_zero, fn_X10_waiting, fn_X3_holderBehind, fn_X3_turnsOrDrops, fn_X3_weighs, fn_X5_has, fn_X6_run])
      exact ⟨by simp, hQ⟩
  · rw [if_neg (by omega), if_neg (by omega), if_neg (by omega), if_pos (by omega)] at hQ
    simp only [hd5] at hQ
    have F : Q (some (.inl 0)) M → G 181 [none, none, none, none, none, none] [] M := by
      intro hQ
      (apply h181; simp only [BX3_holds_181, s_mth, s_mab, s_at, s_iconst, s_lconst, s_iload, s_lload, s_aload, s_istore, s_lstore, s_astore, s_iinc, s_bin, s_binG, s_un, s_lbin, s_lbinG, s_lsh, s_lcmp, s_i2l, s_l2i, s_dup, s_dup2, s_pop, s_if, s_icmp, s_geti, s_getl, s_getr, s_puti, s_putz, s_putl, s_iald, s_zald, s_iast, s_zast, s_aaldS, s_aaldU, s_gets, s_tald, s_tsw, tsw, s_iret, s_zret, s_lret, s_aret, s_vret, s_callV, s_callS, c1, nl1, keepL, csum, pushR, inL, List.getD_cons_zero, List.getD_cons_succ, List.set_cons_zero, List.set_cons_succ, List.cons_append, List.nil_append, List.append_nil, List.replicate, List.length_cons, List.length_nil, List.take_succ_cons, List.take_zero, List.drop_succ_cons, List.drop_zero, List.reverse_cons, List.reverse_nil, true_and, and_true, forall_const, not_true_eq_false, not_false_eq_true, false_implies, true_implies, implies_true, one0, m10, Nat.reduceAdd, Nat.reduceSub, Nat.reduceLeDiff, Nat.zero_add, Nat.add_zero, fn_X10_waiting, fn_X3_holderBehind, fn_X3_turnsOrDrops, fn_X3_weighs, fn_X5_has, fn_X6_run])
      (apply h182; simp only [BX3_holds_182, s_mth, s_mab, s_at, s_iconst, s_lconst, s_iload, s_lload, s_aload, s_istore, s_lstore, s_astore, s_iinc, s_bin, s_binG, s_un, s_lbin, s_lbinG, s_lsh, s_lcmp, s_i2l, s_l2i, s_dup, s_dup2, s_pop, s_if, s_icmp, s_geti, s_getl, s_getr, s_puti, s_putz, s_putl, s_iald, s_zald, s_iast, s_zast, s_aaldS, s_aaldU, s_gets, s_tald, s_tsw, tsw, s_iret, s_zret, s_lret, s_aret, s_vret, s_callV, s_callS, c1, nl1, keepL, csum, pushR, inL, List.getD_cons_zero, List.getD_cons_succ, List.set_cons_zero, List.set_cons_succ, List.cons_append, List.nil_append, List.append_nil, List.replicate, List.length_cons, List.length_nil, List.take_succ_cons, List.take_zero, List.drop_succ_cons, List.drop_zero, List.reverse_cons, List.reverse_nil, true_and, and_true, forall_const, not_true_eq_false, not_false_eq_true, false_implies, true_implies, implies_true, one0, m10, Nat.reduceAdd, Nat.reduceSub, Nat.reduceLeDiff, Nat.zero_add, Nat.add_zero, fn_X10_waiting, fn_X3_holderBehind, fn_X3_turnsOrDrops, fn_X3_weighs, fn_X5_has, fn_X6_run])
      exact ⟨by simp, hQ⟩
    (apply h154; simp only [BX3_holds_154, s_mth, s_mab, s_at, s_iconst, s_lconst, s_iload, s_lload, s_aload, s_istore, s_lstore, s_astore, s_iinc, s_bin, s_binG, s_un, s_lbin, s_lbinG, s_lsh, s_lcmp, s_i2l, s_l2i, s_dup, s_dup2, s_pop, s_if, s_icmp, s_geti, s_getl, s_getr, s_puti, s_putz, s_putl, s_iald, s_zald, s_iast, s_zast, s_aaldS, s_aaldU, s_gets, s_tald, s_tsw, tsw, s_iret, s_zret, s_lret, s_aret, s_vret, s_callV, s_callS, c1, nl1, keepL, csum, pushR, inL, List.getD_cons_zero, List.getD_cons_succ, List.set_cons_zero, List.set_cons_succ, List.cons_append, List.nil_append, List.append_nil, List.replicate, List.length_cons, List.length_nil, List.take_succ_cons, List.take_zero, List.drop_succ_cons, List.drop_zero, List.reverse_cons, List.reverse_nil, true_and, and_true, forall_const, not_true_eq_false, not_false_eq_true, false_implies, true_implies, implies_true, one0, m10, Nat.reduceAdd, Nat.reduceSub, Nat.reduceLeDiff, Nat.zero_add, Nat.add_zero, fn_X10_waiting, fn_X3_holderBehind, fn_X3_turnsOrDrops, fn_X3_weighs, fn_X5_has, fn_X6_run])
    simp only [hl]
    refine ⟨⟨_, _, rfl⟩, fun h1 => ?_, fun h1 => ⟨hin _ h1, fun h2 => ?_, fun h2 => ?_⟩⟩
    · rw [if_pos h1] at hQ; exact F hQ
    · rw [if_neg h1, if_pos h2] at hQ
      (apply h182; simp only [BX3_holds_182, s_mth, s_mab, s_at, s_iconst, s_lconst, s_iload, s_lload, s_aload, s_istore, s_lstore, s_astore, s_iinc, s_bin, s_binG, s_un, s_lbin, s_lbinG, s_lsh, s_lcmp, s_i2l, s_l2i, s_dup, s_dup2, s_pop, s_if, s_icmp, s_geti, s_getl, s_getr, s_puti, s_putz, s_putl, s_iald, s_zald, s_iast, s_zast, s_aaldS, s_aaldU, s_gets, s_tald, s_tsw, tsw, s_iret, s_zret, s_lret, s_aret, s_vret, s_callV, s_callS, c1, nl1, keepL, csum, pushR, inL, List.getD_cons_zero, List.getD_cons_succ, List.set_cons_zero, List.set_cons_succ, List.cons_append, List.nil_append, List.append_nil, List.replicate, List.length_cons, List.length_nil, List.take_succ_cons, List.take_zero, List.drop_succ_cons, List.drop_zero, List.reverse_cons, List.reverse_nil, true_and, and_true, forall_const, not_true_eq_false, not_false_eq_true, false_implies, true_implies, implies_true, one0, m10, Nat.reduceAdd, Nat.reduceSub, Nat.reduceLeDiff, Nat.zero_add, Nat.add_zero, fn_X10_waiting, fn_X3_holderBehind, fn_X3_turnsOrDrops, fn_X3_weighs, fn_X5_has, fn_X6_run])
      exact ⟨by simp, hQ⟩
    · rw [if_neg h1, if_neg h2] at hQ; exact F hQ
  · rw [if_neg (by omega), if_neg (by omega), if_neg (by omega), if_neg (by omega), if_pos (by omega)] at hQ
    simp only [hd6] at hQ
    have F : ∀ M, Q (some (.inl 0)) M → G 217 [none, none, none, none, none, none] [] M := by
      intro M hQ
      (apply h217; simp only [BX3_holds_217, s_mth, s_mab, s_at, s_iconst, s_lconst, s_iload, s_lload, s_aload, s_istore, s_lstore, s_astore, s_iinc, s_bin, s_binG, s_un, s_lbin, s_lbinG, s_lsh, s_lcmp, s_i2l, s_l2i, s_dup, s_dup2, s_pop, s_if, s_icmp, s_geti, s_getl, s_getr, s_puti, s_putz, s_putl, s_iald, s_zald, s_iast, s_zast, s_aaldS, s_aaldU, s_gets, s_tald, s_tsw, tsw, s_iret, s_zret, s_lret, s_aret, s_vret, s_callV, s_callS, c1, nl1, keepL, csum, pushR, inL, List.getD_cons_zero, List.getD_cons_succ, List.set_cons_zero, List.set_cons_succ, List.cons_append, List.nil_append, List.append_nil, List.replicate, List.length_cons, List.length_nil, List.take_succ_cons, List.take_zero, List.drop_succ_cons, List.drop_zero, List.reverse_cons, List.reverse_nil, true_and, and_true, forall_const, not_true_eq_false, not_false_eq_true, false_implies, true_implies, implies_true, one0, m10, Nat.reduceAdd, Nat.reduceSub, Nat.reduceLeDiff, Nat.zero_add, Nat.add_zero, fn_X10_waiting, fn_X3_holderBehind, fn_X3_turnsOrDrops, fn_X3_weighs, fn_X5_has, fn_X6_run])
      (apply h218; simp only [BX3_holds_218, s_mth, s_mab, s_at, s_iconst, s_lconst, s_iload, s_lload, s_aload, s_istore, s_lstore, s_astore, s_iinc, s_bin, s_binG, s_un, s_lbin, s_lbinG, s_lsh, s_lcmp, s_i2l, s_l2i, s_dup, s_dup2, s_pop, s_if, s_icmp, s_geti, s_getl, s_getr, s_puti, s_putz, s_putl, s_iald, s_zald, s_iast, s_zast, s_aaldS, s_aaldU, s_gets, s_tald, s_tsw, tsw, s_iret, s_zret, s_lret, s_aret, s_vret, s_callV, s_callS, c1, nl1, keepL, csum, pushR, inL, List.getD_cons_zero, List.getD_cons_succ, List.set_cons_zero, List.set_cons_succ, List.cons_append, List.nil_append, List.append_nil, List.replicate, List.length_cons, List.length_nil, List.take_succ_cons, List.take_zero, List.drop_succ_cons, List.drop_zero, List.reverse_cons, List.reverse_nil, true_and, and_true, forall_const, not_true_eq_false, not_false_eq_true, false_implies, true_implies, implies_true, one0, m10, Nat.reduceAdd, Nat.reduceSub, Nat.reduceLeDiff, Nat.zero_add, Nat.add_zero, fn_X10_waiting, fn_X3_holderBehind, fn_X3_turnsOrDrops, fn_X3_weighs, fn_X5_has, fn_X6_run])
      exact ⟨by simp, hQ⟩
    (apply h183; simp only [BX3_holds_183, s_mth, s_mab, s_at, s_iconst, s_lconst, s_iload, s_lload, s_aload, s_istore, s_lstore, s_astore, s_iinc, s_bin, s_binG, s_un, s_lbin, s_lbinG, s_lsh, s_lcmp, s_i2l, s_l2i, s_dup, s_dup2, s_pop, s_if, s_icmp, s_geti, s_getl, s_getr, s_puti, s_putz, s_putl, s_iald, s_zald, s_iast, s_zast, s_aaldS, s_aaldU, s_gets, s_tald, s_tsw, tsw, s_iret, s_zret, s_lret, s_aret, s_vret, s_callV, s_callS, c1, nl1, keepL, csum, pushR, inL, List.getD_cons_zero, List.getD_cons_succ, List.set_cons_zero, List.set_cons_succ, List.cons_append, List.nil_append, List.append_nil, List.replicate, List.length_cons, List.length_nil, List.take_succ_cons, List.take_zero, List.drop_succ_cons, List.drop_zero, List.reverse_cons, List.reverse_nil, true_and, and_true, forall_const, not_true_eq_false, not_false_eq_true, false_implies, true_implies, implies_true, one0, m10, Nat.reduceAdd, Nat.reduceSub, Nat.reduceLeDiff, Nat.zero_add, Nat.add_zero, fn_X10_waiting, fn_X3_holderBehind, fn_X3_turnsOrDrops, fn_X3_weighs, fn_X5_has, fn_X6_run])
    refine ⟨⟨_, _, rfl⟩, fun h1 => ?_, fun h1 => ⟨fun h2 => ?_, fun h2 => ⟨⟨_, _, _, rfl, hG⟩, fun h3 => ?_, fun h3 => ?_⟩⟩⟩
    · rw [if_pos h1] at hQ; exact F _ hQ
    · rw [if_neg h1, if_pos h2] at hQ; exact F _ hQ
    · rw [if_neg h1, if_neg h2, if_pos h3] at hQ
      (apply h218; simp only [BX3_holds_218, s_mth, s_mab, s_at, s_iconst, s_lconst, s_iload, s_lload, s_aload, s_istore, s_lstore, s_astore, s_iinc, s_bin, s_binG, s_un, s_lbin, s_lbinG, s_lsh, s_lcmp, s_i2l, s_l2i, s_dup, s_dup2, s_pop, s_if, s_icmp, s_geti, s_getl, s_getr, s_puti, s_putz, s_putl, s_iald, s_zald, s_iast, s_zast, s_aaldS, s_aaldU, s_gets, s_tald, s_tsw, tsw, s_iret, s_zret, s_lret, s_aret, s_vret, s_callV, s_callS, c1, nl1, keepL, csum, pushR, inL, List.getD_cons_zero, List.getD_cons_succ, List.set_cons_zero, List.set_cons_succ, List.cons_append, List.nil_append, List.append_nil, List.replicate, List.length_cons, List.length_nil, List.take_succ_cons, List.take_zero, List.drop_succ_cons, List.drop_zero, List.reverse_cons, List.reverse_nil, true_and, and_true, forall_const, not_true_eq_false, not_false_eq_true, false_implies, true_implies, implies_true, one0, m10, Nat.reduceAdd, Nat.reduceSub, Nat.reduceLeDiff, Nat.zero_add, Nat.add_zero, fn_X10_waiting, fn_X3_holderBehind, fn_X3_turnsOrDrops, fn_X3_weighs, fn_X5_has, fn_X6_run])
      exact ⟨by simp, hQ⟩
    · rw [if_neg h1, if_neg h2, if_neg h3] at hQ; exact F _ hQ
  · rw [if_neg (by omega), if_neg (by omega), if_neg (by omega), if_neg (by omega), if_neg (by omega), if_pos (by omega)] at hQ
    simp only [hd7] at hQ
    have F : Q (some (.inl 0)) M → G 269 [none, none, none, none, none, none] [] M := by
      intro hQ
      (apply h269; simp only [BX3_holds_269, s_mth, s_mab, s_at, s_iconst, s_lconst, s_iload, s_lload, s_aload, s_istore, s_lstore, s_astore, s_iinc, s_bin, s_binG, s_un, s_lbin, s_lbinG, s_lsh, s_lcmp, s_i2l, s_l2i, s_dup, s_dup2, s_pop, s_if, s_icmp, s_geti, s_getl, s_getr, s_puti, s_putz, s_putl, s_iald, s_zald, s_iast, s_zast, s_aaldS, s_aaldU, s_gets, s_tald, s_tsw, tsw, s_iret, s_zret, s_lret, s_aret, s_vret, s_callV, s_callS, c1, nl1, keepL, csum, pushR, inL, List.getD_cons_zero, List.getD_cons_succ, List.set_cons_zero, List.set_cons_succ, List.cons_append, List.nil_append, List.append_nil, List.replicate, List.length_cons, List.length_nil, List.take_succ_cons, List.take_zero, List.drop_succ_cons, List.drop_zero, List.reverse_cons, List.reverse_nil, true_and, and_true, forall_const, not_true_eq_false, not_false_eq_true, false_implies, true_implies, implies_true, one0, m10, Nat.reduceAdd, Nat.reduceSub, Nat.reduceLeDiff, Nat.zero_add, Nat.add_zero, fn_X10_waiting, fn_X3_holderBehind, fn_X3_turnsOrDrops, fn_X3_weighs, fn_X5_has, fn_X6_run])
      (apply h270; simp only [BX3_holds_270, s_mth, s_mab, s_at, s_iconst, s_lconst, s_iload, s_lload, s_aload, s_istore, s_lstore, s_astore, s_iinc, s_bin, s_binG, s_un, s_lbin, s_lbinG, s_lsh, s_lcmp, s_i2l, s_l2i, s_dup, s_dup2, s_pop, s_if, s_icmp, s_geti, s_getl, s_getr, s_puti, s_putz, s_putl, s_iald, s_zald, s_iast, s_zast, s_aaldS, s_aaldU, s_gets, s_tald, s_tsw, tsw, s_iret, s_zret, s_lret, s_aret, s_vret, s_callV, s_callS, c1, nl1, keepL, csum, pushR, inL, List.getD_cons_zero, List.getD_cons_succ, List.set_cons_zero, List.set_cons_succ, List.cons_append, List.nil_append, List.append_nil, List.replicate, List.length_cons, List.length_nil, List.take_succ_cons, List.take_zero, List.drop_succ_cons, List.drop_zero, List.reverse_cons, List.reverse_nil, true_and, and_true, forall_const, not_true_eq_false, not_false_eq_true, false_implies, true_implies, implies_true, one0, m10, Nat.reduceAdd, Nat.reduceSub, Nat.reduceLeDiff, Nat.zero_add, Nat.add_zero, fn_X10_waiting, fn_X3_holderBehind, fn_X3_turnsOrDrops, fn_X3_weighs, fn_X5_has, fn_X6_run])
      exact ⟨by simp, hQ⟩
    have L : ∀ x y : Int32, Q (some (.inl (if x = y then 1 else 0))) M → G 262 [none, none, none, none, none, none] [.inl y, .inl x] M := by
      intro x y hq
      (apply h262; simp only [BX3_holds_262, s_mth, s_mab, s_at, s_iconst, s_lconst, s_iload, s_lload, s_aload, s_istore, s_lstore, s_astore, s_iinc, s_bin, s_binG, s_un, s_lbin, s_lbinG, s_lsh, s_lcmp, s_i2l, s_l2i, s_dup, s_dup2, s_pop, s_if, s_icmp, s_geti, s_getl, s_getr, s_puti, s_putz, s_putl, s_iald, s_zald, s_iast, s_zast, s_aaldS, s_aaldU, s_gets, s_tald, s_tsw, tsw, s_iret, s_zret, s_lret, s_aret, s_vret, s_callV, s_callS, c1, nl1, keepL, csum, pushR, inL, List.getD_cons_zero, List.getD_cons_succ, List.set_cons_zero, List.set_cons_succ, List.cons_append, List.nil_append, List.append_nil, List.replicate, List.length_cons, List.length_nil, List.take_succ_cons, List.take_zero, List.drop_succ_cons, List.drop_zero, List.reverse_cons, List.reverse_nil, true_and, and_true, forall_const, not_true_eq_false, not_false_eq_true, false_implies, true_implies, implies_true, one0, m10, Nat.reduceAdd, Nat.reduceSub, Nat.reduceLeDiff, Nat.zero_add, Nat.add_zero, fn_X10_waiting, fn_X3_holderBehind, fn_X3_turnsOrDrops, fn_X3_weighs, fn_X5_has, fn_X6_run])
      refine ⟨fun h1 => ?_, fun h1 => ?_⟩
      · rw [if_pos h1] at hq
        (apply h270; simp only [BX3_holds_270, s_mth, s_mab, s_at, s_iconst, s_lconst, s_iload, s_lload, s_aload, s_istore, s_lstore, s_astore, s_iinc, s_bin, s_binG, s_un, s_lbin, s_lbinG, s_lsh, s_lcmp, s_i2l, s_l2i, s_dup, s_dup2, s_pop, s_if, s_icmp, s_geti, s_getl, s_getr, s_puti, s_putz, s_putl, s_iald, s_zald, s_iast, s_zast, s_aaldS, s_aaldU, s_gets, s_tald, s_tsw, tsw, s_iret, s_zret, s_lret, s_aret, s_vret, s_callV, s_callS, c1, nl1, keepL, csum, pushR, inL, List.getD_cons_zero, List.getD_cons_succ, List.set_cons_zero, List.set_cons_succ, List.cons_append, List.nil_append, List.append_nil, List.replicate, List.length_cons, List.length_nil, List.take_succ_cons, List.take_zero, List.drop_succ_cons, List.drop_zero, List.reverse_cons, List.reverse_nil, true_and, and_true, forall_const, not_true_eq_false, not_false_eq_true, false_implies, true_implies, implies_true, one0, m10, Nat.reduceAdd, Nat.reduceSub, Nat.reduceLeDiff, Nat.zero_add, Nat.add_zero, fn_X10_waiting, fn_X3_holderBehind, fn_X3_turnsOrDrops, fn_X3_weighs, fn_X5_has, fn_X6_run])
        exact ⟨by simp, hq⟩
      · rw [if_neg h1] at hq
        exact F hq
    have L2 : ∀ x : Int32, Q (some (.inl (if x = (if d = 1 then 1 else 0) then 1 else 0))) M → G 251 [none, none, none, none, some (.inl d), none] [.inl x] M := by
      intro x hq
      (apply h251; simp only [BX3_holds_251, s_mth, s_mab, s_at, s_iconst, s_lconst, s_iload, s_lload, s_aload, s_istore, s_lstore, s_astore, s_iinc, s_bin, s_binG, s_un, s_lbin, s_lbinG, s_lsh, s_lcmp, s_i2l, s_l2i, s_dup, s_dup2, s_pop, s_if, s_icmp, s_geti, s_getl, s_getr, s_puti, s_putz, s_putl, s_iald, s_zald, s_iast, s_zast, s_aaldS, s_aaldU, s_gets, s_tald, s_tsw, tsw, s_iret, s_zret, s_lret, s_aret, s_vret, s_callV, s_callS, c1, nl1, keepL, csum, pushR, inL, List.getD_cons_zero, List.getD_cons_succ, List.set_cons_zero, List.set_cons_succ, List.cons_append, List.nil_append, List.append_nil, List.replicate, List.length_cons, List.length_nil, List.take_succ_cons, List.take_zero, List.drop_succ_cons, List.drop_zero, List.reverse_cons, List.reverse_nil, true_and, and_true, forall_const, not_true_eq_false, not_false_eq_true, false_implies, true_implies, implies_true, one0, m10, Nat.reduceAdd, Nat.reduceSub, Nat.reduceLeDiff, Nat.zero_add, Nat.add_zero, fn_X10_waiting, fn_X3_holderBehind, fn_X3_turnsOrDrops, fn_X3_weighs, fn_X5_has, fn_X6_run])
      refine ⟨fun h1 => ?_, fun h1 => ?_⟩
      · exact L x 1 (by simpa only [if_pos h1] using hq)
      · (apply h261; simp only [BX3_holds_261, s_mth, s_mab, s_at, s_iconst, s_lconst, s_iload, s_lload, s_aload, s_istore, s_lstore, s_astore, s_iinc, s_bin, s_binG, s_un, s_lbin, s_lbinG, s_lsh, s_lcmp, s_i2l, s_l2i, s_dup, s_dup2, s_pop, s_if, s_icmp, s_geti, s_getl, s_getr, s_puti, s_putz, s_putl, s_iald, s_zald, s_iast, s_zast, s_aaldS, s_aaldU, s_gets, s_tald, s_tsw, tsw, s_iret, s_zret, s_lret, s_aret, s_vret, s_callV, s_callS, c1, nl1, keepL, csum, pushR, inL, List.getD_cons_zero, List.getD_cons_succ, List.set_cons_zero, List.set_cons_succ, List.cons_append, List.nil_append, List.append_nil, List.replicate, List.length_cons, List.length_nil, List.take_succ_cons, List.take_zero, List.drop_succ_cons, List.drop_zero, List.reverse_cons, List.reverse_nil, true_and, and_true, forall_const, not_true_eq_false, not_false_eq_true, false_implies, true_implies, implies_true, one0, m10, Nat.reduceAdd, Nat.reduceSub, Nat.reduceLeDiff, Nat.zero_add, Nat.add_zero, fn_X10_waiting, fn_X3_holderBehind, fn_X3_turnsOrDrops, fn_X3_weighs, fn_X5_has, fn_X6_run])
        exact L x 0 (by simpa only [if_neg h1] using hq)
    (apply h219; simp only [BX3_holds_219, s_mth, s_mab, s_at, s_iconst, s_lconst, s_iload, s_lload, s_aload, s_istore, s_lstore, s_astore, s_iinc, s_bin, s_binG, s_un, s_lbin, s_lbinG, s_lsh, s_lcmp, s_i2l, s_l2i, s_dup, s_dup2, s_pop, s_if, s_icmp, s_geti, s_getl, s_getr, s_puti, s_putz, s_putl, s_iald, s_zald, s_iast, s_zast, s_aaldS, s_aaldU, s_gets, s_tald, s_tsw, tsw, s_iret, s_zret, s_lret, s_aret, s_vret, s_callV, s_callS, c1, nl1, keepL, csum, pushR, inL, List.getD_cons_zero, List.getD_cons_succ, List.set_cons_zero, List.set_cons_succ, List.cons_append, List.nil_append, List.append_nil, List.replicate, List.length_cons, List.length_nil, List.take_succ_cons, List.take_zero, List.drop_succ_cons, List.drop_zero, List.reverse_cons, List.reverse_nil, true_and, and_true, forall_const, not_true_eq_false, not_false_eq_true, false_implies, true_implies, implies_true, one0, m10, Nat.reduceAdd, Nat.reduceSub, Nat.reduceLeDiff, Nat.zero_add, Nat.add_zero, fn_X10_waiting, fn_X3_holderBehind, fn_X3_turnsOrDrops, fn_X3_weighs, fn_X5_has, fn_X6_run])
    simp only [hl]
    refine ⟨⟨_, _, rfl⟩, fun h1 => ?_, fun h1 => ⟨fun h2 => ?_, fun h2 => ⟨hin _ h1, ⟨_, rfl⟩, fun h3 => ?_, fun h3 => ?_⟩⟩⟩
    · rw [if_pos h1] at hQ; exact F hQ
    · rw [if_neg h1, if_pos h2] at hQ; exact F hQ
    · rw [if_neg h1, if_neg h2, pz, if_pos h3] at hQ
      (apply h250; simp only [BX3_holds_250, s_mth, s_mab, s_at, s_iconst, s_lconst, s_iload, s_lload, s_aload, s_istore, s_lstore, s_astore, s_iinc, s_bin, s_binG, s_un, s_lbin, s_lbinG, s_lsh, s_lcmp, s_i2l, s_l2i, s_dup, s_dup2, s_pop, s_if, s_icmp, s_geti, s_getl, s_getr, s_puti, s_putz, s_putl, s_iald, s_zald, s_iast, s_zast, s_aaldS, s_aaldU, s_gets, s_tald, s_tsw, tsw, s_iret, s_zret, s_lret, s_aret, s_vret, s_callV, s_callS, c1, nl1, keepL, csum, pushR, inL, List.getD_cons_zero, List.getD_cons_succ, List.set_cons_zero, List.set_cons_succ, List.cons_append, List.nil_append, List.append_nil, List.replicate, List.length_cons, List.length_nil, List.take_succ_cons, List.take_zero, List.drop_succ_cons, List.drop_zero, List.reverse_cons, List.reverse_nil, true_and, and_true, forall_const, not_true_eq_false, not_false_eq_true, false_implies, true_implies, implies_true, one0, m10, Nat.reduceAdd, Nat.reduceSub, Nat.reduceLeDiff, Nat.zero_add, Nat.add_zero, fn_X10_waiting, fn_X3_holderBehind, fn_X3_turnsOrDrops, fn_X3_weighs, fn_X5_has, fn_X6_run])
      exact L2 0 hQ
    · rw [if_neg h1, if_neg h2, pz, if_neg h3] at hQ
      exact L2 1 hQ
theorem ct_X3_holds (l : Launch) : Con l yX3_holds cX3_holds 6 (Option.some FieldType.boolean) 4 pre_X3_holds fn_X3_holds := con_of (by decide +kernel) ok_X3_holds len_X3_holds (fun p e s m args below meth c D ca ad A as M hX hr hp ho => pf_X3_holds _ _ (bsX3_holds_0 hX hr) (bsX3_holds_52 hX hr) (bsX3_holds_80 hX hr) (bsX3_holds_84 hX hr) (bsX3_holds_85 hX hr) (bsX3_holds_86 hX hr) (bsX3_holds_118 hX hr) (bsX3_holds_119 hX hr) (bsX3_holds_120 hX hr) (bsX3_holds_152 hX hr) (bsX3_holds_153 hX hr) (bsX3_holds_154 hX hr) (bsX3_holds_181 hX hr) (bsX3_holds_182 hX hr) (bsX3_holds_183 hX hr) (bsX3_holds_217 hX hr) (bsX3_holds_218 hX hr) (bsX3_holds_219 hX hr) (bsX3_holds_250 hX hr) (bsX3_holds_251 hX hr) (bsX3_holds_261 hX hr) (bsX3_holds_262 hX hr) (bsX3_holds_269 hX hr) (bsX3_holds_270 hX hr) (bsX3_holds_271 hX hr) as M ho hp ⟨rfl, rfl⟩)
end
