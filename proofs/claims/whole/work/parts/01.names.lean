-- ===== PART A: goes FIRST, ahead of the names: the tables' words, and 'selects' of the private methods out of them =====
/-- a private method of a class that the tables say can be made, by its rows of tables_1 -/
def lw_okq (q : MethodName × Nat) : Prop := (q.1.cls ≠ "java/lang/invoke/MethodHandle" ∧ q.1.cls ≠ "java/lang/invoke/VarHandle") ∧ Cond.instantiable q.1.cls q.2 ∈ tables_1 ∧ Cond.privateMethod q.1 ∈ tables_1 ∧ Cond.instanceMethod q.1 ∈ tables_1
theorem lw_p0 : lw_okq (⟨"BudgetMeter", "refuse", "(I)I"⟩, 9) := ⟨⟨by decide +kernel, by decide +kernel⟩, List.mem_of_getElem? (i := 13) (by decide +kernel), List.mem_of_getElem? (i := 251) (by decide +kernel), List.mem_of_getElem? (i := 252) (by decide +kernel)⟩
theorem lw_p1 : lw_okq (⟨"BudgetMeter$Source", "skipSpaces", "()V"⟩, 4) := ⟨⟨by decide +kernel, by decide +kernel⟩, List.mem_of_getElem? (i := 21) (by decide +kernel), List.mem_of_getElem? (i := 274) (by decide +kernel), List.mem_of_getElem? (i := 275) (by decide +kernel)⟩
theorem lw_p2 : lw_okq (⟨"BudgetMeter$Source", "current", "()I"⟩, 4) := ⟨⟨by decide +kernel, by decide +kernel⟩, List.mem_of_getElem? (i := 21) (by decide +kernel), List.mem_of_getElem? (i := 278) (by decide +kernel), List.mem_of_getElem? (i := 279) (by decide +kernel)⟩
theorem lw_p3 : lw_okq (⟨"BudgetMeter$Source", "atEnd", "()Z"⟩, 4) := ⟨⟨by decide +kernel, by decide +kernel⟩, List.mem_of_getElem? (i := 21) (by decide +kernel), List.mem_of_getElem? (i := 282) (by decide +kernel), List.mem_of_getElem? (i := 283) (by decide +kernel)⟩
theorem lw_p4 : lw_okq (⟨"BudgetMeter$Source", "readInstruction", "(LBudgetMeter$Setup;)V"⟩, 4) := ⟨⟨by decide +kernel, by decide +kernel⟩, List.mem_of_getElem? (i := 21) (by decide +kernel), List.mem_of_getElem? (i := 286) (by decide +kernel), List.mem_of_getElem? (i := 287) (by decide +kernel)⟩
theorem lw_p5 : lw_okq (⟨"BudgetMeter$Source", "readNumber", "(IZ)I"⟩, 4) := ⟨⟨by decide +kernel, by decide +kernel⟩, List.mem_of_getElem? (i := 21) (by decide +kernel), List.mem_of_getElem? (i := 293) (by decide +kernel), List.mem_of_getElem? (i := 294) (by decide +kernel)⟩
theorem lw_p6 : lw_okq (⟨"BudgetMeter$Source", "readSemicolon", "()V"⟩, 4) := ⟨⟨by decide +kernel, by decide +kernel⟩, List.mem_of_getElem? (i := 21) (by decide +kernel), List.mem_of_getElem? (i := 303) (by decide +kernel), List.mem_of_getElem? (i := 304) (by decide +kernel)⟩
theorem lw_p7 : lw_okq (⟨"BudgetMeter$History", "placeAt", "(I)LBudgetMeter$Setup;"⟩, 3) := ⟨⟨by decide +kernel, by decide +kernel⟩, List.mem_of_getElem? (i := 169) (by decide +kernel), List.mem_of_getElem? (i := 315) (by decide +kernel), List.mem_of_getElem? (i := 316) (by decide +kernel)⟩
theorem lw_p8 : lw_okq (⟨"BudgetMeter", "analyse", "()V"⟩, 9) := ⟨⟨by decide +kernel, by decide +kernel⟩, List.mem_of_getElem? (i := 13) (by decide +kernel), List.mem_of_getElem? (i := 331) (by decide +kernel), List.mem_of_getElem? (i := 332) (by decide +kernel)⟩
theorem lw_p9 : lw_okq (⟨"BudgetMeter$Graph", "divide", "(LBudgetMeter$Setup;I)V"⟩, 12) := ⟨⟨by decide +kernel, by decide +kernel⟩, List.mem_of_getElem? (i := 75) (by decide +kernel), List.mem_of_getElem? (i := 348) (by decide +kernel), List.mem_of_getElem? (i := 349) (by decide +kernel)⟩
theorem lw_p10 : lw_okq (⟨"BudgetMeter$Graph", "connect", "(LBudgetMeter$Setup;I)V"⟩, 12) := ⟨⟨by decide +kernel, by decide +kernel⟩, List.mem_of_getElem? (i := 75) (by decide +kernel), List.mem_of_getElem? (i := 355) (by decide +kernel), List.mem_of_getElem? (i := 356) (by decide +kernel)⟩
theorem lw_p11 : lw_okq (⟨"BudgetMeter$Graph", "blockFrom", "(LBudgetMeter$Setup;I)I"⟩, 12) := ⟨⟨by decide +kernel, by decide +kernel⟩, List.mem_of_getElem? (i := 75) (by decide +kernel), List.mem_of_getElem? (i := 366) (by decide +kernel), List.mem_of_getElem? (i := 367) (by decide +kernel)⟩
theorem lw_p12 : lw_okq (⟨"BudgetMeter$Graph", "collectPredecessors", "()V"⟩, 12) := ⟨⟨by decide +kernel, by decide +kernel⟩, List.mem_of_getElem? (i := 75) (by decide +kernel), List.mem_of_getElem? (i := 370) (by decide +kernel), List.mem_of_getElem? (i := 371) (by decide +kernel)⟩
theorem lw_p13 : lw_okq (⟨"BudgetMeter$Graph", "addPredecessor", "(II)V"⟩, 12) := ⟨⟨by decide +kernel, by decide +kernel⟩, List.mem_of_getElem? (i := 75) (by decide +kernel), List.mem_of_getElem? (i := 374) (by decide +kernel), List.mem_of_getElem? (i := 375) (by decide +kernel)⟩
theorem lw_p14 : lw_okq (⟨"BudgetMeter$Graph", "join", "()V"⟩, 12) := ⟨⟨by decide +kernel, by decide +kernel⟩, List.mem_of_getElem? (i := 75) (by decide +kernel), List.mem_of_getElem? (i := 382) (by decide +kernel), List.mem_of_getElem? (i := 383) (by decide +kernel)⟩
theorem lw_p15 : lw_okq (⟨"BudgetMeter$Graph", "isJoined", "(II)Z"⟩, 12) := ⟨⟨by decide +kernel, by decide +kernel⟩, List.mem_of_getElem? (i := 75) (by decide +kernel), List.mem_of_getElem? (i := 386) (by decide +kernel), List.mem_of_getElem? (i := 387) (by decide +kernel)⟩
def lw_privs_1 : List (MethodName × Nat) := [(⟨"BudgetMeter", "refuse", "(I)I"⟩, 9), (⟨"BudgetMeter$Source", "skipSpaces", "()V"⟩, 4), (⟨"BudgetMeter$Source", "current", "()I"⟩, 4), (⟨"BudgetMeter$Source", "atEnd", "()Z"⟩, 4), (⟨"BudgetMeter$Source", "readInstruction", "(LBudgetMeter$Setup;)V"⟩, 4), (⟨"BudgetMeter$Source", "readNumber", "(IZ)I"⟩, 4), (⟨"BudgetMeter$Source", "readSemicolon", "()V"⟩, 4), (⟨"BudgetMeter$History", "placeAt", "(I)LBudgetMeter$Setup;"⟩, 3), (⟨"BudgetMeter", "analyse", "()V"⟩, 9), (⟨"BudgetMeter$Graph", "divide", "(LBudgetMeter$Setup;I)V"⟩, 12), (⟨"BudgetMeter$Graph", "connect", "(LBudgetMeter$Setup;I)V"⟩, 12), (⟨"BudgetMeter$Graph", "blockFrom", "(LBudgetMeter$Setup;I)I"⟩, 12), (⟨"BudgetMeter$Graph", "collectPredecessors", "()V"⟩, 12), (⟨"BudgetMeter$Graph", "addPredecessor", "(II)V"⟩, 12), (⟨"BudgetMeter$Graph", "join", "()V"⟩, 12), (⟨"BudgetMeter$Graph", "isJoined", "(II)Z"⟩, 12)]
theorem lw_r1 : ∀ q ∈ lw_privs_1, lw_okq q := List.forall_mem_cons.mpr ⟨lw_p0, List.forall_mem_cons.mpr ⟨lw_p1, List.forall_mem_cons.mpr ⟨lw_p2, List.forall_mem_cons.mpr ⟨lw_p3, List.forall_mem_cons.mpr ⟨lw_p4, List.forall_mem_cons.mpr ⟨lw_p5, List.forall_mem_cons.mpr ⟨lw_p6, List.forall_mem_cons.mpr ⟨lw_p7, List.forall_mem_cons.mpr ⟨lw_p8, List.forall_mem_cons.mpr ⟨lw_p9, List.forall_mem_cons.mpr ⟨lw_p10, List.forall_mem_cons.mpr ⟨lw_p11, List.forall_mem_cons.mpr ⟨lw_p12, List.forall_mem_cons.mpr ⟨lw_p13, List.forall_mem_cons.mpr ⟨lw_p14, List.forall_mem_cons.mpr ⟨lw_p15, fun _ h => absurd h List.not_mem_nil⟩⟩⟩⟩⟩⟩⟩⟩⟩⟩⟩⟩⟩⟩⟩⟩
theorem lw_p16 : lw_okq (⟨"BudgetMeter$Graph", "headOf", "(I)I"⟩, 12) := ⟨⟨by decide +kernel, by decide +kernel⟩, List.mem_of_getElem? (i := 75) (by decide +kernel), List.mem_of_getElem? (i := 394) (by decide +kernel), List.mem_of_getElem? (i := 395) (by decide +kernel)⟩
theorem lw_p17 : lw_okq (⟨"BudgetMeter$Graph", "reach", "()I"⟩, 12) := ⟨⟨by decide +kernel, by decide +kernel⟩, List.mem_of_getElem? (i := 75) (by decide +kernel), List.mem_of_getElem? (i := 401) (by decide +kernel), List.mem_of_getElem? (i := 402) (by decide +kernel)⟩
theorem lw_p18 : lw_okq (⟨"BudgetMeter$Prices", "sumInstructions", "(LBudgetMeter$Setup;LBudgetMeter$Graph;)V"⟩, 9) := ⟨⟨by decide +kernel, by decide +kernel⟩, List.mem_of_getElem? (i := 130) (by decide +kernel), List.mem_of_getElem? (i := 409) (by decide +kernel), List.mem_of_getElem? (i := 410) (by decide +kernel)⟩
theorem lw_p19 : lw_okq (⟨"BudgetMeter$Prices", "sumChains", "(LBudgetMeter$Graph;)V"⟩, 9) := ⟨⟨by decide +kernel, by decide +kernel⟩, List.mem_of_getElem? (i := 130) (by decide +kernel), List.mem_of_getElem? (i := 419) (by decide +kernel), List.mem_of_getElem? (i := 420) (by decide +kernel)⟩
theorem lw_p20 : lw_okq (⟨"BudgetMeter$Prices", "markEntries", "(LBudgetMeter$Setup;LBudgetMeter$Graph;)V"⟩, 9) := ⟨⟨by decide +kernel, by decide +kernel⟩, List.mem_of_getElem? (i := 130) (by decide +kernel), List.mem_of_getElem? (i := 423) (by decide +kernel), List.mem_of_getElem? (i := 424) (by decide +kernel)⟩
theorem lw_p21 : lw_okq (⟨"BudgetMeter$Prices", "greatestWay", "(LBudgetMeter$Graph;)I"⟩, 9) := ⟨⟨by decide +kernel, by decide +kernel⟩, List.mem_of_getElem? (i := 130) (by decide +kernel), List.mem_of_getElem? (i := 428) (by decide +kernel), List.mem_of_getElem? (i := 429) (by decide +kernel)⟩
theorem lw_p22 : lw_okq (⟨"BudgetMeter$Prices", "forgetWays", "(LBudgetMeter$Graph;)V"⟩, 9) := ⟨⟨by decide +kernel, by decide +kernel⟩, List.mem_of_getElem? (i := 130) (by decide +kernel), List.mem_of_getElem? (i := 432) (by decide +kernel), List.mem_of_getElem? (i := 433) (by decide +kernel)⟩
theorem lw_p23 : lw_okq (⟨"BudgetMeter$Prices", "greatestFrom", "(LBudgetMeter$Graph;I)I"⟩, 9) := ⟨⟨by decide +kernel, by decide +kernel⟩, List.mem_of_getElem? (i := 130) (by decide +kernel), List.mem_of_getElem? (i := 436) (by decide +kernel), List.mem_of_getElem? (i := 437) (by decide +kernel)⟩
theorem lw_p24 : lw_okq (⟨"BudgetMeter$Prices", "wayFrom", "(LBudgetMeter$Graph;I)I"⟩, 9) := ⟨⟨by decide +kernel, by decide +kernel⟩, List.mem_of_getElem? (i := 130) (by decide +kernel), List.mem_of_getElem? (i := 440) (by decide +kernel), List.mem_of_getElem? (i := 441) (by decide +kernel)⟩
theorem lw_p25 : lw_okq (⟨"BudgetMeter$Prices", "leastWay", "(LBudgetMeter$Graph;)I"⟩, 9) := ⟨⟨by decide +kernel, by decide +kernel⟩, List.mem_of_getElem? (i := 130) (by decide +kernel), List.mem_of_getElem? (i := 447) (by decide +kernel), List.mem_of_getElem? (i := 448) (by decide +kernel)⟩
theorem lw_p26 : lw_okq (⟨"BudgetMeter$Prices", "leastFrom", "(LBudgetMeter$Graph;I)I"⟩, 9) := ⟨⟨by decide +kernel, by decide +kernel⟩, List.mem_of_getElem? (i := 130) (by decide +kernel), List.mem_of_getElem? (i := 451) (by decide +kernel), List.mem_of_getElem? (i := 452) (by decide +kernel)⟩
theorem lw_p27 : lw_okq (⟨"BudgetMeter$Execution", "begin", "(I)V"⟩, 6) := ⟨⟨by decide +kernel, by decide +kernel⟩, List.mem_of_getElem? (i := 189) (by decide +kernel), List.mem_of_getElem? (i := 515) (by decide +kernel), List.mem_of_getElem? (i := 516) (by decide +kernel)⟩
theorem lw_p28 : lw_okq (⟨"BudgetMeter$Execution", "pay", "(I)Z"⟩, 6) := ⟨⟨by decide +kernel, by decide +kernel⟩, List.mem_of_getElem? (i := 189) (by decide +kernel), List.mem_of_getElem? (i := 520) (by decide +kernel), List.mem_of_getElem? (i := 521) (by decide +kernel)⟩
theorem lw_p29 : lw_okq (⟨"BudgetMeter$Execution", "finish", "(II)V"⟩, 6) := ⟨⟨by decide +kernel, by decide +kernel⟩, List.mem_of_getElem? (i := 189) (by decide +kernel), List.mem_of_getElem? (i := 524) (by decide +kernel), List.mem_of_getElem? (i := 525) (by decide +kernel)⟩
theorem lw_p30 : lw_okq (⟨"BudgetMeter$Execution", "perform", "(LBudgetMeter$Setup;I)I"⟩, 6) := ⟨⟨by decide +kernel, by decide +kernel⟩, List.mem_of_getElem? (i := 189) (by decide +kernel), List.mem_of_getElem? (i := 528) (by decide +kernel), List.mem_of_getElem? (i := 529) (by decide +kernel)⟩
theorem lw_p31 : lw_okq (⟨"BudgetMeter$Execution", "put", "(II)V"⟩, 6) := ⟨⟨by decide +kernel, by decide +kernel⟩, List.mem_of_getElem? (i := 189) (by decide +kernel), List.mem_of_getElem? (i := 536) (by decide +kernel), List.mem_of_getElem? (i := 537) (by decide +kernel)⟩
def lw_privs_2 : List (MethodName × Nat) := [(⟨"BudgetMeter$Graph", "headOf", "(I)I"⟩, 12), (⟨"BudgetMeter$Graph", "reach", "()I"⟩, 12), (⟨"BudgetMeter$Prices", "sumInstructions", "(LBudgetMeter$Setup;LBudgetMeter$Graph;)V"⟩, 9), (⟨"BudgetMeter$Prices", "sumChains", "(LBudgetMeter$Graph;)V"⟩, 9), (⟨"BudgetMeter$Prices", "markEntries", "(LBudgetMeter$Setup;LBudgetMeter$Graph;)V"⟩, 9), (⟨"BudgetMeter$Prices", "greatestWay", "(LBudgetMeter$Graph;)I"⟩, 9), (⟨"BudgetMeter$Prices", "forgetWays", "(LBudgetMeter$Graph;)V"⟩, 9), (⟨"BudgetMeter$Prices", "greatestFrom", "(LBudgetMeter$Graph;I)I"⟩, 9), (⟨"BudgetMeter$Prices", "wayFrom", "(LBudgetMeter$Graph;I)I"⟩, 9), (⟨"BudgetMeter$Prices", "leastWay", "(LBudgetMeter$Graph;)I"⟩, 9), (⟨"BudgetMeter$Prices", "leastFrom", "(LBudgetMeter$Graph;I)I"⟩, 9), (⟨"BudgetMeter$Execution", "begin", "(I)V"⟩, 6), (⟨"BudgetMeter$Execution", "pay", "(I)Z"⟩, 6), (⟨"BudgetMeter$Execution", "finish", "(II)V"⟩, 6), (⟨"BudgetMeter$Execution", "perform", "(LBudgetMeter$Setup;I)I"⟩, 6), (⟨"BudgetMeter$Execution", "put", "(II)V"⟩, 6)]
theorem lw_r2 : ∀ q ∈ lw_privs_2, lw_okq q := List.forall_mem_cons.mpr ⟨lw_p16, List.forall_mem_cons.mpr ⟨lw_p17, List.forall_mem_cons.mpr ⟨lw_p18, List.forall_mem_cons.mpr ⟨lw_p19, List.forall_mem_cons.mpr ⟨lw_p20, List.forall_mem_cons.mpr ⟨lw_p21, List.forall_mem_cons.mpr ⟨lw_p22, List.forall_mem_cons.mpr ⟨lw_p23, List.forall_mem_cons.mpr ⟨lw_p24, List.forall_mem_cons.mpr ⟨lw_p25, List.forall_mem_cons.mpr ⟨lw_p26, List.forall_mem_cons.mpr ⟨lw_p27, List.forall_mem_cons.mpr ⟨lw_p28, List.forall_mem_cons.mpr ⟨lw_p29, List.forall_mem_cons.mpr ⟨lw_p30, List.forall_mem_cons.mpr ⟨lw_p31, fun _ h => absurd h List.not_mem_nil⟩⟩⟩⟩⟩⟩⟩⟩⟩⟩⟩⟩⟩⟩⟩⟩
theorem lw_p32 : lw_okq (⟨"BudgetMeter", "mixSetup", "(J)J"⟩, 9) := ⟨⟨by decide +kernel, by decide +kernel⟩, List.mem_of_getElem? (i := 13) (by decide +kernel), List.mem_of_getElem? (i := 594) (by decide +kernel), List.mem_of_getElem? (i := 595) (by decide +kernel)⟩
theorem lw_p33 : lw_okq (⟨"BudgetMeter", "mixFlow", "(J)J"⟩, 9) := ⟨⟨by decide +kernel, by decide +kernel⟩, List.mem_of_getElem? (i := 13) (by decide +kernel), List.mem_of_getElem? (i := 598) (by decide +kernel), List.mem_of_getElem? (i := 599) (by decide +kernel)⟩
theorem lw_p34 : lw_okq (⟨"BudgetMeter", "mixLatest", "(J)J"⟩, 9) := ⟨⟨by decide +kernel, by decide +kernel⟩, List.mem_of_getElem? (i := 13) (by decide +kernel), List.mem_of_getElem? (i := 602) (by decide +kernel), List.mem_of_getElem? (i := 603) (by decide +kernel)⟩
theorem lw_p35 : lw_okq (⟨"BudgetMeterModel", "counts", "(I)I"⟩, 31) := ⟨⟨by decide +kernel, by decide +kernel⟩, List.mem_of_getElem? (i := 606) (by decide +kernel), List.mem_of_getElem? (i := 710) (by decide +kernel), List.mem_of_getElem? (i := 711) (by decide +kernel)⟩
theorem lw_p36 : lw_okq (⟨"BudgetMeterModel", "skips", "()V"⟩, 31) := ⟨⟨by decide +kernel, by decide +kernel⟩, List.mem_of_getElem? (i := 606) (by decide +kernel), List.mem_of_getElem? (i := 729) (by decide +kernel), List.mem_of_getElem? (i := 730) (by decide +kernel)⟩
theorem lw_p37 : lw_okq (⟨"BudgetMeterModel", "here", "()I"⟩, 31) := ⟨⟨by decide +kernel, by decide +kernel⟩, List.mem_of_getElem? (i := 606) (by decide +kernel), List.mem_of_getElem? (i := 733) (by decide +kernel), List.mem_of_getElem? (i := 734) (by decide +kernel)⟩
theorem lw_p38 : lw_okq (⟨"BudgetMeterModel", "passesInstruction", "()Z"⟩, 31) := ⟨⟨by decide +kernel, by decide +kernel⟩, List.mem_of_getElem? (i := 606) (by decide +kernel), List.mem_of_getElem? (i := 737) (by decide +kernel), List.mem_of_getElem? (i := 738) (by decide +kernel)⟩
theorem lw_p39 : lw_okq (⟨"BudgetMeterModel", "passes", "(IZ)Z"⟩, 31) := ⟨⟨by decide +kernel, by decide +kernel⟩, List.mem_of_getElem? (i := 606) (by decide +kernel), List.mem_of_getElem? (i := 744) (by decide +kernel), List.mem_of_getElem? (i := 745) (by decide +kernel)⟩
theorem lw_p40 : lw_okq (⟨"BudgetMeterModel", "saves", "()V"⟩, 31) := ⟨⟨by decide +kernel, by decide +kernel⟩, List.mem_of_getElem? (i := 606) (by decide +kernel), List.mem_of_getElem? (i := 748) (by decide +kernel), List.mem_of_getElem? (i := 749) (by decide +kernel)⟩
theorem lw_p41 : lw_okq (⟨"BudgetMeterModel", "isInstruction", "(I)Z"⟩, 31) := ⟨⟨by decide +kernel, by decide +kernel⟩, List.mem_of_getElem? (i := 606) (by decide +kernel), List.mem_of_getElem? (i := 760) (by decide +kernel), List.mem_of_getElem? (i := 761) (by decide +kernel)⟩
theorem lw_p42 : lw_okq (⟨"BudgetMeterModel", "laysBlocks", "()V"⟩, 31) := ⟨⟨by decide +kernel, by decide +kernel⟩, List.mem_of_getElem? (i := 606) (by decide +kernel), List.mem_of_getElem? (i := 768) (by decide +kernel), List.mem_of_getElem? (i := 769) (by decide +kernel)⟩
theorem lw_p43 : lw_okq (⟨"BudgetMeterModel", "isLeader", "(I)Z"⟩, 31) := ⟨⟨by decide +kernel, by decide +kernel⟩, List.mem_of_getElem? (i := 606) (by decide +kernel), List.mem_of_getElem? (i := 772) (by decide +kernel), List.mem_of_getElem? (i := 773) (by decide +kernel)⟩
theorem lw_p44 : lw_okq (⟨"BudgetMeterModel", "targetOf", "(I)I"⟩, 31) := ⟨⟨by decide +kernel, by decide +kernel⟩, List.mem_of_getElem? (i := 606) (by decide +kernel), List.mem_of_getElem? (i := 776) (by decide +kernel), List.mem_of_getElem? (i := 777) (by decide +kernel)⟩
theorem lw_p45 : lw_okq (⟨"BudgetMeterModel", "isBranch", "(I)Z"⟩, 31) := ⟨⟨by decide +kernel, by decide +kernel⟩, List.mem_of_getElem? (i := 606) (by decide +kernel), List.mem_of_getElem? (i := 780) (by decide +kernel), List.mem_of_getElem? (i := 781) (by decide +kernel)⟩
theorem lw_p46 : lw_okq (⟨"BudgetMeterModel", "costAt", "(I)I"⟩, 31) := ⟨⟨by decide +kernel, by decide +kernel⟩, List.mem_of_getElem? (i := 606) (by decide +kernel), List.mem_of_getElem? (i := 784) (by decide +kernel), List.mem_of_getElem? (i := 785) (by decide +kernel)⟩
theorem lw_p47 : lw_okq (⟨"BudgetMeterModel", "laysFollowing", "(II)V"⟩, 31) := ⟨⟨by decide +kernel, by decide +kernel⟩, List.mem_of_getElem? (i := 606) (by decide +kernel), List.mem_of_getElem? (i := 788) (by decide +kernel), List.mem_of_getElem? (i := 789) (by decide +kernel)⟩
def lw_privs_3 : List (MethodName × Nat) := [(⟨"BudgetMeter", "mixSetup", "(J)J"⟩, 9), (⟨"BudgetMeter", "mixFlow", "(J)J"⟩, 9), (⟨"BudgetMeter", "mixLatest", "(J)J"⟩, 9), (⟨"BudgetMeterModel", "counts", "(I)I"⟩, 31), (⟨"BudgetMeterModel", "skips", "()V"⟩, 31), (⟨"BudgetMeterModel", "here", "()I"⟩, 31), (⟨"BudgetMeterModel", "passesInstruction", "()Z"⟩, 31), (⟨"BudgetMeterModel", "passes", "(IZ)Z"⟩, 31), (⟨"BudgetMeterModel", "saves", "()V"⟩, 31), (⟨"BudgetMeterModel", "isInstruction", "(I)Z"⟩, 31), (⟨"BudgetMeterModel", "laysBlocks", "()V"⟩, 31), (⟨"BudgetMeterModel", "isLeader", "(I)Z"⟩, 31), (⟨"BudgetMeterModel", "targetOf", "(I)I"⟩, 31), (⟨"BudgetMeterModel", "isBranch", "(I)Z"⟩, 31), (⟨"BudgetMeterModel", "costAt", "(I)I"⟩, 31), (⟨"BudgetMeterModel", "laysFollowing", "(II)V"⟩, 31)]
theorem lw_r3 : ∀ q ∈ lw_privs_3, lw_okq q := List.forall_mem_cons.mpr ⟨lw_p32, List.forall_mem_cons.mpr ⟨lw_p33, List.forall_mem_cons.mpr ⟨lw_p34, List.forall_mem_cons.mpr ⟨lw_p35, List.forall_mem_cons.mpr ⟨lw_p36, List.forall_mem_cons.mpr ⟨lw_p37, List.forall_mem_cons.mpr ⟨lw_p38, List.forall_mem_cons.mpr ⟨lw_p39, List.forall_mem_cons.mpr ⟨lw_p40, List.forall_mem_cons.mpr ⟨lw_p41, List.forall_mem_cons.mpr ⟨lw_p42, List.forall_mem_cons.mpr ⟨lw_p43, List.forall_mem_cons.mpr ⟨lw_p44, List.forall_mem_cons.mpr ⟨lw_p45, List.forall_mem_cons.mpr ⟨lw_p46, List.forall_mem_cons.mpr ⟨lw_p47, fun _ h => absurd h List.not_mem_nil⟩⟩⟩⟩⟩⟩⟩⟩⟩⟩⟩⟩⟩⟩⟩⟩
theorem lw_p48 : lw_okq (⟨"BudgetMeterModel", "goesTo", "(II)V"⟩, 31) := ⟨⟨by decide +kernel, by decide +kernel⟩, List.mem_of_getElem? (i := 606) (by decide +kernel), List.mem_of_getElem? (i := 792) (by decide +kernel), List.mem_of_getElem? (i := 793) (by decide +kernel)⟩
theorem lw_p49 : lw_okq (⟨"BudgetMeterModel", "isJoined", "(II)Z"⟩, 31) := ⟨⟨by decide +kernel, by decide +kernel⟩, List.mem_of_getElem? (i := 606) (by decide +kernel), List.mem_of_getElem? (i := 796) (by decide +kernel), List.mem_of_getElem? (i := 797) (by decide +kernel)⟩
theorem lw_p50 : lw_okq (⟨"BudgetMeterModel", "comingTo", "(I)I"⟩, 31) := ⟨⟨by decide +kernel, by decide +kernel⟩, List.mem_of_getElem? (i := 606) (by decide +kernel), List.mem_of_getElem? (i := 800) (by decide +kernel), List.mem_of_getElem? (i := 801) (by decide +kernel)⟩
theorem lw_p51 : lw_okq (⟨"BudgetMeterModel", "headOf", "(I)I"⟩, 31) := ⟨⟨by decide +kernel, by decide +kernel⟩, List.mem_of_getElem? (i := 606) (by decide +kernel), List.mem_of_getElem? (i := 804) (by decide +kernel), List.mem_of_getElem? (i := 805) (by decide +kernel)⟩
theorem lw_p52 : lw_okq (⟨"BudgetMeterModel", "isBlock", "(I)Z"⟩, 31) := ⟨⟨by decide +kernel, by decide +kernel⟩, List.mem_of_getElem? (i := 606) (by decide +kernel), List.mem_of_getElem? (i := 816) (by decide +kernel), List.mem_of_getElem? (i := 817) (by decide +kernel)⟩
theorem lw_p53 : lw_okq (⟨"BudgetMeterModel", "chainCostOf", "(I)I"⟩, 31) := ⟨⟨by decide +kernel, by decide +kernel⟩, List.mem_of_getElem? (i := 606) (by decide +kernel), List.mem_of_getElem? (i := 832) (by decide +kernel), List.mem_of_getElem? (i := 833) (by decide +kernel)⟩
theorem lw_p54 : lw_okq (⟨"BudgetMeterModel", "bestWay", "(Z)I"⟩, 31) := ⟨⟨by decide +kernel, by decide +kernel⟩, List.mem_of_getElem? (i := 606) (by decide +kernel), List.mem_of_getElem? (i := 844) (by decide +kernel), List.mem_of_getElem? (i := 845) (by decide +kernel)⟩
theorem lw_p55 : lw_okq (⟨"BudgetMeterModel", "waysGrow", "(Z)Z"⟩, 31) := ⟨⟨by decide +kernel, by decide +kernel⟩, List.mem_of_getElem? (i := 606) (by decide +kernel), List.mem_of_getElem? (i := 848) (by decide +kernel), List.mem_of_getElem? (i := 849) (by decide +kernel)⟩
theorem lw_p56 : lw_okq (⟨"BudgetMeterModel", "runs", "(II)V"⟩, 31) := ⟨⟨by decide +kernel, by decide +kernel⟩, List.mem_of_getElem? (i := 606) (by decide +kernel), List.mem_of_getElem? (i := 860) (by decide +kernel), List.mem_of_getElem? (i := 861) (by decide +kernel)⟩
theorem lw_p57 : lw_okq (⟨"BudgetMeterModel", "does", "(I)I"⟩, 31) := ⟨⟨by decide +kernel, by decide +kernel⟩, List.mem_of_getElem? (i := 606) (by decide +kernel), List.mem_of_getElem? (i := 864) (by decide +kernel), List.mem_of_getElem? (i := 865) (by decide +kernel)⟩
theorem lw_p58 : lw_okq (⟨"BudgetMeterModel", "mix", "(I)V"⟩, 31) := ⟨⟨by decide +kernel, by decide +kernel⟩, List.mem_of_getElem? (i := 606) (by decide +kernel), List.mem_of_getElem? (i := 915) (by decide +kernel), List.mem_of_getElem? (i := 916) (by decide +kernel)⟩
theorem lw_p59 : lw_okq (⟨"BudgetMeterModel", "mixBlocks", "()V"⟩, 31) := ⟨⟨by decide +kernel, by decide +kernel⟩, List.mem_of_getElem? (i := 606) (by decide +kernel), List.mem_of_getElem? (i := 920) (by decide +kernel), List.mem_of_getElem? (i := 921) (by decide +kernel)⟩
theorem lw_p60 : lw_okq (⟨"BudgetMeterModel", "mixRun", "()V"⟩, 31) := ⟨⟨by decide +kernel, by decide +kernel⟩, List.mem_of_getElem? (i := 606) (by decide +kernel), List.mem_of_getElem? (i := 927) (by decide +kernel), List.mem_of_getElem? (i := 928) (by decide +kernel)⟩
def lw_privs_4 : List (MethodName × Nat) := [(⟨"BudgetMeterModel", "goesTo", "(II)V"⟩, 31), (⟨"BudgetMeterModel", "isJoined", "(II)Z"⟩, 31), (⟨"BudgetMeterModel", "comingTo", "(I)I"⟩, 31), (⟨"BudgetMeterModel", "headOf", "(I)I"⟩, 31), (⟨"BudgetMeterModel", "isBlock", "(I)Z"⟩, 31), (⟨"BudgetMeterModel", "chainCostOf", "(I)I"⟩, 31), (⟨"BudgetMeterModel", "bestWay", "(Z)I"⟩, 31), (⟨"BudgetMeterModel", "waysGrow", "(Z)Z"⟩, 31), (⟨"BudgetMeterModel", "runs", "(II)V"⟩, 31), (⟨"BudgetMeterModel", "does", "(I)I"⟩, 31), (⟨"BudgetMeterModel", "mix", "(I)V"⟩, 31), (⟨"BudgetMeterModel", "mixBlocks", "()V"⟩, 31), (⟨"BudgetMeterModel", "mixRun", "()V"⟩, 31)]
theorem lw_r4 : ∀ q ∈ lw_privs_4, lw_okq q := List.forall_mem_cons.mpr ⟨lw_p48, List.forall_mem_cons.mpr ⟨lw_p49, List.forall_mem_cons.mpr ⟨lw_p50, List.forall_mem_cons.mpr ⟨lw_p51, List.forall_mem_cons.mpr ⟨lw_p52, List.forall_mem_cons.mpr ⟨lw_p53, List.forall_mem_cons.mpr ⟨lw_p54, List.forall_mem_cons.mpr ⟨lw_p55, List.forall_mem_cons.mpr ⟨lw_p56, List.forall_mem_cons.mpr ⟨lw_p57, List.forall_mem_cons.mpr ⟨lw_p58, List.forall_mem_cons.mpr ⟨lw_p59, List.forall_mem_cons.mpr ⟨lw_p60, fun _ h => absurd h List.not_mem_nil⟩⟩⟩⟩⟩⟩⟩⟩⟩⟩⟩⟩⟩
def lw_privs : List (MethodName × Nat) := lw_privs_1 ++ (lw_privs_2 ++ (lw_privs_3 ++ (lw_privs_4)))
def lw_tbl : List Cond := k2_sels lw_privs ++ tables_1
theorem lw_privs_ok : ∀ q ∈ lw_privs, lw_okq q := by
  show ∀ q ∈ lw_privs_1 ++ (lw_privs_2 ++ (lw_privs_3 ++ (lw_privs_4))), lw_okq q
  exact List.forall_mem_append.mpr ⟨lw_r1, List.forall_mem_append.mpr ⟨lw_r2, List.forall_mem_append.mpr ⟨lw_r3, lw_r4⟩⟩⟩
/-- the streams that the claim lets the run draw from -/
abbrev lw_cs : List Choice := [Jvm.Choice.named "NaN.bits"]
theorem lw_bits : nanBits ∈ lw_cs := by first | decide | exact List.mem_cons_self | simp [lw_cs, nanBits]
/-! names: class names, field tables, method names and codes, as the claim prints them -/
def RX0 : String := "BudgetMeter$Execution"
def TX0 : u_T := fun k => match k with
  | 0 => ("BudgetMeter$Execution", "status", "I", false)
  | 1 => ("BudgetMeter$Execution", "steps", "I", false)
  | 2 => ("BudgetMeter$Execution", "remaining", "I", false)
  | 3 => ("BudgetMeter$Execution", "charges", "I", false)
  | 4 => ("BudgetMeter$Execution", "stop", "I", false)
  | _ => ("BudgetMeter$Execution", "values", "[I", true)
def tyX0 : Nat → FieldType := fun k => match k with
  | 0 => .int
  | 1 => .int
  | 2 => .int
  | 3 => .int
  | 4 => .int
  | _ => .array .int
theorem nmX0 : ∀ a, a < 6 → ∀ b, b < 6 → a ≠ b → (TX0 a).2.1 ≠ (TX0 b).2.1 := by decide +kernel
theorem tyX0_ok : ∀ k, k < 6 → parseFieldDescriptor (TX0 k).2.2.1 = some (tyX0 k) := by decide +kernel
def RX1 : String := "BudgetMeter$Execution"
def TX1 : u_T := fun k => match k with
  | 0 => ("BudgetMeter$Execution", "status", "I", false)
  | 1 => ("BudgetMeter$Execution", "steps", "I", false)
  | 2 => ("BudgetMeter$Execution", "remaining", "I", false)
  | 3 => ("BudgetMeter$Execution", "charges", "I", false)
  | 4 => ("BudgetMeter$Execution", "stop", "I", false)
  | _ => ("BudgetMeter$Execution", "values", "[I", true)
def tyX1 : Nat → FieldType := fun k => match k with
  | 0 => .int
  | 1 => .int
  | 2 => .int
  | 3 => .int
  | 4 => .int
  | _ => .array .int
theorem nmX1 : ∀ a, a < 6 → ∀ b, b < 6 → a ≠ b → (TX1 a).2.1 ≠ (TX1 b).2.1 := by decide +kernel
theorem tyX1_ok : ∀ k, k < 6 → parseFieldDescriptor (TX1 k).2.2.1 = some (tyX1 k) := by decide +kernel
def RX2 : String := "BudgetMeter$Graph"
def TX2 : u_T := fun k => match k with
  | 0 => ("BudgetMeter$Graph", "count", "I", false)
  | 1 => ("BudgetMeter$Graph", "reachable", "I", false)
  | 2 => ("BudgetMeter$Graph", "blockAt", "[I", true)
  | 3 => ("BudgetMeter$Graph", "starts", "[I", true)
  | 4 => ("BudgetMeter$Graph", "following", "[I", true)
  | 5 => ("BudgetMeter$Graph", "targeted", "[I", true)
  | 6 => ("BudgetMeter$Graph", "successorSets", "[I", true)
  | 7 => ("BudgetMeter$Graph", "heads", "[I", true)
  | 8 => ("BudgetMeter$Graph", "enders", "[Z", true)
  | 9 => ("BudgetMeter$Graph", "lasts", "[I", true)
  | 10 => ("BudgetMeter$Graph", "predecessorSets", "[I", true)
  | _ => ("BudgetMeter$Graph", "joinedTo", "[I", true)
def tyX2 : Nat → FieldType := fun k => match k with
  | 0 => .int
  | 1 => .int
  | 2 => .array .int
  | 3 => .array .int
  | 4 => .array .int
  | 5 => .array .int
  | 6 => .array .int
  | 7 => .array .int
  | 8 => .array .boolean
  | 9 => .array .int
  | 10 => .array .int
  | _ => .array .int
theorem nmX2 : ∀ a, a < 12 → ∀ b, b < 12 → a ≠ b → (TX2 a).2.1 ≠ (TX2 b).2.1 := by decide +kernel
theorem tyX2_ok : ∀ k, k < 12 → parseFieldDescriptor (TX2 k).2.2.1 = some (tyX2 k) := by decide +kernel
def RX3 : String := "BudgetMeter$History"
def TX3 : u_T := fun k => match k with
  | 0 => ("BudgetMeter$History", "size", "I", false)
  | 1 => ("BudgetMeter$History", "next", "I", false)
  | _ => ("BudgetMeter$History", "places", "[LBudgetMeter$Setup;", true)
def tyX3 : Nat → FieldType := fun k => match k with
  | 0 => .int
  | 1 => .int
  | _ => .array (.object "BudgetMeter$Setup")
theorem nmX3 : ∀ a, a < 3 → ∀ b, b < 3 → a ≠ b → (TX3 a).2.1 ≠ (TX3 b).2.1 := by decide +kernel
theorem tyX3_ok : ∀ k, k < 3 → parseFieldDescriptor (TX3 k).2.2.1 = some (tyX3 k) := by decide +kernel
def RX4 : String := "BudgetMeter$Prices"
def TX4 : u_T := fun k => match k with
  | 0 => ("BudgetMeter$Prices", "greatest", "I", false)
  | 1 => ("BudgetMeter$Prices", "least", "I", false)
  | 2 => ("BudgetMeter$Prices", "blockCosts", "[I", true)
  | 3 => ("BudgetMeter$Prices", "chainCosts", "[I", true)
  | 4 => ("BudgetMeter$Prices", "instructionCosts", "[I", true)
  | 5 => ("BudgetMeter$Prices", "noEntries", "[I", true)
  | 6 => ("BudgetMeter$Prices", "blockEntries", "[I", true)
  | 7 => ("BudgetMeter$Prices", "chainEntries", "[I", true)
  | _ => ("BudgetMeter$Prices", "ways", "[I", true)
def tyX4 : Nat → FieldType := fun k => match k with
  | 0 => .int
  | 1 => .int
  | 2 => .array .int
  | 3 => .array .int
  | 4 => .array .int
  | 5 => .array .int
  | 6 => .array .int
  | 7 => .array .int
  | _ => .array .int
theorem nmX4 : ∀ a, a < 9 → ∀ b, b < 9 → a ≠ b → (TX4 a).2.1 ≠ (TX4 b).2.1 := by decide +kernel
theorem tyX4_ok : ∀ k, k < 9 → parseFieldDescriptor (TX4 k).2.2.1 = some (tyX4 k) := by decide +kernel
def RX5 : String := "BudgetMeter$Setup"
def TX5 : u_T := fun k => match k with
  | 0 => ("BudgetMeter$Setup", "size", "I", false)
  | 1 => ("BudgetMeter$Setup", "opcodes", "[I", true)
  | 2 => ("BudgetMeter$Setup", "registers", "[I", true)
  | 3 => ("BudgetMeter$Setup", "operands", "[I", true)
  | _ => ("BudgetMeter$Setup", "costs", "[I", true)
def tyX5 : Nat → FieldType := fun k => match k with
  | 0 => .int
  | 1 => .array .int
  | 2 => .array .int
  | 3 => .array .int
  | _ => .array .int
theorem nmX5 : ∀ a, a < 5 → ∀ b, b < 5 → a ≠ b → (TX5 a).2.1 ≠ (TX5 b).2.1 := by decide +kernel
theorem tyX5_ok : ∀ k, k < 5 → parseFieldDescriptor (TX5 k).2.2.1 = some (tyX5 k) := by decide +kernel
def RX6 : String := "BudgetMeter$Source"
def TX6 : u_T := fun k => match k with
  | 0 => ("BudgetMeter$Source", "length", "I", false)
  | 1 => ("BudgetMeter$Source", "bytes", "[I", true)
  | 2 => ("BudgetMeter$Source", "at", "I", false)
  | _ => ("BudgetMeter$Source", "wrong", "I", false)
def tyX6 : Nat → FieldType := fun k => match k with
  | 0 => .int
  | 1 => .array .int
  | 2 => .int
  | _ => .int
theorem nmX6 : ∀ a, a < 4 → ∀ b, b < 4 → a ≠ b → (TX6 a).2.1 ≠ (TX6 b).2.1 := by decide +kernel
theorem tyX6_ok : ∀ k, k < 4 → parseFieldDescriptor (TX6 k).2.2.1 = some (tyX6 k) := by decide +kernel
def RX7 : String := "BudgetMeter"
def TX7 : u_T := fun k => match k with
  | 0 => ("BudgetMeter", "source", "LBudgetMeter$Source;", true)
  | 1 => ("BudgetMeter", "setup", "LBudgetMeter$Setup;", true)
  | 2 => ("BudgetMeter", "assembled", "LBudgetMeter$Setup;", true)
  | 3 => ("BudgetMeter", "graph", "LBudgetMeter$Graph;", true)
  | 4 => ("BudgetMeter", "prices", "LBudgetMeter$Prices;", true)
  | 5 => ("BudgetMeter", "history", "LBudgetMeter$History;", true)
  | 6 => ("BudgetMeter", "latest", "LBudgetMeter$Execution;", true)
  | 7 => ("BudgetMeter", "trial", "LBudgetMeter$Execution;", true)
  | _ => ("BudgetMeter", "errors", "[I", true)
def tyX7 : Nat → FieldType := fun k => match k with
  | 0 => .object "BudgetMeter$Source"
  | 1 => .object "BudgetMeter$Setup"
  | 2 => .object "BudgetMeter$Setup"
  | 3 => .object "BudgetMeter$Graph"
  | 4 => .object "BudgetMeter$Prices"
  | 5 => .object "BudgetMeter$History"
  | 6 => .object "BudgetMeter$Execution"
  | 7 => .object "BudgetMeter$Execution"
  | _ => .array .int
theorem nmX7 : ∀ a, a < 9 → ∀ b, b < 9 → a ≠ b → (TX7 a).2.1 ≠ (TX7 b).2.1 := by decide +kernel
theorem tyX7_ok : ∀ k, k < 9 → parseFieldDescriptor (TX7 k).2.2.1 = some (tyX7 k) := by decide +kernel
def RX8 : String := "BudgetMeterModel"
def TX8 : u_T := fun k => match k with
  | 0 => ("BudgetMeterModel", "now", "[I", true)
  | 1 => ("BudgetMeterModel", "read", "[I", true)
  | 2 => ("BudgetMeterModel", "past", "[I", true)
  | 3 => ("BudgetMeterModel", "saved", "I", false)
  | 4 => ("BudgetMeterModel", "errors", "[I", true)
  | 5 => ("BudgetMeterModel", "text", "[I", true)
  | 6 => ("BudgetMeterModel", "length", "I", false)
  | 7 => ("BudgetMeterModel", "at", "I", false)
  | 8 => ("BudgetMeterModel", "number", "I", false)
  | 9 => ("BudgetMeterModel", "blockMany", "I", false)
  | 10 => ("BudgetMeterModel", "startOf", "[I", true)
  | 11 => ("BudgetMeterModel", "blockAt", "[I", true)
  | 12 => ("BudgetMeterModel", "follow", "[I", true)
  | 13 => ("BudgetMeterModel", "ends", "[Z", true)
  | 14 => ("BudgetMeterModel", "costOf", "[I", true)
  | 15 => ("BudgetMeterModel", "joined", "[I", true)
  | 16 => ("BudgetMeterModel", "head", "[I", true)
  | 17 => ("BudgetMeterModel", "way", "[I", true)
  | 18 => ("BudgetMeterModel", "status", "I", false)
  | 19 => ("BudgetMeterModel", "steps", "I", false)
  | 20 => ("BudgetMeterModel", "remaining", "I", false)
  | 21 => ("BudgetMeterModel", "charged", "I", false)
  | 22 => ("BudgetMeterModel", "stopped", "I", false)
  | 23 => ("BudgetMeterModel", "register", "[I", true)
  | 24 => ("BudgetMeterModel", "value", "[I", true)
  | 25 => ("BudgetMeterModel", "runStatus", "I", false)
  | 26 => ("BudgetMeterModel", "runSteps", "I", false)
  | 27 => ("BudgetMeterModel", "runLeft", "I", false)
  | 28 => ("BudgetMeterModel", "runCharges", "I", false)
  | 29 => ("BudgetMeterModel", "runAt", "I", false)
  | _ => ("BudgetMeterModel", "hash", "J", false)
def tyX8 : Nat → FieldType := fun k => match k with
  | 0 => .array .int
  | 1 => .array .int
  | 2 => .array .int
  | 3 => .int
  | 4 => .array .int
  | 5 => .array .int
  | 6 => .int
  | 7 => .int
  | 8 => .int
  | 9 => .int
  | 10 => .array .int
  | 11 => .array .int
  | 12 => .array .int
  | 13 => .array .boolean
  | 14 => .array .int
  | 15 => .array .int
  | 16 => .array .int
  | 17 => .array .int
  | 18 => .int
  | 19 => .int
  | 20 => .int
  | 21 => .int
  | 22 => .int
  | 23 => .array .int
  | 24 => .array .int
  | 25 => .int
  | 26 => .int
  | 27 => .int
  | 28 => .int
  | 29 => .int
  | _ => .long
theorem nmX8 : ∀ a, a < 31 → ∀ b, b < 31 → a ≠ b → (TX8 a).2.1 ≠ (TX8 b).2.1 := by decide +kernel
theorem tyX8_ok : ∀ k, k < 31 → parseFieldDescriptor (TX8 k).2.2.1 = some (tyX8 k) := by decide +kernel
def RJ9 : String := "java/lang/Math"
def RJxf58ca : String := "java/lang/Float"
def RL : String := "BudgetMeterLaw"
abbrev cX6_current : ByteArray := prog_7_method_9_code
def yX6_current : MethodName := ⟨RX6, "current", "()I"⟩
abbrev cX6_skipSpaces : ByteArray := prog_7_method_7_code
def yX6_skipSpaces : MethodName := ⟨RX6, "skipSpaces", "()V"⟩
abbrev cX6_atEnd : ByteArray := prog_7_method_8_code
def yX6_atEnd : MethodName := ⟨RX6, "atEnd", "()Z"⟩
abbrev cX6_opcodeOf : ByteArray := prog_7_method_12_code
def yX6_opcodeOf : MethodName := ⟨RX6, "opcodeOf", "(I)I"⟩
abbrev cX6_isDigit : ByteArray := prog_7_method_11_code
def yX6_isDigit : MethodName := ⟨RX6, "isDigit", "(I)Z"⟩
abbrev cX6_readNumber : ByteArray := prog_7_method_5_code
def yX6_readNumber : MethodName := ⟨RX6, "readNumber", "(IZ)I"⟩
abbrev cX6_greatestOperand : ByteArray := prog_7_method_10_code
def yX6_greatestOperand : MethodName := ⟨RX6, "greatestOperand", "(I)I"⟩
abbrev cX6_readSemicolon : ByteArray := prog_7_method_6_code
def yX6_readSemicolon : MethodName := ⟨RX6, "readSemicolon", "()V"⟩
abbrev cX5_add : ByteArray := prog_6_method_3_code
def yX5_add : MethodName := ⟨RX5, "add", "(III)V"⟩
abbrev cX6_readInstruction : ByteArray := prog_7_method_4_code
def yX6_readInstruction : MethodName := ⟨RX6, "readInstruction", "(LBudgetMeter$Setup;)V"⟩
abbrev cX6_translate : ByteArray := prog_7_method_3_code
def yX6_translate : MethodName := ⟨RX6, "translate", "(LBudgetMeter$Setup;)I"⟩
abbrev cX1_init : ByteArray := prog_2_method_1_code
def yX1_init : MethodName := ⟨RX1, "<init>", "()V"⟩
abbrev cX4_entriesOf : ByteArray := prog_5_method_3_code
def yX4_entriesOf : MethodName := ⟨RX4, "entriesOf", "(I)[I"⟩
abbrev cX1_begin : ByteArray := prog_2_method_4_code
def yX1_begin : MethodName := ⟨RX1, "begin", "(I)V"⟩
abbrev cX5_has : ByteArray := prog_6_method_2_code
def yX5_has : MethodName := ⟨RX5, "has", "(I)Z"⟩
abbrev cX1_pay : ByteArray := prog_2_method_6_code
def yX1_pay : MethodName := ⟨RX1, "pay", "(I)Z"⟩
abbrev cX1_finish : ByteArray := prog_2_method_5_code
def yX1_finish : MethodName := ⟨RX1, "finish", "(II)V"⟩
abbrev cX1_valueOf : ByteArray := prog_2_method_3_code
def yX1_valueOf : MethodName := ⟨RX1, "valueOf", "(I)I"⟩
abbrev cX1_put : ByteArray := prog_2_method_8_code
def yX1_put : MethodName := ⟨RX1, "put", "(II)V"⟩
abbrev cX1_perform : ByteArray := prog_2_method_7_code
def yX1_perform : MethodName := ⟨RX1, "perform", "(LBudgetMeter$Setup;I)I"⟩
abbrev cX1_execute : ByteArray := prog_2_method_2_code
def yX1_execute : MethodName := ⟨RX1, "execute", "(LBudgetMeter$Setup;LBudgetMeter$Prices;II)V"⟩
abbrev cX2_init : ByteArray := prog_3_method_1_code
def yX2_init : MethodName := ⟨RX2, "<init>", "()V"⟩
abbrev cX2_bit : ByteArray := prog_3_method_6_code
def yX2_bit : MethodName := ⟨RX2, "bit", "(I)I"⟩
abbrev cX2_jumps : ByteArray := prog_3_method_7_code
def yX2_jumps : MethodName := ⟨RX2, "jumps", "(I)Z"⟩
abbrev cX2_leaders : ByteArray := prog_3_method_9_code
def yX2_leaders : MethodName := ⟨RX2, "leaders", "(LBudgetMeter$Setup;)I"⟩
abbrev cX2_contains : ByteArray := prog_3_method_5_code
def yX2_contains : MethodName := ⟨RX2, "contains", "(II)Z"⟩
abbrev cX2_divide : ByteArray := prog_3_method_10_code
def yX2_divide : MethodName := ⟨RX2, "divide", "(LBudgetMeter$Setup;I)V"⟩
abbrev cX2_goesOn : ByteArray := prog_3_method_8_code
def yX2_goesOn : MethodName := ⟨RX2, "goesOn", "(I)Z"⟩
abbrev cX2_blockFrom : ByteArray := prog_3_method_12_code
def yX2_blockFrom : MethodName := ⟨RX2, "blockFrom", "(LBudgetMeter$Setup;I)I"⟩
abbrev cX2_connect : ByteArray := prog_3_method_11_code
def yX2_connect : MethodName := ⟨RX2, "connect", "(LBudgetMeter$Setup;I)V"⟩
abbrev cX2_has : ByteArray := prog_3_method_3_code
def yX2_has : MethodName := ⟨RX2, "has", "(I)Z"⟩
abbrev cX2_addPredecessor : ByteArray := prog_3_method_14_code
def yX2_addPredecessor : MethodName := ⟨RX2, "addPredecessor", "(II)V"⟩
abbrev cX2_collectPredecessors : ByteArray := prog_3_method_13_code
def yX2_collectPredecessors : MethodName := ⟨RX2, "collectPredecessors", "()V"⟩
abbrev cX2_canEnd : ByteArray := prog_3_method_4_code
def yX2_canEnd : MethodName := ⟨RX2, "canEnd", "(I)Z"⟩
abbrev cX2_isJoined : ByteArray := prog_3_method_16_code
def yX2_isJoined : MethodName := ⟨RX2, "isJoined", "(II)Z"⟩
abbrev cX2_join : ByteArray := prog_3_method_15_code
def yX2_join : MethodName := ⟨RX2, "join", "()V"⟩
abbrev cJ9_min_7cf53 : ByteArray := prog_11_method_69_code
def yJ9_min_7cf53 : MethodName := ⟨RJ9, "min", "(II)I"⟩
abbrev cX2_headOf : ByteArray := prog_3_method_17_code
def yX2_headOf : MethodName := ⟨RX2, "headOf", "(I)I"⟩
abbrev cX2_reach : ByteArray := prog_3_method_18_code
def yX2_reach : MethodName := ⟨RX2, "reach", "()I"⟩
abbrev cX2_update : ByteArray := prog_3_method_2_code
def yX2_update : MethodName := ⟨RX2, "update", "(LBudgetMeter$Setup;)V"⟩
abbrev cX5_init : ByteArray := prog_6_method_1_code
def yX5_init : MethodName := ⟨RX5, "<init>", "()V"⟩
abbrev cX3_init : ByteArray := prog_4_method_1_code
def yX3_init : MethodName := ⟨RX3, "<init>", "()V"⟩
abbrev cX3_placeAt : ByteArray := prog_4_method_4_code
def yX3_placeAt : MethodName := ⟨RX3, "placeAt", "(I)LBudgetMeter$Setup;"⟩
abbrev cX5_takeProgram : ByteArray := prog_6_method_5_code
def yX5_takeProgram : MethodName := ⟨RX5, "takeProgram", "(LBudgetMeter$Setup;)V"⟩
abbrev cX5_takeAll : ByteArray := prog_6_method_6_code
def yX5_takeAll : MethodName := ⟨RX5, "takeAll", "(LBudgetMeter$Setup;)V"⟩
abbrev cX3_save : ByteArray := prog_4_method_2_code
def yX3_save : MethodName := ⟨RX3, "save", "(LBudgetMeter$Setup;)V"⟩
abbrev cX3_restore : ByteArray := prog_4_method_3_code
def yX3_restore : MethodName := ⟨RX3, "restore", "(LBudgetMeter$Setup;)V"⟩
abbrev cX4_init : ByteArray := prog_5_method_1_code
def yX4_init : MethodName := ⟨RX4, "<init>", "()V"⟩
abbrev cX5_costAt : ByteArray := prog_6_method_4_code
def yX5_costAt : MethodName := ⟨RX5, "costAt", "(I)I"⟩
abbrev cX4_sumInstructions : ByteArray := prog_5_method_4_code
def yX4_sumInstructions : MethodName := ⟨RX4, "sumInstructions", "(LBudgetMeter$Setup;LBudgetMeter$Graph;)V"⟩
abbrev cX4_sumChains : ByteArray := prog_5_method_5_code
def yX4_sumChains : MethodName := ⟨RX4, "sumChains", "(LBudgetMeter$Graph;)V"⟩
abbrev cX4_markEntries : ByteArray := prog_5_method_6_code
def yX4_markEntries : MethodName := ⟨RX4, "markEntries", "(LBudgetMeter$Setup;LBudgetMeter$Graph;)V"⟩
abbrev cX4_forgetWays : ByteArray := prog_5_method_11_code
def yX4_forgetWays : MethodName := ⟨RX4, "forgetWays", "(LBudgetMeter$Graph;)V"⟩
abbrev cX4_wayFrom : ByteArray := prog_5_method_12_code
def yX4_wayFrom : MethodName := ⟨RX4, "wayFrom", "(LBudgetMeter$Graph;I)I"⟩
abbrev cJ9_max_7cf53 : ByteArray := prog_11_method_65_code
def yJ9_max_7cf53 : MethodName := ⟨RJ9, "max", "(II)I"⟩
abbrev cX4_greatestFrom : ByteArray := prog_5_method_8_code
def yX4_greatestFrom : MethodName := ⟨RX4, "greatestFrom", "(LBudgetMeter$Graph;I)I"⟩
abbrev cX4_greatestWay : ByteArray := prog_5_method_7_code
def yX4_greatestWay : MethodName := ⟨RX4, "greatestWay", "(LBudgetMeter$Graph;)I"⟩
abbrev cX4_leastFrom : ByteArray := prog_5_method_10_code
def yX4_leastFrom : MethodName := ⟨RX4, "leastFrom", "(LBudgetMeter$Graph;I)I"⟩
abbrev cX4_leastWay : ByteArray := prog_5_method_9_code
def yX4_leastWay : MethodName := ⟨RX4, "leastWay", "(LBudgetMeter$Graph;)I"⟩
abbrev cX4_update : ByteArray := prog_5_method_2_code
def yX4_update : MethodName := ⟨RX4, "update", "(LBudgetMeter$Setup;LBudgetMeter$Graph;)V"⟩
abbrev cX6_init : ByteArray := prog_7_method_1_code
def yX6_init : MethodName := ⟨RX6, "<init>", "()V"⟩
abbrev cX6_add : ByteArray := prog_7_method_2_code
def yX6_add : MethodName := ⟨RX6, "add", "(I)Z"⟩
abbrev cX7_init : ByteArray := prog_1_method_1_code
def yX7_init : MethodName := ⟨RX7, "<init>", "()V"⟩
abbrev cX7_isErrorCode : ByteArray := prog_1_method_33_code
def yX7_isErrorCode : MethodName := ⟨RX7, "isErrorCode", "(I)Z"⟩
abbrev cX7_refuse : ByteArray := prog_1_method_32_code
def yX7_refuse : MethodName := ⟨RX7, "refuse", "(I)I"⟩
abbrev cX7_append : ByteArray := prog_1_method_2_code
def yX7_append : MethodName := ⟨RX7, "append", "(I)I"⟩
abbrev cX7_clearText : ByteArray := prog_1_method_3_code
def yX7_clearText : MethodName := ⟨RX7, "clearText", "()I"⟩
abbrev cX7_analyse : ByteArray := prog_1_method_31_code
def yX7_analyse : MethodName := ⟨RX7, "analyse", "()V"⟩
abbrev cX7_assemble : ByteArray := prog_1_method_4_code
def yX7_assemble : MethodName := ⟨RX7, "assemble", "()I"⟩
abbrev cX7_setCost : ByteArray := prog_1_method_5_code
def yX7_setCost : MethodName := ⟨RX7, "setCost", "(II)I"⟩
abbrev cX7_opcode : ByteArray := prog_1_method_6_code
def yX7_opcode : MethodName := ⟨RX7, "opcode", "(I)I"⟩
abbrev cX7_blocks : ByteArray := prog_1_method_7_code
def yX7_blocks : MethodName := ⟨RX7, "blocks", "()I"⟩
abbrev cX7_blockOf : ByteArray := prog_1_method_8_code
def yX7_blockOf : MethodName := ⟨RX7, "blockOf", "(I)I"⟩
abbrev cX7_successors : ByteArray := prog_1_method_9_code
def yX7_successors : MethodName := ⟨RX7, "successors", "(I)I"⟩
abbrev cX7_blockCost : ByteArray := prog_1_method_10_code
def yX7_blockCost : MethodName := ⟨RX7, "blockCost", "(I)I"⟩
abbrev cX7_chainHead : ByteArray := prog_1_method_11_code
def yX7_chainHead : MethodName := ⟨RX7, "chainHead", "(I)I"⟩
abbrev cX7_chainCost : ByteArray := prog_1_method_12_code
def yX7_chainCost : MethodName := ⟨RX7, "chainCost", "(I)I"⟩
abbrev cX7_reachableBlocks : ByteArray := prog_1_method_13_code
def yX7_reachableBlocks : MethodName := ⟨RX7, "reachableBlocks", "()I"⟩
abbrev cX7_greatestCost : ByteArray := prog_1_method_14_code
def yX7_greatestCost : MethodName := ⟨RX7, "greatestCost", "()I"⟩
abbrev cX7_leastCost : ByteArray := prog_1_method_15_code
def yX7_leastCost : MethodName := ⟨RX7, "leastCost", "()I"⟩
abbrev cX7_run : ByteArray := prog_1_method_16_code
def yX7_run : MethodName := ⟨RX7, "run", "(II)I"⟩
abbrev cX7_steps : ByteArray := prog_1_method_17_code
def yX7_steps : MethodName := ⟨RX7, "steps", "()I"⟩
abbrev cX7_remaining : ByteArray := prog_1_method_18_code
def yX7_remaining : MethodName := ⟨RX7, "remaining", "()I"⟩
abbrev cX7_charges : ByteArray := prog_1_method_19_code
def yX7_charges : MethodName := ⟨RX7, "charges", "()I"⟩
abbrev cX7_register : ByteArray := prog_1_method_20_code
def yX7_register : MethodName := ⟨RX7, "register", "(I)I"⟩
abbrev cX7_stoppedAt : ByteArray := prog_1_method_21_code
def yX7_stoppedAt : MethodName := ⟨RX7, "stoppedAt", "()I"⟩
abbrev cX7_floatBits : ByteArray := prog_1_method_34_code
def yX7_floatBits : MethodName := ⟨RX7, "floatBits", "(F)I"⟩
abbrev cX7_chargeRateBits : ByteArray := prog_1_method_22_code
def yX7_chargeRateBits : MethodName := ⟨RX7, "chargeRateBits", "()I"⟩
abbrev cX7_neededBudget : ByteArray := prog_1_method_23_code
def yX7_neededBudget : MethodName := ⟨RX7, "neededBudget", "()I"⟩
abbrev cX7_undo : ByteArray := prog_1_method_24_code
def yX7_undo : MethodName := ⟨RX7, "undo", "()I"⟩
abbrev cX7_errorCount : ByteArray := prog_1_method_25_code
def yX7_errorCount : MethodName := ⟨RX7, "errorCount", "(I)I"⟩
abbrev cX7_mix : ByteArray := prog_1_method_30_code
def yX7_mix : MethodName := ⟨RX7, "mix", "(JI)J"⟩
abbrev cX7_mixSetup : ByteArray := prog_1_method_27_code
def yX7_mixSetup : MethodName := ⟨RX7, "mixSetup", "(J)J"⟩
abbrev cX7_mixFlow : ByteArray := prog_1_method_28_code
def yX7_mixFlow : MethodName := ⟨RX7, "mixFlow", "(J)J"⟩
abbrev cX7_mixLatest : ByteArray := prog_1_method_29_code
def yX7_mixLatest : MethodName := ⟨RX7, "mixLatest", "(J)J"⟩
abbrev cX7_digest : ByteArray := prog_1_method_26_code
def yX7_digest : MethodName := ⟨RX7, "digest", "()J"⟩
abbrev cX8_init : ByteArray := prog_9_method_1_code
def yX8_init : MethodName := ⟨RX8, "<init>", "()V"⟩
abbrev cX8_within : ByteArray := prog_9_method_3_code
def yX8_within : MethodName := ⟨RX8, "within", "(III)Z"⟩
abbrev cX8_counts : ByteArray := prog_9_method_4_code
def yX8_counts : MethodName := ⟨RX8, "counts", "(I)I"⟩
abbrev cX8_isInstruction : ByteArray := prog_9_method_5_code
def yX8_isInstruction : MethodName := ⟨RX8, "isInstruction", "(I)Z"⟩
abbrev cX8_saves : ByteArray := prog_9_method_6_code
def yX8_saves : MethodName := ⟨RX8, "saves", "()V"⟩
abbrev cX8_undo : ByteArray := prog_9_method_7_code
def yX8_undo : MethodName := ⟨RX8, "undo", "()I"⟩
abbrev cX8_append : ByteArray := prog_9_method_8_code
def yX8_append : MethodName := ⟨RX8, "append", "(I)I"⟩
abbrev cX8_clearText : ByteArray := prog_9_method_9_code
def yX8_clearText : MethodName := ⟨RX8, "clearText", "()I"⟩
abbrev cX8_here : ByteArray := prog_9_method_10_code
def yX8_here : MethodName := ⟨RX8, "here", "()I"⟩
abbrev cX8_skips : ByteArray := prog_9_method_11_code
def yX8_skips : MethodName := ⟨RX8, "skips", "()V"⟩
abbrev cX8_opcodeOf : ByteArray := prog_9_method_12_code
def yX8_opcodeOf : MethodName := ⟨RX8, "opcodeOf", "(I)I"⟩
abbrev cX8_passes : ByteArray := prog_9_method_13_code
def yX8_passes : MethodName := ⟨RX8, "passes", "(IZ)Z"⟩
abbrev cX8_passesInstruction : ByteArray := prog_9_method_14_code
def yX8_passesInstruction : MethodName := ⟨RX8, "passesInstruction", "()Z"⟩
abbrev cX8_assemble : ByteArray := prog_9_method_15_code
def yX8_assemble : MethodName := ⟨RX8, "assemble", "()I"⟩
abbrev cX8_setCost : ByteArray := prog_9_method_16_code
def yX8_setCost : MethodName := ⟨RX8, "setCost", "(II)I"⟩
abbrev cX8_opcode : ByteArray := prog_9_method_17_code
def yX8_opcode : MethodName := ⟨RX8, "opcode", "(I)I"⟩
abbrev cX8_costAt : ByteArray := prog_9_method_18_code
def yX8_costAt : MethodName := ⟨RX8, "costAt", "(I)I"⟩
abbrev cX8_isBranch : ByteArray := prog_9_method_19_code
def yX8_isBranch : MethodName := ⟨RX8, "isBranch", "(I)Z"⟩
abbrev cX8_targetOf : ByteArray := prog_9_method_20_code
def yX8_targetOf : MethodName := ⟨RX8, "targetOf", "(I)I"⟩
abbrev cX8_isLeader : ByteArray := prog_9_method_21_code
def yX8_isLeader : MethodName := ⟨RX8, "isLeader", "(I)Z"⟩
abbrev cX8_goesTo : ByteArray := prog_9_method_22_code
def yX8_goesTo : MethodName := ⟨RX8, "goesTo", "(II)V"⟩
abbrev cX8_laysFollowing : ByteArray := prog_9_method_23_code
def yX8_laysFollowing : MethodName := ⟨RX8, "laysFollowing", "(II)V"⟩
abbrev cX8_comingTo : ByteArray := prog_9_method_24_code
def yX8_comingTo : MethodName := ⟨RX8, "comingTo", "(I)I"⟩
abbrev cX8_isJoined : ByteArray := prog_9_method_25_code
def yX8_isJoined : MethodName := ⟨RX8, "isJoined", "(II)Z"⟩
abbrev cX8_headOf : ByteArray := prog_9_method_26_code
def yX8_headOf : MethodName := ⟨RX8, "headOf", "(I)I"⟩
abbrev cX8_laysBlocks : ByteArray := prog_9_method_27_code
def yX8_laysBlocks : MethodName := ⟨RX8, "laysBlocks", "()V"⟩
abbrev cX8_isBlock : ByteArray := prog_9_method_28_code
def yX8_isBlock : MethodName := ⟨RX8, "isBlock", "(I)Z"⟩
abbrev cX8_chainCostOf : ByteArray := prog_9_method_29_code
def yX8_chainCostOf : MethodName := ⟨RX8, "chainCostOf", "(I)I"⟩
abbrev cX8_blocks : ByteArray := prog_9_method_30_code
def yX8_blocks : MethodName := ⟨RX8, "blocks", "()I"⟩
abbrev cX8_blockOf : ByteArray := prog_9_method_31_code
def yX8_blockOf : MethodName := ⟨RX8, "blockOf", "(I)I"⟩
abbrev cX8_successors : ByteArray := prog_9_method_32_code
def yX8_successors : MethodName := ⟨RX8, "successors", "(I)I"⟩
abbrev cX8_blockCost : ByteArray := prog_9_method_33_code
def yX8_blockCost : MethodName := ⟨RX8, "blockCost", "(I)I"⟩
abbrev cX8_chainHead : ByteArray := prog_9_method_34_code
def yX8_chainHead : MethodName := ⟨RX8, "chainHead", "(I)I"⟩
abbrev cX8_chainCost : ByteArray := prog_9_method_35_code
def yX8_chainCost : MethodName := ⟨RX8, "chainCost", "(I)I"⟩
abbrev cX8_reachableBlocks : ByteArray := prog_9_method_36_code
def yX8_reachableBlocks : MethodName := ⟨RX8, "reachableBlocks", "()I"⟩
abbrev cX8_waysGrow : ByteArray := prog_9_method_37_code
def yX8_waysGrow : MethodName := ⟨RX8, "waysGrow", "(Z)Z"⟩
abbrev cX8_bestWay : ByteArray := prog_9_method_38_code
def yX8_bestWay : MethodName := ⟨RX8, "bestWay", "(Z)I"⟩
abbrev cX8_greatestCost : ByteArray := prog_9_method_39_code
def yX8_greatestCost : MethodName := ⟨RX8, "greatestCost", "()I"⟩
abbrev cX8_leastCost : ByteArray := prog_9_method_40_code
def yX8_leastCost : MethodName := ⟨RX8, "leastCost", "()I"⟩
abbrev cX8_does : ByteArray := prog_9_method_41_code
def yX8_does : MethodName := ⟨RX8, "does", "(I)I"⟩
abbrev cX8_runs : ByteArray := prog_9_method_42_code
def yX8_runs : MethodName := ⟨RX8, "runs", "(II)V"⟩
abbrev cX8_run : ByteArray := prog_9_method_43_code
def yX8_run : MethodName := ⟨RX8, "run", "(II)I"⟩
abbrev cX8_steps : ByteArray := prog_9_method_44_code
def yX8_steps : MethodName := ⟨RX8, "steps", "()I"⟩
abbrev cX8_remaining : ByteArray := prog_9_method_45_code
def yX8_remaining : MethodName := ⟨RX8, "remaining", "()I"⟩
abbrev cX8_charges : ByteArray := prog_9_method_46_code
def yX8_charges : MethodName := ⟨RX8, "charges", "()I"⟩
abbrev cX8_register : ByteArray := prog_9_method_47_code
def yX8_register : MethodName := ⟨RX8, "register", "(I)I"⟩
abbrev cX8_stoppedAt : ByteArray := prog_9_method_48_code
def yX8_stoppedAt : MethodName := ⟨RX8, "stoppedAt", "()I"⟩
abbrev cJxf58ca_isNaN_12338 : ByteArray := prog_10_method_6_code
def yJxf58ca_isNaN_12338 : MethodName := ⟨RJxf58ca, "isNaN", "(F)Z"⟩
abbrev cJxf58ca_floatToIntBits_5c35a : ByteArray := prog_10_method_24_code
def yJxf58ca_floatToIntBits_5c35a : MethodName := ⟨RJxf58ca, "floatToIntBits", "(F)I"⟩
abbrev cX8_chargeRateBits : ByteArray := prog_9_method_49_code
def yX8_chargeRateBits : MethodName := ⟨RX8, "chargeRateBits", "()I"⟩
abbrev cX8_neededBudget : ByteArray := prog_9_method_50_code
def yX8_neededBudget : MethodName := ⟨RX8, "neededBudget", "()I"⟩
abbrev cX8_errorCount : ByteArray := prog_9_method_51_code
def yX8_errorCount : MethodName := ⟨RX8, "errorCount", "(I)I"⟩
abbrev cX8_mix : ByteArray := prog_9_method_52_code
def yX8_mix : MethodName := ⟨RX8, "mix", "(I)V"⟩
abbrev cX8_mixBlocks : ByteArray := prog_9_method_53_code
def yX8_mixBlocks : MethodName := ⟨RX8, "mixBlocks", "()V"⟩
abbrev cX8_mixRun : ByteArray := prog_9_method_54_code
def yX8_mixRun : MethodName := ⟨RX8, "mixRun", "()V"⟩
abbrev cX8_digest : ByteArray := prog_9_method_55_code
def yX8_digest : MethodName := ⟨RX8, "digest", "()J"⟩
abbrev cL_law : ByteArray := code
def yL_law : MethodName := ⟨RL, "law", "([I)Z"⟩
abbrev CL : List vw_C := [(RX0, TX0, 6), (RX1, TX1, 6), (RX2, TX2, 12), (RX3, TX3, 3), (RX4, TX4, 9), (RX5, TX5, 5), (RX6, TX6, 4), (RX7, TX7, 9), (RX8, TX8, 31)]
def GW : List Cond := lw_tbl.filter goodWord
