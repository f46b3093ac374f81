section
-- ===== PART A: goes FIRST, ahead of the names: the tables' words, and 'selects' of the private methods out of them =====
/-- a private method of a class that the tables say can be made, by its rows of tables_1 -/
def lw_okq (q : MethodName × Nat) : Prop := (q.1.cls ≠ "java/lang/invoke/MethodHandle" ∧ q.1.cls ≠ "java/lang/invoke/VarHandle") ∧ Cond.instantiable q.1.cls q.2 ∈ tables_1 ∧ Cond.privateMethod q.1 ∈ tables_1 ∧ Cond.instanceMethod q.1 ∈ tables_1
theorem lw_p0 : lw_okq (⟨"BudgetMeter", "refuse", "(I)I"⟩, 9) := ⟨⟨by decide +kernel, by decide +kernel⟩, List.mem_of_getElem? (i := 13) (by decide +kernel), List.mem_of_getElem? (i := 251) (by decide +kernel), List.mem_of_getElem? (i := 252) (by decide +kernel)⟩
theorem lw_p1 : lw_okq (⟨"BudgetMeter$Source", "skipSpaces", "()V"⟩, 4) := ⟨⟨by decide +kernel, by decide +kernel⟩, List.mem_of_getElem? (i := 21) (by decide +kernel), List.mem_of_getElem? (i := 274) (by decide +kernel), List.mem_of_getElem? (i := 275) (by decide +kernel)⟩
theorem lw_p2 : lw_okq (⟨"BudgetMeter$Source", "current", "()I"⟩, 4) := ⟨⟨by decide +kernel, by decide +kernel⟩, List.mem_of_getElem? (i := 21) (by decide +kernel), List.mem_of_getElem? (i := 278) (by decide +kernel), List.mem_of_getElem? (i := 279) (by decide +kernel)⟩
theorem lw_p3 : lw_okq (⟨"BudgetMeter$Source", "atEnd", "()Z"⟩, 4) := ⟨⟨by decide +kernel, by decide +kernel⟩, List.mem_of_getElem? (i := 21) (by decide +kernel), List.mem_of_getElem? (i := 282) (by decide +kernel), List.mem_of_getElem? (i := 283) (by decide +kernel)⟩
theorem lw_p4 : lw_okq (⟨"BudgetMeter$Source", "readInstruction", "(LBudgetMeter$Setup;)V"⟩, 4) := ⟨⟨by decide +kernel, by decide +kernel⟩, List.mem_of_getElem? (i := 21) (by decide +kernel), List.mem_of_getElem? (i := 286) (by decide +kernel), List.mem_of_getElem? (i := 287) (by decide +kernel)⟩
theorem lw_p5 : lw_okq (⟨"BudgetMeter$Source", "readNumber", "(IZ)I"⟩, 4) := ⟨⟨by decide +kernel, by decide +kernel⟩, List.mem_of_getElem? (i := 21) (by decide +kernel), List.mem_of_getElem? (i := 293) (by decide +kernel), List.mem_of_getElem? (i := 294) (by decide +kernel)⟩
theorem lw_p6 : lw_okq (⟨"BudgetMeter$Source", "readSemicolon", "()V"⟩, 4) := ⟨⟨by decide +kernel, by decide +kernel⟩, List.mem_of_getElem? (i := 21) (by decide +kernel), List.mem_of_getElem? (i := 303) (by decide +kernel), List.mem_of_getElem? (i := 304) (by decide +kernel)⟩
theorem lw_p7 : lw_okq (⟨"BudgetMeter$History", "placeAt", "(I)LBudgetMeter$Setup;"⟩, 3) := ⟨⟨by decide +kernel, by decide +kernel⟩, List.mem_of_getElem? (i := 169) (by decide +kernel), List.mem_of_getElem? (i := 315) (by decide +kernel), List.mem_of_getElem? (i := 316) (by decide +kernel)⟩
theorem lw_p8 : lw_okq (⟨"BudgetMeter", "analyse", "()V"⟩, 9) := ⟨⟨by decide +kernel, by decide +kernel⟩, List.mem_of_getElem? (i := 13) (by decide +kernel), List.mem_of_getElem? (i := 331) (by decide +kernel), List.mem_of_getElem? (i := 332) (by decide +kernel)⟩
theorem lw_p9 : lw_okq (⟨"BudgetMeter$Graph", "divide", "(LBudgetMeter$Setup;I)V"⟩, 12) := ⟨⟨by decide +kernel, by decide +kernel⟩, List.mem_of_getElem? (i := 75) (by decide +kernel), List.mem_of_getElem? (i := 348) (by decide +kernel), List.mem_of_getElem? (i := 349) (by decide +kernel)⟩
theorem lw_p10 : lw_okq (⟨"BudgetMeter$Graph", "connect", "(LBudgetMeter$Setup;I)V"⟩, 12) := ⟨⟨by decide +kernel, by decide +kernel⟩, List.mem_of_getElem? (i := 75) (by decide +kernel), List.mem_of_getElem? (i := 355) (by decide +kernel), List.mem_of_getElem? (i := 356) (by decide +kernel)⟩
theorem lw_p11 : lw_okq (⟨"BudgetMeter$Graph", "blockFrom", "(LBudgetMeter$Setup;I)I"⟩, 12) := ⟨⟨by decide +kernel, by decide +kernel⟩, List.mem_of_getElem? (i := 75) (by decide +kernel), List.mem_of_getElem? (i := 366) (by decide +kernel), List.mem_of_getElem? (i := 367) (by decide +kernel)⟩
theorem lw_p12 : lw_okq (⟨"BudgetMeter$Graph", "collectPredecessors", "()V"⟩, 12) := ⟨⟨by decide +kernel, by decide +kernel⟩, List.mem_of_getElem? (i := 75) (by decide +kernel), List.mem_of_getElem? (i := 370) (by decide +kernel), List.mem_of_getElem? (i := 371) (by decide +kernel)⟩
theorem lw_p13 : lw_okq (⟨"BudgetMeter$Graph", "addPredecessor", "(II)V"⟩, 12) := ⟨⟨by decide +kernel, by decide +kernel⟩, List.mem_of_getElem? (i := 75) (by decide +kernel), List.mem_of_getElem? (i := 374) (by decide +kernel), List.mem_of_getElem? (i := 375) (by decide +kernel)⟩
theorem lw_p14 : lw_okq (⟨"BudgetMeter$Graph", "join", "()V"⟩, 12) := ⟨⟨by decide +kernel, by decide +kernel⟩, List.mem_of_getElem? (i := 75) (by decide +kernel), List.mem_of_getElem? (i := 382) (by decide +kernel), List.mem_of_getElem? (i := 383) (by decide +kernel)⟩
theorem lw_p15 : lw_okq (⟨"BudgetMeter$Graph", "isJoined", "(II)Z"⟩, 12) := ⟨⟨by decide +kernel, by decide +kernel⟩, List.mem_of_getElem? (i := 75) (by decide +kernel), List.mem_of_getElem? (i := 386) (by decide +kernel), List.mem_of_getElem? (i := 387) (by decide +kernel)⟩
def lw_privs_1 : List (MethodName × Nat) := [(⟨"BudgetMeter", "refuse", "(I)I"⟩, 9), (⟨"BudgetMeter$Source", "skipSpaces", "()V"⟩, 4), (⟨"BudgetMeter$Source", "current", "()I"⟩, 4), (⟨"BudgetMeter$Source", "atEnd", "()Z"⟩, 4), (⟨"BudgetMeter$Source", "readInstruction", "(LBudgetMeter$Setup;)V"⟩, 4), (⟨"BudgetMeter$Source", "readNumber", "(IZ)I"⟩, 4), (⟨"BudgetMeter$Source", "readSemicolon", "()V"⟩, 4), (⟨"BudgetMeter$History", "placeAt", "(I)LBudgetMeter$Setup;"⟩, 3), (⟨"BudgetMeter", "analyse", "()V"⟩, 9), (⟨"BudgetMeter$Graph", "divide", "(LBudgetMeter$Setup;I)V"⟩, 12), (⟨"BudgetMeter$Graph", "connect", "(LBudgetMeter$Setup;I)V"⟩, 12), (⟨"BudgetMeter$Graph", "blockFrom", "(LBudgetMeter$Setup;I)I"⟩, 12), (⟨"BudgetMeter$Graph", "collectPredecessors", "()V"⟩, 12), (⟨"BudgetMeter$Graph", "addPredecessor", "(II)V"⟩, 12), (⟨"BudgetMeter$Graph", "join", "()V"⟩, 12), (⟨"BudgetMeter$Graph", "isJoined", "(II)Z"⟩, 12)]
theorem lw_r1 : ∀ q ∈ lw_privs_1, lw_okq q := List.forall_mem_cons.mpr ⟨lw_p0, List.forall_mem_cons.mpr ⟨lw_p1, List.forall_mem_cons.mpr ⟨lw_p2, List.forall_mem_cons.mpr ⟨lw_p3, List.forall_mem_cons.mpr ⟨lw_p4, List.forall_mem_cons.mpr ⟨lw_p5, List.forall_mem_cons.mpr ⟨lw_p6, List.forall_mem_cons.mpr ⟨lw_p7, List.forall_mem_cons.mpr ⟨lw_p8, List.forall_mem_cons.mpr ⟨lw_p9, List.forall_mem_cons.mpr ⟨lw_p10, List.forall_mem_cons.mpr ⟨lw_p11, List.forall_mem_cons.mpr ⟨lw_p12, List.forall_mem_cons.mpr ⟨lw_p13, List.forall_mem_cons.mpr ⟨lw_p14, List.forall_mem_cons.mpr ⟨lw_p15, fun _ h => absurd h List.not_mem_nil⟩⟩⟩⟩⟩⟩⟩⟩⟩⟩⟩⟩⟩⟩⟩⟩
theorem lw_p16 : lw_okq (⟨"BudgetMeter$Graph", "headOf", "(I)I"⟩, 12) := ⟨⟨by decide +kernel, by decide +kernel⟩, List.mem_of_getElem? (i := 75) (by decide +kernel), List.mem_of_getElem? (i := 394) (by decide +kernel), List.mem_of_getElem? (i := 395) (by decide +kernel)⟩
theorem lw_p17 : lw_okq (⟨"BudgetMeter$Graph", "reach", "()I"⟩, 12) := ⟨⟨by decide +kernel, by decide +kernel⟩, List.mem_of_getElem? (i := 75) (by decide +kernel), List.mem_of_getElem? (i := 401) (by decide +kernel), List.mem_of_getElem? (i := 402) (by decide +kernel)⟩
theorem lw_p18 : lw_okq (⟨"BudgetMeter$Prices", "sumInstructions", "(LBudgetMeter$Setup;LBudgetMeter$Graph;)V"⟩, 9) := ⟨⟨by decide +kernel, by decide +kernel⟩, List.mem_of_getElem? (i := 130) (by decide +kernel), List.mem_of_getElem? (i := 409) (by decide +kernel), List.mem_of_getElem? (i := 410) (by decide +kernel)⟩
theorem lw_p19 : lw_okq (⟨"BudgetMeter$Prices", "sumChains", "(LBudgetMeter$Graph;)V"⟩, 9) := ⟨⟨by decide +kernel, by decide +kernel⟩, List.mem_of_getElem? (i := 130) (by decide +kernel), List.mem_of_getElem? (i := 419) (by decide +kernel), List.mem_of_getElem? (i := 420) (by decide +kernel)⟩
theorem lw_p20 : lw_okq (⟨"BudgetMeter$Prices", "markEntries", "(LBudgetMeter$Setup;LBudgetMeter$Graph;)V"⟩, 9) := ⟨⟨by decide +kernel, by decide +kernel⟩, List.mem_of_getElem? (i := 130) (by decide +kernel), List.mem_of_getElem? (i := 423) (by decide +kernel), List.mem_of_getElem? (i := 424) (by decide +kernel)⟩
theorem lw_p21 : lw_okq (⟨"BudgetMeter$Prices", "greatestWay", "(LBudgetMeter$Graph;)I"⟩, 9) := ⟨⟨by decide +kernel, by decide +kernel⟩, List.mem_of_getElem? (i := 130) (by decide +kernel), List.mem_of_getElem? (i := 428) (by decide +kernel), List.mem_of_getElem? (i := 429) (by decide +kernel)⟩
theorem lw_p22 : lw_okq (⟨"BudgetMeter$Prices", "forgetWays", "(LBudgetMeter$Graph;)V"⟩, 9) := ⟨⟨by decide +kernel, by decide +kernel⟩, List.mem_of_getElem? (i := 130) (by decide +kernel), List.mem_of_getElem? (i := 432) (by decide +kernel), List.mem_of_getElem? (i := 433) (by decide +kernel)⟩
theorem lw_p23 : lw_okq (⟨"BudgetMeter$Prices", "greatestFrom", "(LBudgetMeter$Graph;I)I"⟩, 9) := ⟨⟨by decide +kernel, by decide +kernel⟩, List.mem_of_getElem? (i := 130) (by decide +kernel), List.mem_of_getElem? (i := 436) (by decide +kernel), List.mem_of_getElem? (i := 437) (by decide +kernel)⟩
theorem lw_p24 : lw_okq (⟨"BudgetMeter$Prices", "wayFrom", "(LBudgetMeter$Graph;I)I"⟩, 9) := ⟨⟨by decide +kernel, by decide +kernel⟩, List.mem_of_getElem? (i := 130) (by decide +kernel), List.mem_of_getElem? (i := 440) (by decide +kernel), List.mem_of_getElem? (i := 441) (by decide +kernel)⟩
theorem lw_p25 : lw_okq (⟨"BudgetMeter$Prices", "leastWay", "(LBudgetMeter$Graph;)I"⟩, 9) := ⟨⟨by decide +kernel, by decide +kernel⟩, List.mem_of_getElem? (i := 130) (by decide +kernel), List.mem_of_getElem? (i := 447) (by decide +kernel), List.mem_of_getElem? (i := 448) (by decide +kernel)⟩
theorem lw_p26 : lw_okq (⟨"BudgetMeter$Prices", "leastFrom", "(LBudgetMeter$Graph;I)I"⟩, 9) := ⟨⟨by decide +kernel, by decide +kernel⟩, List.mem_of_getElem? (i := 130) (by decide +kernel), List.mem_of_getElem? (i := 451) (by decide +kernel), List.mem_of_getElem? (i := 452) (by decide +kernel)⟩
theorem lw_p27 : lw_okq (⟨"BudgetMeter$Execution", "begin", "(I)V"⟩, 6) := ⟨⟨by decide +kernel, by decide +kernel⟩, List.mem_of_getElem? (i := 189) (by decide +kernel), List.mem_of_getElem? (i := 515) (by decide +kernel), List.mem_of_getElem? (i := 516) (by decide +kernel)⟩
theorem lw_p28 : lw_okq (⟨"BudgetMeter$Execution", "pay", "(I)Z"⟩, 6) := ⟨⟨by decide +kernel, by decide +kernel⟩, List.mem_of_getElem? (i := 189) (by decide +kernel), List.mem_of_getElem? (i := 520) (by decide +kernel), List.mem_of_getElem? (i := 521) (by decide +kernel)⟩
theorem lw_p29 : lw_okq (⟨"BudgetMeter$Execution", "finish", "(II)V"⟩, 6) := ⟨⟨by decide +kernel, by decide +kernel⟩, List.mem_of_getElem? (i := 189) (by decide +kernel), List.mem_of_getElem? (i := 524) (by decide +kernel), List.mem_of_getElem? (i := 525) (by decide +kernel)⟩
theorem lw_p30 : lw_okq (⟨"BudgetMeter$Execution", "perform", "(LBudgetMeter$Setup;I)I"⟩, 6) := ⟨⟨by decide +kernel, by decide +kernel⟩, List.mem_of_getElem? (i := 189) (by decide +kernel), List.mem_of_getElem? (i := 528) (by decide +kernel), List.mem_of_getElem? (i := 529) (by decide +kernel)⟩
theorem lw_p31 : lw_okq (⟨"BudgetMeter$Execution", "put", "(II)V"⟩, 6) := ⟨⟨by decide +kernel, by decide +kernel⟩, List.mem_of_getElem? (i := 189) (by decide +kernel), List.mem_of_getElem? (i := 536) (by decide +kernel), List.mem_of_getElem? (i := 537) (by decide +kernel)⟩
def lw_privs_2 : List (MethodName × Nat) := [(⟨"BudgetMeter$Graph", "headOf", "(I)I"⟩, 12), (⟨"BudgetMeter$Graph", "reach", "()I"⟩, 12), (⟨"BudgetMeter$Prices", "sumInstructions", "(LBudgetMeter$Setup;LBudgetMeter$Graph;)V"⟩, 9), (⟨"BudgetMeter$Prices", "sumChains", "(LBudgetMeter$Graph;)V"⟩, 9), (⟨"BudgetMeter$Prices", "markEntries", "(LBudgetMeter$Setup;LBudgetMeter$Graph;)V"⟩, 9), (⟨"BudgetMeter$Prices", "greatestWay", "(LBudgetMeter$Graph;)I"⟩, 9), (⟨"BudgetMeter$Prices", "forgetWays", "(LBudgetMeter$Graph;)V"⟩, 9), (⟨"BudgetMeter$Prices", "greatestFrom", "(LBudgetMeter$Graph;I)I"⟩, 9), (⟨"BudgetMeter$Prices", "wayFrom", "(LBudgetMeter$Graph;I)I"⟩, 9), (⟨"BudgetMeter$Prices", "leastWay", "(LBudgetMeter$Graph;)I"⟩, 9), (⟨"BudgetMeter$Prices", "leastFrom", "(LBudgetMeter$Graph;I)I"⟩, 9), (⟨"BudgetMeter$Execution", "begin", "(I)V"⟩, 6), (⟨"BudgetMeter$Execution", "pay", "(I)Z"⟩, 6), (⟨"BudgetMeter$Execution", "finish", "(II)V"⟩, 6), (⟨"BudgetMeter$Execution", "perform", "(LBudgetMeter$Setup;I)I"⟩, 6), (⟨"BudgetMeter$Execution", "put", "(II)V"⟩, 6)]
theorem lw_r2 : ∀ q ∈ lw_privs_2, lw_okq q := List.forall_mem_cons.mpr ⟨lw_p16, List.forall_mem_cons.mpr ⟨lw_p17, List.forall_mem_cons.mpr ⟨lw_p18, List.forall_mem_cons.mpr ⟨lw_p19, List.forall_mem_cons.mpr ⟨lw_p20, List.forall_mem_cons.mpr ⟨lw_p21, List.forall_mem_cons.mpr ⟨lw_p22, List.forall_mem_cons.mpr ⟨lw_p23, List.forall_mem_cons.mpr ⟨lw_p24, List.forall_mem_cons.mpr ⟨lw_p25, List.forall_mem_cons.mpr ⟨lw_p26, List.forall_mem_cons.mpr ⟨lw_p27, List.forall_mem_cons.mpr ⟨lw_p28, List.forall_mem_cons.mpr ⟨lw_p29, List.forall_mem_cons.mpr ⟨lw_p30, List.forall_mem_cons.mpr ⟨lw_p31, fun _ h => absurd h List.not_mem_nil⟩⟩⟩⟩⟩⟩⟩⟩⟩⟩⟩⟩⟩⟩⟩⟩
theorem lw_p32 : lw_okq (⟨"BudgetMeter", "mixSetup", "(J)J"⟩, 9) := ⟨⟨by decide +kernel, by decide +kernel⟩, List.mem_of_getElem? (i := 13) (by decide +kernel), List.mem_of_getElem? (i := 594) (by decide +kernel), List.mem_of_getElem? (i := 595) (by decide +kernel)⟩
theorem lw_p33 : lw_okq (⟨"BudgetMeter", "mixFlow", "(J)J"⟩, 9) := ⟨⟨by decide +kernel, by decide +kernel⟩, List.mem_of_getElem? (i := 13) (by decide +kernel), List.mem_of_getElem? (i := 598) (by decide +kernel), List.mem_of_getElem? (i := 599) (by decide +kernel)⟩
theorem lw_p34 : lw_okq (⟨"BudgetMeter", "mixLatest", "(J)J"⟩, 9) := ⟨⟨by decide +kernel, by decide +kernel⟩, List.mem_of_getElem? (i := 13) (by decide +kernel), List.mem_of_getElem? (i := 602) (by decide +kernel), List.mem_of_getElem? (i := 603) (by decide +kernel)⟩
theorem lw_p35 : lw_okq (⟨"BudgetMeterModel", "counts", "(I)I"⟩, 31) := ⟨⟨by decide +kernel, by decide +kernel⟩, List.mem_of_getElem? (i := 606) (by decide +kernel), List.mem_of_getElem? (i := 710) (by decide +kernel), List.mem_of_getElem? (i := 711) (by decide +kernel)⟩
theorem lw_p36 : lw_okq (⟨"BudgetMeterModel", "skips", "()V"⟩, 31) := ⟨⟨by decide +kernel, by decide +kernel⟩, List.mem_of_getElem? (i := 606) (by decide +kernel), List.mem_of_getElem? (i := 729) (by decide +kernel), List.mem_of_getElem? (i := 730) (by decide +kernel)⟩
theorem lw_p37 : lw_okq (⟨"BudgetMeterModel", "here", "()I"⟩, 31) := ⟨⟨by decide +kernel, by decide +kernel⟩, List.mem_of_getElem? (i := 606) (by decide +kernel), List.mem_of_getElem? (i := 733) (by decide +kernel), List.mem_of_getElem? (i := 734) (by decide +kernel)⟩
theorem lw_p38 : lw_okq (⟨"BudgetMeterModel", "passesInstruction", "()Z"⟩, 31) := ⟨⟨by decide +kernel, by decide +kernel⟩, List.mem_of_getElem? (i := 606) (by decide +kernel), List.mem_of_getElem? (i := 737) (by decide +kernel), List.mem_of_getElem? (i := 738) (by decide +kernel)⟩
theorem lw_p39 : lw_okq (⟨"BudgetMeterModel", "passes", "(IZ)Z"⟩, 31) := ⟨⟨by decide +kernel, by decide +kernel⟩, List.mem_of_getElem? (i := 606) (by decide +kernel), List.mem_of_getElem? (i := 744) (by decide +kernel), List.mem_of_getElem? (i := 745) (by decide +kernel)⟩
theorem lw_p40 : lw_okq (⟨"BudgetMeterModel", "saves", "()V"⟩, 31) := ⟨⟨by decide +kernel, by decide +kernel⟩, List.mem_of_getElem? (i := 606) (by decide +kernel), List.mem_of_getElem? (i := 748) (by decide +kernel), List.mem_of_getElem? (i := 749) (by decide +kernel)⟩
theorem lw_p41 : lw_okq (⟨"BudgetMeterModel", "isInstruction", "(I)Z"⟩, 31) := ⟨⟨by decide +kernel, by decide +kernel⟩, List.mem_of_getElem? (i := 606) (by decide +kernel), List.mem_of_getElem? (i := 760) (by decide +kernel), List.mem_of_getElem? (i := 761) (by decide +kernel)⟩
theorem lw_p42 : lw_okq (⟨"BudgetMeterModel", "laysBlocks", "()V"⟩, 31) := ⟨⟨by decide +kernel, by decide +kernel⟩, List.mem_of_getElem? (i := 606) (by decide +kernel), List.mem_of_getElem? (i := 768) (by decide +kernel), List.mem_of_getElem? (i := 769) (by decide +kernel)⟩
theorem lw_p43 : lw_okq (⟨"BudgetMeterModel", "isLeader", "(I)Z"⟩, 31) := ⟨⟨by decide +kernel, by decide +kernel⟩, List.mem_of_getElem? (i := 606) (by decide +kernel), List.mem_of_getElem? (i := 772) (by decide +kernel), List.mem_of_getElem? (i := 773) (by decide +kernel)⟩
theorem lw_p44 : lw_okq (⟨"BudgetMeterModel", "targetOf", "(I)I"⟩, 31) := ⟨⟨by decide +kernel, by decide +kernel⟩, List.mem_of_getElem? (i := 606) (by decide +kernel), List.mem_of_getElem? (i := 776) (by decide +kernel), List.mem_of_getElem? (i := 777) (by decide +kernel)⟩
theorem lw_p45 : lw_okq (⟨"BudgetMeterModel", "isBranch", "(I)Z"⟩, 31) := ⟨⟨by decide +kernel, by decide +kernel⟩, List.mem_of_getElem? (i := 606) (by decide +kernel), List.mem_of_getElem? (i := 780) (by decide +kernel), List.mem_of_getElem? (i := 781) (by decide +kernel)⟩
theorem lw_p46 : lw_okq (⟨"BudgetMeterModel", "costAt", "(I)I"⟩, 31) := ⟨⟨by decide +kernel, by decide +kernel⟩, List.mem_of_getElem? (i := 606) (by decide +kernel), List.mem_of_getElem? (i := 784) (by decide +kernel), List.mem_of_getElem? (i := 785) (by decide +kernel)⟩
theorem lw_p47 : lw_okq (⟨"BudgetMeterModel", "laysFollowing", "(II)V"⟩, 31) := ⟨⟨by decide +kernel, by decide +kernel⟩, List.mem_of_getElem? (i := 606) (by decide +kernel), List.mem_of_getElem? (i := 788) (by decide +kernel), List.mem_of_getElem? (i := 789) (by decide +kernel)⟩
def lw_privs_3 : List (MethodName × Nat) := [(⟨"BudgetMeter", "mixSetup", "(J)J"⟩, 9), (⟨"BudgetMeter", "mixFlow", "(J)J"⟩, 9), (⟨"BudgetMeter", "mixLatest", "(J)J"⟩, 9), (⟨"BudgetMeterModel", "counts", "(I)I"⟩, 31), (⟨"BudgetMeterModel", "skips", "()V"⟩, 31), (⟨"BudgetMeterModel", "here", "()I"⟩, 31), (⟨"BudgetMeterModel", "passesInstruction", "()Z"⟩, 31), (⟨"BudgetMeterModel", "passes", "(IZ)Z"⟩, 31), (⟨"BudgetMeterModel", "saves", "()V"⟩, 31), (⟨"BudgetMeterModel", "isInstruction", "(I)Z"⟩, 31), (⟨"BudgetMeterModel", "laysBlocks", "()V"⟩, 31), (⟨"BudgetMeterModel", "isLeader", "(I)Z"⟩, 31), (⟨"BudgetMeterModel", "targetOf", "(I)I"⟩, 31), (⟨"BudgetMeterModel", "isBranch", "(I)Z"⟩, 31), (⟨"BudgetMeterModel", "costAt", "(I)I"⟩, 31), (⟨"BudgetMeterModel", "laysFollowing", "(II)V"⟩, 31)]
theorem lw_r3 : ∀ q ∈ lw_privs_3, lw_okq q := List.forall_mem_cons.mpr ⟨lw_p32, List.forall_mem_cons.mpr ⟨lw_p33, List.forall_mem_cons.mpr ⟨lw_p34, List.forall_mem_cons.mpr ⟨lw_p35, List.forall_mem_cons.mpr ⟨lw_p36, List.forall_mem_cons.mpr ⟨lw_p37, List.forall_mem_cons.mpr ⟨lw_p38, List.forall_mem_cons.mpr ⟨lw_p39, List.forall_mem_cons.mpr ⟨lw_p40, List.forall_mem_cons.mpr ⟨lw_p41, List.forall_mem_cons.mpr ⟨lw_p42, List.forall_mem_cons.mpr ⟨lw_p43, List.forall_mem_cons.mpr ⟨lw_p44, List.forall_mem_cons.mpr ⟨lw_p45, List.forall_mem_cons.mpr ⟨lw_p46, List.forall_mem_cons.mpr ⟨lw_p47, fun _ h => absurd h List.not_mem_nil⟩⟩⟩⟩⟩⟩⟩⟩⟩⟩⟩⟩⟩⟩⟩⟩
theorem lw_p48 : lw_okq (⟨"BudgetMeterModel", "goesTo", "(II)V"⟩, 31) := ⟨⟨by decide +kernel, by decide +kernel⟩, List.mem_of_getElem? (i := 606) (by decide +kernel), List.mem_of_getElem? (i := 792) (by decide +kernel), List.mem_of_getElem? (i := 793) (by decide +kernel)⟩
theorem lw_p49 : lw_okq (⟨"BudgetMeterModel", "isJoined", "(II)Z"⟩, 31) := ⟨⟨by decide +kernel, by decide +kernel⟩, List.mem_of_getElem? (i := 606) (by decide +kernel), List.mem_of_getElem? (i := 796) (by decide +kernel), List.mem_of_getElem? (i := 797) (by decide +kernel)⟩
theorem lw_p50 : lw_okq (⟨"BudgetMeterModel", "comingTo", "(I)I"⟩, 31) := ⟨⟨by decide +kernel, by decide +kernel⟩, List.mem_of_getElem? (i := 606) (by decide +kernel), List.mem_of_getElem? (i := 800) (by decide +kernel), List.mem_of_getElem? (i := 801) (by decide +kernel)⟩
theorem lw_p51 : lw_okq (⟨"BudgetMeterModel", "headOf", "(I)I"⟩, 31) := ⟨⟨by decide +kernel, by decide +kernel⟩, List.mem_of_getElem? (i := 606) (by decide +kernel), List.mem_of_getElem? (i := 804) (by decide +kernel), List.mem_of_getElem? (i := 805) (by decide +kernel)⟩
theorem lw_p52 : lw_okq (⟨"BudgetMeterModel", "isBlock", "(I)Z"⟩, 31) := ⟨⟨by decide +kernel, by decide +kernel⟩, List.mem_of_getElem? (i := 606) (by decide +kernel), List.mem_of_getElem? (i := 816) (by decide +kernel), List.mem_of_getElem? (i := 817) (by decide +kernel)⟩
theorem lw_p53 : lw_okq (⟨"BudgetMeterModel", "chainCostOf", "(I)I"⟩, 31) := ⟨⟨by decide +kernel, by decide +kernel⟩, List.mem_of_getElem? (i := 606) (by decide +kernel), List.mem_of_getElem? (i := 832) (by decide +kernel), List.mem_of_getElem? (i := 833) (by decide +kernel)⟩
theorem lw_p54 : lw_okq (⟨"BudgetMeterModel", "bestWay", "(Z)I"⟩, 31) := ⟨⟨by decide +kernel, by decide +kernel⟩, List.mem_of_getElem? (i := 606) (by decide +kernel), List.mem_of_getElem? (i := 844) (by decide +kernel), List.mem_of_getElem? (i := 845) (by decide +kernel)⟩
theorem lw_p55 : lw_okq (⟨"BudgetMeterModel", "waysGrow", "(Z)Z"⟩, 31) := ⟨⟨by decide +kernel, by decide +kernel⟩, List.mem_of_getElem? (i := 606) (by decide +kernel), List.mem_of_getElem? (i := 848) (by decide +kernel), List.mem_of_getElem? (i := 849) (by decide +kernel)⟩
theorem lw_p56 : lw_okq (⟨"BudgetMeterModel", "runs", "(II)V"⟩, 31) := ⟨⟨by decide +kernel, by decide +kernel⟩, List.mem_of_getElem? (i := 606) (by decide +kernel), List.mem_of_getElem? (i := 860) (by decide +kernel), List.mem_of_getElem? (i := 861) (by decide +kernel)⟩
theorem lw_p57 : lw_okq (⟨"BudgetMeterModel", "does", "(I)I"⟩, 31) := ⟨⟨by decide +kernel, by decide +kernel⟩, List.mem_of_getElem? (i := 606) (by decide +kernel), List.mem_of_getElem? (i := 864) (by decide +kernel), List.mem_of_getElem? (i := 865) (by decide +kernel)⟩
theorem lw_p58 : lw_okq (⟨"BudgetMeterModel", "mix", "(I)V"⟩, 31) := ⟨⟨by decide +kernel, by decide +kernel⟩, List.mem_of_getElem? (i := 606) (by decide +kernel), List.mem_of_getElem? (i := 915) (by decide +kernel), List.mem_of_getElem? (i := 916) (by decide +kernel)⟩
theorem lw_p59 : lw_okq (⟨"BudgetMeterModel", "mixBlocks", "()V"⟩, 31) := ⟨⟨by decide +kernel, by decide +kernel⟩, List.mem_of_getElem? (i := 606) (by decide +kernel), List.mem_of_getElem? (i := 920) (by decide +kernel), List.mem_of_getElem? (i := 921) (by decide +kernel)⟩
theorem lw_p60 : lw_okq (⟨"BudgetMeterModel", "mixRun", "()V"⟩, 31) := ⟨⟨by decide +kernel, by decide +kernel⟩, List.mem_of_getElem? (i := 606) (by decide +kernel), List.mem_of_getElem? (i := 927) (by decide +kernel), List.mem_of_getElem? (i := 928) (by decide +kernel)⟩
def lw_privs_4 : List (MethodName × Nat) := [(⟨"BudgetMeterModel", "goesTo", "(II)V"⟩, 31), (⟨"BudgetMeterModel", "isJoined", "(II)Z"⟩, 31), (⟨"BudgetMeterModel", "comingTo", "(I)I"⟩, 31), (⟨"BudgetMeterModel", "headOf", "(I)I"⟩, 31), (⟨"BudgetMeterModel", "isBlock", "(I)Z"⟩, 31), (⟨"BudgetMeterModel", "chainCostOf", "(I)I"⟩, 31), (⟨"BudgetMeterModel", "bestWay", "(Z)I"⟩, 31), (⟨"BudgetMeterModel", "waysGrow", "(Z)Z"⟩, 31), (⟨"BudgetMeterModel", "runs", "(II)V"⟩, 31), (⟨"BudgetMeterModel", "does", "(I)I"⟩, 31), (⟨"BudgetMeterModel", "mix", "(I)V"⟩, 31), (⟨"BudgetMeterModel", "mixBlocks", "()V"⟩, 31), (⟨"BudgetMeterModel", "mixRun", "()V"⟩, 31)]
theorem lw_r4 : ∀ q ∈ lw_privs_4, lw_okq q := List.forall_mem_cons.mpr ⟨lw_p48, List.forall_mem_cons.mpr ⟨lw_p49, List.forall_mem_cons.mpr ⟨lw_p50, List.forall_mem_cons.mpr ⟨lw_p51, List.forall_mem_cons.mpr ⟨lw_p52, List.forall_mem_cons.mpr ⟨lw_p53, List.forall_mem_cons.mpr ⟨lw_p54, List.forall_mem_cons.mpr ⟨lw_p55, List.forall_mem_cons.mpr ⟨lw_p56, List.forall_mem_cons.mpr ⟨lw_p57, List.forall_mem_cons.mpr ⟨lw_p58, List.forall_mem_cons.mpr ⟨lw_p59, List.forall_mem_cons.mpr ⟨lw_p60, fun _ h => absurd h List.not_mem_nil⟩⟩⟩⟩⟩⟩⟩⟩⟩⟩⟩⟩⟩
def lw_privs : List (MethodName × Nat) := lw_privs_1 ++ (lw_privs_2 ++ (lw_privs_3 ++ (lw_privs_4)))
def lw_tbl : List Cond := k2_sels lw_privs ++ tables_1
theorem lw_privs_ok : ∀ q ∈ lw_privs, lw_okq q := by
  show ∀ q ∈ lw_privs_1 ++ (lw_privs_2 ++ (lw_privs_3 ++ (lw_privs_4))), lw_okq q
  exact List.forall_mem_append.mpr ⟨lw_r1, List.forall_mem_append.mpr ⟨lw_r2, List.forall_mem_append.mpr ⟨lw_r3, lw_r4⟩⟩⟩
/-- the streams that the claim lets the run draw from -/
abbrev lw_cs : List Choice := [Jvm.Choice.named "NaN.bits"]
theorem lw_bits : nanBits ∈ lw_cs := by first | decide | exact List.mem_cons_self | simp [lw_cs, nanBits]
/-! names: class names, field tables, method names and codes, as the claim prints them -/
def RX0 : String := "BudgetMeter$Execution"
def TX0 : u_T := fun k => match k with
  | 0 => ("BudgetMeter$Execution", "status", "I", false)
  | 1 => ("BudgetMeter$Execution", "steps", "I", false)
  | 2 => ("BudgetMeter$Execution", "remaining", "I", false)
  | 3 => ("BudgetMeter$Execution", "charges", "I", false)
  | 4 => ("BudgetMeter$Execution", "stop", "I", false)
  | _ => ("BudgetMeter$Execution", "values", "[I", true)
def tyX0 : Nat → FieldType := fun k => match k with
  | 0 => .int
  | 1 => .int
  | 2 => .int
  | 3 => .int
  | 4 => .int
  | _ => .array .int
theorem nmX0 : ∀ a, a < 6 → ∀ b, b < 6 → a ≠ b → (TX0 a).2.1 ≠ (TX0 b).2.1 := by decide +kernel
theorem tyX0_ok : ∀ k, k < 6 → parseFieldDescriptor (TX0 k).2.2.1 = some (tyX0 k) := by decide +kernel
def RX1 : String := "BudgetMeter$Execution"
def TX1 : u_T := fun k => match k with
  | 0 => ("BudgetMeter$Execution", "status", "I", false)
  | 1 => ("BudgetMeter$Execution", "steps", "I", false)
  | 2 => ("BudgetMeter$Execution", "remaining", "I", false)
  | 3 => ("BudgetMeter$Execution", "charges", "I", false)
  | 4 => ("BudgetMeter$Execution", "stop", "I", false)
  | _ => ("BudgetMeter$Execution", "values", "[I", true)
def tyX1 : Nat → FieldType := fun k => match k with
  | 0 => .int
  | 1 => .int
  | 2 => .int
  | 3 => .int
  | 4 => .int
  | _ => .array .int
theorem nmX1 : ∀ a, a < 6 → ∀ b, b < 6 → a ≠ b → (TX1 a).2.1 ≠ (TX1 b).2.1 := by decide +kernel
theorem tyX1_ok : ∀ k, k < 6 → parseFieldDescriptor (TX1 k).2.2.1 = some (tyX1 k) := by decide +kernel
def RX2 : String := "BudgetMeter$Graph"
def TX2 : u_T := fun k => match k with
  | 0 => ("BudgetMeter$Graph", "count", "I", false)
  | 1 => ("BudgetMeter$Graph", "reachable", "I", false)
  | 2 => ("BudgetMeter$Graph", "blockAt", "[I", true)
  | 3 => ("BudgetMeter$Graph", "starts", "[I", true)
  | 4 => ("BudgetMeter$Graph", "following", "[I", true)
  | 5 => ("BudgetMeter$Graph", "targeted", "[I", true)
  | 6 => ("BudgetMeter$Graph", "successorSets", "[I", true)
  | 7 => ("BudgetMeter$Graph", "heads", "[I", true)
  | 8 => ("BudgetMeter$Graph", "enders", "[Z", true)
  | 9 => ("BudgetMeter$Graph", "lasts", "[I", true)
  | 10 => ("BudgetMeter$Graph", "predecessorSets", "[I", true)
  | _ => ("BudgetMeter$Graph", "joinedTo", "[I", true)
def tyX2 : Nat → FieldType := fun k => match k with
  | 0 => .int
  | 1 => .int
  | 2 => .array .int
  | 3 => .array .int
  | 4 => .array .int
  | 5 => .array .int
  | 6 => .array .int
  | 7 => .array .int
  | 8 => .array .boolean
  | 9 => .array .int
  | 10 => .array .int
  | _ => .array .int
theorem nmX2 : ∀ a, a < 12 → ∀ b, b < 12 → a ≠ b → (TX2 a).2.1 ≠ (TX2 b).2.1 := by decide +kernel
theorem tyX2_ok : ∀ k, k < 12 → parseFieldDescriptor (TX2 k).2.2.1 = some (tyX2 k) := by decide +kernel
def RX3 : String := "BudgetMeter$History"
def TX3 : u_T := fun k => match k with
  | 0 => ("BudgetMeter$History", "size", "I", false)
  | 1 => ("BudgetMeter$History", "next", "I", false)
  | _ => ("BudgetMeter$History", "places", "[LBudgetMeter$Setup;", true)
def tyX3 : Nat → FieldType := fun k => match k with
  | 0 => .int
  | 1 => .int
  | _ => .array (.object "BudgetMeter$Setup")
theorem nmX3 : ∀ a, a < 3 → ∀ b, b < 3 → a ≠ b → (TX3 a).2.1 ≠ (TX3 b).2.1 := by decide +kernel
theorem tyX3_ok : ∀ k, k < 3 → parseFieldDescriptor (TX3 k).2.2.1 = some (tyX3 k) := by decide +kernel
def RX4 : String := "BudgetMeter$Prices"
def TX4 : u_T := fun k => match k with
  | 0 => ("BudgetMeter$Prices", "greatest", "I", false)
  | 1 => ("BudgetMeter$Prices", "least", "I", false)
  | 2 => ("BudgetMeter$Prices", "blockCosts", "[I", true)
  | 3 => ("BudgetMeter$Prices", "chainCosts", "[I", true)
  | 4 => ("BudgetMeter$Prices", "instructionCosts", "[I", true)
  | 5 => ("BudgetMeter$Prices", "noEntries", "[I", true)
  | 6 => ("BudgetMeter$Prices", "blockEntries", "[I", true)
  | 7 => ("BudgetMeter$Prices", "chainEntries", "[I", true)
  | _ => ("BudgetMeter$Prices", "ways", "[I", true)
def tyX4 : Nat → FieldType := fun k => match k with
  | 0 => .int
  | 1 => .int
  | 2 => .array .int
  | 3 => .array .int
  | 4 => .array .int
  | 5 => .array .int
  | 6 => .array .int
  | 7 => .array .int
  | _ => .array .int
theorem nmX4 : ∀ a, a < 9 → ∀ b, b < 9 → a ≠ b → (TX4 a).2.1 ≠ (TX4 b).2.1 := by decide +kernel
theorem tyX4_ok : ∀ k, k < 9 → parseFieldDescriptor (TX4 k).2.2.1 = some (tyX4 k) := by decide +kernel
def RX5 : String := "BudgetMeter$Setup"
def TX5 : u_T := fun k => match k with
  | 0 => ("BudgetMeter$Setup", "size", "I", false)
  | 1 => ("BudgetMeter$Setup", "opcodes", "[I", true)
  | 2 => ("BudgetMeter$Setup", "registers", "[I", true)
  | 3 => ("BudgetMeter$Setup", "operands", "[I", true)
  | _ => ("BudgetMeter$Setup", "costs", "[I", true)
def tyX5 : Nat → FieldType := fun k => match k with
  | 0 => .int
  | 1 => .array .int
  | 2 => .array .int
  | 3 => .array .int
  | _ => .array .int
theorem nmX5 : ∀ a, a < 5 → ∀ b, b < 5 → a ≠ b → (TX5 a).2.1 ≠ (TX5 b).2.1 := by decide +kernel
theorem tyX5_ok : ∀ k, k < 5 → parseFieldDescriptor (TX5 k).2.2.1 = some (tyX5 k) := by decide +kernel
def RX6 : String := "BudgetMeter$Source"
def TX6 : u_T := fun k => match k with
  | 0 => ("BudgetMeter$Source", "length", "I", false)
  | 1 => ("BudgetMeter$Source", "bytes", "[I", true)
  | 2 => ("BudgetMeter$Source", "at", "I", false)
  | _ => ("BudgetMeter$Source", "wrong", "I", false)
def tyX6 : Nat → FieldType := fun k => match k with
  | 0 => .int
  | 1 => .array .int
  | 2 => .int
  | _ => .int
theorem nmX6 : ∀ a, a < 4 → ∀ b, b < 4 → a ≠ b → (TX6 a).2.1 ≠ (TX6 b).2.1 := by decide +kernel
theorem tyX6_ok : ∀ k, k < 4 → parseFieldDescriptor (TX6 k).2.2.1 = some (tyX6 k) := by decide +kernel
def RX7 : String := "BudgetMeter"
def TX7 : u_T := fun k => match k with
  | 0 => ("BudgetMeter", "source", "LBudgetMeter$Source;", true)
  | 1 => ("BudgetMeter", "setup", "LBudgetMeter$Setup;", true)
  | 2 => ("BudgetMeter", "assembled", "LBudgetMeter$Setup;", true)
  | 3 => ("BudgetMeter", "graph", "LBudgetMeter$Graph;", true)
  | 4 => ("BudgetMeter", "prices", "LBudgetMeter$Prices;", true)
  | 5 => ("BudgetMeter", "history", "LBudgetMeter$History;", true)
  | 6 => ("BudgetMeter", "latest", "LBudgetMeter$Execution;", true)
  | 7 => ("BudgetMeter", "trial", "LBudgetMeter$Execution;", true)
  | _ => ("BudgetMeter", "errors", "[I", true)
def tyX7 : Nat → FieldType := fun k => match k with
  | 0 => .object "BudgetMeter$Source"
  | 1 => .object "BudgetMeter$Setup"
  | 2 => .object "BudgetMeter$Setup"
  | 3 => .object "BudgetMeter$Graph"
  | 4 => .object "BudgetMeter$Prices"
  | 5 => .object "BudgetMeter$History"
  | 6 => .object "BudgetMeter$Execution"
  | 7 => .object "BudgetMeter$Execution"
  | _ => .array .int
theorem nmX7 : ∀ a, a < 9 → ∀ b, b < 9 → a ≠ b → (TX7 a).2.1 ≠ (TX7 b).2.1 := by decide +kernel
theorem tyX7_ok : ∀ k, k < 9 → parseFieldDescriptor (TX7 k).2.2.1 = some (tyX7 k) := by decide +kernel
def RX8 : String := "BudgetMeterModel"
def TX8 : u_T := fun k => match k with
  | 0 => ("BudgetMeterModel", "now", "[I", true)
  | 1 => ("BudgetMeterModel", "read", "[I", true)
  | 2 => ("BudgetMeterModel", "past", "[I", true)
  | 3 => ("BudgetMeterModel", "saved", "I", false)
  | 4 => ("BudgetMeterModel", "errors", "[I", true)
  | 5 => ("BudgetMeterModel", "text", "[I", true)
  | 6 => ("BudgetMeterModel", "length", "I", false)
  | 7 => ("BudgetMeterModel", "at", "I", false)
  | 8 => ("BudgetMeterModel", "number", "I", false)
  | 9 => ("BudgetMeterModel", "blockMany", "I", false)
  | 10 => ("BudgetMeterModel", "startOf", "[I", true)
  | 11 => ("BudgetMeterModel", "blockAt", "[I", true)
  | 12 => ("BudgetMeterModel", "follow", "[I", true)
  | 13 => ("BudgetMeterModel", "ends", "[Z", true)
  | 14 => ("BudgetMeterModel", "costOf", "[I", true)
  | 15 => ("BudgetMeterModel", "joined", "[I", true)
  | 16 => ("BudgetMeterModel", "head", "[I", true)
  | 17 => ("BudgetMeterModel", "way", "[I", true)
  | 18 => ("BudgetMeterModel", "status", "I", false)
  | 19 => ("BudgetMeterModel", "steps", "I", false)
  | 20 => ("BudgetMeterModel", "remaining", "I", false)
  | 21 => ("BudgetMeterModel", "charged", "I", false)
  | 22 => ("BudgetMeterModel", "stopped", "I", false)
  | 23 => ("BudgetMeterModel", "register", "[I", true)
  | 24 => ("BudgetMeterModel", "value", "[I", true)
  | 25 => ("BudgetMeterModel", "runStatus", "I", false)
  | 26 => ("BudgetMeterModel", "runSteps", "I", false)
  | 27 => ("BudgetMeterModel", "runLeft", "I", false)
  | 28 => ("BudgetMeterModel", "runCharges", "I", false)
  | 29 => ("BudgetMeterModel", "runAt", "I", false)
  | _ => ("BudgetMeterModel", "hash", "J", false)
def tyX8 : Nat → FieldType := fun k => match k with
  | 0 => .array .int
  | 1 => .array .int
  | 2 => .array .int
  | 3 => .int
  | 4 => .array .int
  | 5 => .array .int
  | 6 => .int
  | 7 => .int
  | 8 => .int
  | 9 => .int
  | 10 => .array .int
  | 11 => .array .int
  | 12 => .array .int
  | 13 => .array .boolean
  | 14 => .array .int
  | 15 => .array .int
  | 16 => .array .int
  | 17 => .array .int
  | 18 => .int
  | 19 => .int
  | 20 => .int
  | 21 => .int
  | 22 => .int
  | 23 => .array .int
  | 24 => .array .int
  | 25 => .int
  | 26 => .int
  | 27 => .int
  | 28 => .int
  | 29 => .int
  | _ => .long
theorem nmX8 : ∀ a, a < 31 → ∀ b, b < 31 → a ≠ b → (TX8 a).2.1 ≠ (TX8 b).2.1 := by decide +kernel
theorem tyX8_ok : ∀ k, k < 31 → parseFieldDescriptor (TX8 k).2.2.1 = some (tyX8 k) := by decide +kernel
def RJ9 : String := "java/lang/Math"
def RJxf58ca : String := "java/lang/Float"
def RL : String := "BudgetMeterLaw"
abbrev cX6_current : ByteArray := prog_7_method_9_code
def yX6_current : MethodName := ⟨RX6, "current", "()I"⟩
abbrev cX6_skipSpaces : ByteArray := prog_7_method_7_code
def yX6_skipSpaces : MethodName := ⟨RX6, "skipSpaces", "()V"⟩
abbrev cX6_atEnd : ByteArray := prog_7_method_8_code
def yX6_atEnd : MethodName := ⟨RX6, "atEnd", "()Z"⟩
abbrev cX6_opcodeOf : ByteArray := prog_7_method_12_code
def yX6_opcodeOf : MethodName := ⟨RX6, "opcodeOf", "(I)I"⟩
abbrev cX6_isDigit : ByteArray := prog_7_method_11_code
def yX6_isDigit : MethodName := ⟨RX6, "isDigit", "(I)Z"⟩
abbrev cX6_readNumber : ByteArray := prog_7_method_5_code
def yX6_readNumber : MethodName := ⟨RX6, "readNumber", "(IZ)I"⟩
abbrev cX6_greatestOperand : ByteArray := prog_7_method_10_code
def yX6_greatestOperand : MethodName := ⟨RX6, "greatestOperand", "(I)I"⟩
abbrev cX6_readSemicolon : ByteArray := prog_7_method_6_code
def yX6_readSemicolon : MethodName := ⟨RX6, "readSemicolon", "()V"⟩
abbrev cX5_add : ByteArray := prog_6_method_3_code
def yX5_add : MethodName := ⟨RX5, "add", "(III)V"⟩
abbrev cX6_readInstruction : ByteArray := prog_7_method_4_code
def yX6_readInstruction : MethodName := ⟨RX6, "readInstruction", "(LBudgetMeter$Setup;)V"⟩
abbrev cX6_translate : ByteArray := prog_7_method_3_code
def yX6_translate : MethodName := ⟨RX6, "translate", "(LBudgetMeter$Setup;)I"⟩
abbrev cX1_init : ByteArray := prog_2_method_1_code
def yX1_init : MethodName := ⟨RX1, "<init>", "()V"⟩
abbrev cX4_entriesOf : ByteArray := prog_5_method_3_code
def yX4_entriesOf : MethodName := ⟨RX4, "entriesOf", "(I)[I"⟩
abbrev cX1_begin : ByteArray := prog_2_method_4_code
def yX1_begin : MethodName := ⟨RX1, "begin", "(I)V"⟩
abbrev cX5_has : ByteArray := prog_6_method_2_code
def yX5_has : MethodName := ⟨RX5, "has", "(I)Z"⟩
abbrev cX1_pay : ByteArray := prog_2_method_6_code
def yX1_pay : MethodName := ⟨RX1, "pay", "(I)Z"⟩
abbrev cX1_finish : ByteArray := prog_2_method_5_code
def yX1_finish : MethodName := ⟨RX1, "finish", "(II)V"⟩
abbrev cX1_valueOf : ByteArray := prog_2_method_3_code
def yX1_valueOf : MethodName := ⟨RX1, "valueOf", "(I)I"⟩
abbrev cX1_put : ByteArray := prog_2_method_8_code
def yX1_put : MethodName := ⟨RX1, "put", "(II)V"⟩
abbrev cX1_perform : ByteArray := prog_2_method_7_code
def yX1_perform : MethodName := ⟨RX1, "perform", "(LBudgetMeter$Setup;I)I"⟩
abbrev cX1_execute : ByteArray := prog_2_method_2_code
def yX1_execute : MethodName := ⟨RX1, "execute", "(LBudgetMeter$Setup;LBudgetMeter$Prices;II)V"⟩
abbrev cX2_init : ByteArray := prog_3_method_1_code
def yX2_init : MethodName := ⟨RX2, "<init>", "()V"⟩
abbrev cX2_bit : ByteArray := prog_3_method_6_code
def yX2_bit : MethodName := ⟨RX2, "bit", "(I)I"⟩
abbrev cX2_jumps : ByteArray := prog_3_method_7_code
def yX2_jumps : MethodName := ⟨RX2, "jumps", "(I)Z"⟩
abbrev cX2_leaders : ByteArray := prog_3_method_9_code
def yX2_leaders : MethodName := ⟨RX2, "leaders", "(LBudgetMeter$Setup;)I"⟩
abbrev cX2_contains : ByteArray := prog_3_method_5_code
def yX2_contains : MethodName := ⟨RX2, "contains", "(II)Z"⟩
abbrev cX2_divide : ByteArray := prog_3_method_10_code
def yX2_divide : MethodName := ⟨RX2, "divide", "(LBudgetMeter$Setup;I)V"⟩
abbrev cX2_goesOn : ByteArray := prog_3_method_8_code
def yX2_goesOn : MethodName := ⟨RX2, "goesOn", "(I)Z"⟩
abbrev cX2_blockFrom : ByteArray := prog_3_method_12_code
def yX2_blockFrom : MethodName := ⟨RX2, "blockFrom", "(LBudgetMeter$Setup;I)I"⟩
abbrev cX2_connect : ByteArray := prog_3_method_11_code
def yX2_connect : MethodName := ⟨RX2, "connect", "(LBudgetMeter$Setup;I)V"⟩
abbrev cX2_has : ByteArray := prog_3_method_3_code
def yX2_has : MethodName := ⟨RX2, "has", "(I)Z"⟩
abbrev cX2_addPredecessor : ByteArray := prog_3_method_14_code
def yX2_addPredecessor : MethodName := ⟨RX2, "addPredecessor", "(II)V"⟩
abbrev cX2_collectPredecessors : ByteArray := prog_3_method_13_code
def yX2_collectPredecessors : MethodName := ⟨RX2, "collectPredecessors", "()V"⟩
abbrev cX2_canEnd : ByteArray := prog_3_method_4_code
def yX2_canEnd : MethodName := ⟨RX2, "canEnd", "(I)Z"⟩
abbrev cX2_isJoined : ByteArray := prog_3_method_16_code
def yX2_isJoined : MethodName := ⟨RX2, "isJoined", "(II)Z"⟩
abbrev cX2_join : ByteArray := prog_3_method_15_code
def yX2_join : MethodName := ⟨RX2, "join", "()V"⟩
abbrev cJ9_min_7cf53 : ByteArray := prog_11_method_69_code
def yJ9_min_7cf53 : MethodName := ⟨RJ9, "min", "(II)I"⟩
abbrev cX2_headOf : ByteArray := prog_3_method_17_code
def yX2_headOf : MethodName := ⟨RX2, "headOf", "(I)I"⟩
abbrev cX2_reach : ByteArray := prog_3_method_18_code
def yX2_reach : MethodName := ⟨RX2, "reach", "()I"⟩
abbrev cX2_update : ByteArray := prog_3_method_2_code
def yX2_update : MethodName := ⟨RX2, "update", "(LBudgetMeter$Setup;)V"⟩
abbrev cX5_init : ByteArray := prog_6_method_1_code
def yX5_init : MethodName := ⟨RX5, "<init>", "()V"⟩
abbrev cX3_init : ByteArray := prog_4_method_1_code
def yX3_init : MethodName := ⟨RX3, "<init>", "()V"⟩
abbrev cX3_placeAt : ByteArray := prog_4_method_4_code
def yX3_placeAt : MethodName := ⟨RX3, "placeAt", "(I)LBudgetMeter$Setup;"⟩
abbrev cX5_takeProgram : ByteArray := prog_6_method_5_code
def yX5_takeProgram : MethodName := ⟨RX5, "takeProgram", "(LBudgetMeter$Setup;)V"⟩
abbrev cX5_takeAll : ByteArray := prog_6_method_6_code
def yX5_takeAll : MethodName := ⟨RX5, "takeAll", "(LBudgetMeter$Setup;)V"⟩
abbrev cX3_save : ByteArray := prog_4_method_2_code
def yX3_save : MethodName := ⟨RX3, "save", "(LBudgetMeter$Setup;)V"⟩
abbrev cX3_restore : ByteArray := prog_4_method_3_code
def yX3_restore : MethodName := ⟨RX3, "restore", "(LBudgetMeter$Setup;)V"⟩
abbrev cX4_init : ByteArray := prog_5_method_1_code
def yX4_init : MethodName := ⟨RX4, "<init>", "()V"⟩
abbrev cX5_costAt : ByteArray := prog_6_method_4_code
def yX5_costAt : MethodName := ⟨RX5, "costAt", "(I)I"⟩
abbrev cX4_sumInstructions : ByteArray := prog_5_method_4_code
def yX4_sumInstructions : MethodName := ⟨RX4, "sumInstructions", "(LBudgetMeter$Setup;LBudgetMeter$Graph;)V"⟩
abbrev cX4_sumChains : ByteArray := prog_5_method_5_code
def yX4_sumChains : MethodName := ⟨RX4, "sumChains", "(LBudgetMeter$Graph;)V"⟩
abbrev cX4_markEntries : ByteArray := prog_5_method_6_code
def yX4_markEntries : MethodName := ⟨RX4, "markEntries", "(LBudgetMeter$Setup;LBudgetMeter$Graph;)V"⟩
abbrev cX4_forgetWays : ByteArray := prog_5_method_11_code
def yX4_forgetWays : MethodName := ⟨RX4, "forgetWays", "(LBudgetMeter$Graph;)V"⟩
abbrev cX4_wayFrom : ByteArray := prog_5_method_12_code
def yX4_wayFrom : MethodName := ⟨RX4, "wayFrom", "(LBudgetMeter$Graph;I)I"⟩
abbrev cJ9_max_7cf53 : ByteArray := prog_11_method_65_code
def yJ9_max_7cf53 : MethodName := ⟨RJ9, "max", "(II)I"⟩
abbrev cX4_greatestFrom : ByteArray := prog_5_method_8_code
def yX4_greatestFrom : MethodName := ⟨RX4, "greatestFrom", "(LBudgetMeter$Graph;I)I"⟩
abbrev cX4_greatestWay : ByteArray := prog_5_method_7_code
def yX4_greatestWay : MethodName := ⟨RX4, "greatestWay", "(LBudgetMeter$Graph;)I"⟩
abbrev cX4_leastFrom : ByteArray := prog_5_method_10_code
def yX4_leastFrom : MethodName := ⟨RX4, "leastFrom", "(LBudgetMeter$Graph;I)I"⟩
abbrev cX4_leastWay : ByteArray := prog_5_method_9_code
def yX4_leastWay : MethodName := ⟨RX4, "leastWay", "(LBudgetMeter$Graph;)I"⟩
abbrev cX4_update : ByteArray := prog_5_method_2_code
def yX4_update : MethodName := ⟨RX4, "update", "(LBudgetMeter$Setup;LBudgetMeter$Graph;)V"⟩
abbrev cX6_init : ByteArray := prog_7_method_1_code
def yX6_init : MethodName := ⟨RX6, "<init>", "()V"⟩
abbrev cX6_add : ByteArray := prog_7_method_2_code
def yX6_add : MethodName := ⟨RX6, "add", "(I)Z"⟩
abbrev cX7_init : ByteArray := prog_1_method_1_code
def yX7_init : MethodName := ⟨RX7, "<init>", "()V"⟩
abbrev cX7_isErrorCode : ByteArray := prog_1_method_33_code
def yX7_isErrorCode : MethodName := ⟨RX7, "isErrorCode", "(I)Z"⟩
abbrev cX7_refuse : ByteArray := prog_1_method_32_code
def yX7_refuse : MethodName := ⟨RX7, "refuse", "(I)I"⟩
abbrev cX7_append : ByteArray := prog_1_method_2_code
def yX7_append : MethodName := ⟨RX7, "append", "(I)I"⟩
abbrev cX7_clearText : ByteArray := prog_1_method_3_code
def yX7_clearText : MethodName := ⟨RX7, "clearText", "()I"⟩
abbrev cX7_analyse : ByteArray := prog_1_method_31_code
def yX7_analyse : MethodName := ⟨RX7, "analyse", "()V"⟩
abbrev cX7_assemble : ByteArray := prog_1_method_4_code
def yX7_assemble : MethodName := ⟨RX7, "assemble", "()I"⟩
abbrev cX7_setCost : ByteArray := prog_1_method_5_code
def yX7_setCost : MethodName := ⟨RX7, "setCost", "(II)I"⟩
abbrev cX7_opcode : ByteArray := prog_1_method_6_code
def yX7_opcode : MethodName := ⟨RX7, "opcode", "(I)I"⟩
abbrev cX7_blocks : ByteArray := prog_1_method_7_code
def yX7_blocks : MethodName := ⟨RX7, "blocks", "()I"⟩
abbrev cX7_blockOf : ByteArray := prog_1_method_8_code
def yX7_blockOf : MethodName := ⟨RX7, "blockOf", "(I)I"⟩
abbrev cX7_successors : ByteArray := prog_1_method_9_code
def yX7_successors : MethodName := ⟨RX7, "successors", "(I)I"⟩
abbrev cX7_blockCost : ByteArray := prog_1_method_10_code
def yX7_blockCost : MethodName := ⟨RX7, "blockCost", "(I)I"⟩
abbrev cX7_chainHead : ByteArray := prog_1_method_11_code
def yX7_chainHead : MethodName := ⟨RX7, "chainHead", "(I)I"⟩
abbrev cX7_chainCost : ByteArray := prog_1_method_12_code
def yX7_chainCost : MethodName := ⟨RX7, "chainCost", "(I)I"⟩
abbrev cX7_reachableBlocks : ByteArray := prog_1_method_13_code
def yX7_reachableBlocks : MethodName := ⟨RX7, "reachableBlocks", "()I"⟩
abbrev cX7_greatestCost : ByteArray := prog_1_method_14_code
def yX7_greatestCost : MethodName := ⟨RX7, "greatestCost", "()I"⟩
abbrev cX7_leastCost : ByteArray := prog_1_method_15_code
def yX7_leastCost : MethodName := ⟨RX7, "leastCost", "()I"⟩
abbrev cX7_run : ByteArray := prog_1_method_16_code
def yX7_run : MethodName := ⟨RX7, "run", "(II)I"⟩
abbrev cX7_steps : ByteArray := prog_1_method_17_code
def yX7_steps : MethodName := ⟨RX7, "steps", "()I"⟩
abbrev cX7_remaining : ByteArray := prog_1_method_18_code
def yX7_remaining : MethodName := ⟨RX7, "remaining", "()I"⟩
abbrev cX7_charges : ByteArray := prog_1_method_19_code
def yX7_charges : MethodName := ⟨RX7, "charges", "()I"⟩
abbrev cX7_register : ByteArray := prog_1_method_20_code
def yX7_register : MethodName := ⟨RX7, "register", "(I)I"⟩
abbrev cX7_stoppedAt : ByteArray := prog_1_method_21_code
def yX7_stoppedAt : MethodName := ⟨RX7, "stoppedAt", "()I"⟩
abbrev cX7_floatBits : ByteArray := prog_1_method_34_code
def yX7_floatBits : MethodName := ⟨RX7, "floatBits", "(F)I"⟩
abbrev cX7_chargeRateBits : ByteArray := prog_1_method_22_code
def yX7_chargeRateBits : MethodName := ⟨RX7, "chargeRateBits", "()I"⟩
abbrev cX7_neededBudget : ByteArray := prog_1_method_23_code
def yX7_neededBudget : MethodName := ⟨RX7, "neededBudget", "()I"⟩
abbrev cX7_undo : ByteArray := prog_1_method_24_code
def yX7_undo : MethodName := ⟨RX7, "undo", "()I"⟩
abbrev cX7_errorCount : ByteArray := prog_1_method_25_code
def yX7_errorCount : MethodName := ⟨RX7, "errorCount", "(I)I"⟩
abbrev cX7_mix : ByteArray := prog_1_method_30_code
def yX7_mix : MethodName := ⟨RX7, "mix", "(JI)J"⟩
abbrev cX7_mixSetup : ByteArray := prog_1_method_27_code
def yX7_mixSetup : MethodName := ⟨RX7, "mixSetup", "(J)J"⟩
abbrev cX7_mixFlow : ByteArray := prog_1_method_28_code
def yX7_mixFlow : MethodName := ⟨RX7, "mixFlow", "(J)J"⟩
abbrev cX7_mixLatest : ByteArray := prog_1_method_29_code
def yX7_mixLatest : MethodName := ⟨RX7, "mixLatest", "(J)J"⟩
abbrev cX7_digest : ByteArray := prog_1_method_26_code
def yX7_digest : MethodName := ⟨RX7, "digest", "()J"⟩
abbrev cX8_init : ByteArray := prog_9_method_1_code
def yX8_init : MethodName := ⟨RX8, "<init>", "()V"⟩
abbrev cX8_within : ByteArray := prog_9_method_3_code
def yX8_within : MethodName := ⟨RX8, "within", "(III)Z"⟩
abbrev cX8_counts : ByteArray := prog_9_method_4_code
def yX8_counts : MethodName := ⟨RX8, "counts", "(I)I"⟩
abbrev cX8_isInstruction : ByteArray := prog_9_method_5_code
def yX8_isInstruction : MethodName := ⟨RX8, "isInstruction", "(I)Z"⟩
abbrev cX8_saves : ByteArray := prog_9_method_6_code
def yX8_saves : MethodName := ⟨RX8, "saves", "()V"⟩
abbrev cX8_undo : ByteArray := prog_9_method_7_code
def yX8_undo : MethodName := ⟨RX8, "undo", "()I"⟩
abbrev cX8_append : ByteArray := prog_9_method_8_code
def yX8_append : MethodName := ⟨RX8, "append", "(I)I"⟩
abbrev cX8_clearText : ByteArray := prog_9_method_9_code
def yX8_clearText : MethodName := ⟨RX8, "clearText", "()I"⟩
abbrev cX8_here : ByteArray := prog_9_method_10_code
def yX8_here : MethodName := ⟨RX8, "here", "()I"⟩
abbrev cX8_skips : ByteArray := prog_9_method_11_code
def yX8_skips : MethodName := ⟨RX8, "skips", "()V"⟩
abbrev cX8_opcodeOf : ByteArray := prog_9_method_12_code
def yX8_opcodeOf : MethodName := ⟨RX8, "opcodeOf", "(I)I"⟩
abbrev cX8_passes : ByteArray := prog_9_method_13_code
def yX8_passes : MethodName := ⟨RX8, "passes", "(IZ)Z"⟩
abbrev cX8_passesInstruction : ByteArray := prog_9_method_14_code
def yX8_passesInstruction : MethodName := ⟨RX8, "passesInstruction", "()Z"⟩
abbrev cX8_assemble : ByteArray := prog_9_method_15_code
def yX8_assemble : MethodName := ⟨RX8, "assemble", "()I"⟩
abbrev cX8_setCost : ByteArray := prog_9_method_16_code
def yX8_setCost : MethodName := ⟨RX8, "setCost", "(II)I"⟩
abbrev cX8_opcode : ByteArray := prog_9_method_17_code
def yX8_opcode : MethodName := ⟨RX8, "opcode", "(I)I"⟩
abbrev cX8_costAt : ByteArray := prog_9_method_18_code
def yX8_costAt : MethodName := ⟨RX8, "costAt", "(I)I"⟩
abbrev cX8_isBranch : ByteArray := prog_9_method_19_code
def yX8_isBranch : MethodName := ⟨RX8, "isBranch", "(I)Z"⟩
abbrev cX8_targetOf : ByteArray := prog_9_method_20_code
def yX8_targetOf : MethodName := ⟨RX8, "targetOf", "(I)I"⟩
abbrev cX8_isLeader : ByteArray := prog_9_method_21_code
def yX8_isLeader : MethodName := ⟨RX8, "isLeader", "(I)Z"⟩
abbrev cX8_goesTo : ByteArray := prog_9_method_22_code
def yX8_goesTo : MethodName := ⟨RX8, "goesTo", "(II)V"⟩
abbrev cX8_laysFollowing : ByteArray := prog_9_method_23_code
def yX8_laysFollowing : MethodName := ⟨RX8, "laysFollowing", "(II)V"⟩
abbrev cX8_comingTo : ByteArray := prog_9_method_24_code
def yX8_comingTo : MethodName := ⟨RX8, "comingTo", "(I)I"⟩
abbrev cX8_isJoined : ByteArray := prog_9_method_25_code
def yX8_isJoined : MethodName := ⟨RX8, "isJoined", "(II)Z"⟩
abbrev cX8_headOf : ByteArray := prog_9_method_26_code
def yX8_headOf : MethodName := ⟨RX8, "headOf", "(I)I"⟩
abbrev cX8_laysBlocks : ByteArray := prog_9_method_27_code
def yX8_laysBlocks : MethodName := ⟨RX8, "laysBlocks", "()V"⟩
abbrev cX8_isBlock : ByteArray := prog_9_method_28_code
def yX8_isBlock : MethodName := ⟨RX8, "isBlock", "(I)Z"⟩
abbrev cX8_chainCostOf : ByteArray := prog_9_method_29_code
def yX8_chainCostOf : MethodName := ⟨RX8, "chainCostOf", "(I)I"⟩
abbrev cX8_blocks : ByteArray := prog_9_method_30_code
def yX8_blocks : MethodName := ⟨RX8, "blocks", "()I"⟩
abbrev cX8_blockOf : ByteArray := prog_9_method_31_code
def yX8_blockOf : MethodName := ⟨RX8, "blockOf", "(I)I"⟩
abbrev cX8_successors : ByteArray := prog_9_method_32_code
def yX8_successors : MethodName := ⟨RX8, "successors", "(I)I"⟩
abbrev cX8_blockCost : ByteArray := prog_9_method_33_code
def yX8_blockCost : MethodName := ⟨RX8, "blockCost", "(I)I"⟩
abbrev cX8_chainHead : ByteArray := prog_9_method_34_code
def yX8_chainHead : MethodName := ⟨RX8, "chainHead", "(I)I"⟩
abbrev cX8_chainCost : ByteArray := prog_9_method_35_code
def yX8_chainCost : MethodName := ⟨RX8, "chainCost", "(I)I"⟩
abbrev cX8_reachableBlocks : ByteArray := prog_9_method_36_code
def yX8_reachableBlocks : MethodName := ⟨RX8, "reachableBlocks", "()I"⟩
abbrev cX8_waysGrow : ByteArray := prog_9_method_37_code
def yX8_waysGrow : MethodName := ⟨RX8, "waysGrow", "(Z)Z"⟩
abbrev cX8_bestWay : ByteArray := prog_9_method_38_code
def yX8_bestWay : MethodName := ⟨RX8, "bestWay", "(Z)I"⟩
abbrev cX8_greatestCost : ByteArray := prog_9_method_39_code
def yX8_greatestCost : MethodName := ⟨RX8, "greatestCost", "()I"⟩
abbrev cX8_leastCost : ByteArray := prog_9_method_40_code
def yX8_leastCost : MethodName := ⟨RX8, "leastCost", "()I"⟩
abbrev cX8_does : ByteArray := prog_9_method_41_code
def yX8_does : MethodName := ⟨RX8, "does", "(I)I"⟩
abbrev cX8_runs : ByteArray := prog_9_method_42_code
def yX8_runs : MethodName := ⟨RX8, "runs", "(II)V"⟩
abbrev cX8_run : ByteArray := prog_9_method_43_code
def yX8_run : MethodName := ⟨RX8, "run", "(II)I"⟩
abbrev cX8_steps : ByteArray := prog_9_method_44_code
def yX8_steps : MethodName := ⟨RX8, "steps", "()I"⟩
abbrev cX8_remaining : ByteArray := prog_9_method_45_code
def yX8_remaining : MethodName := ⟨RX8, "remaining", "()I"⟩
abbrev cX8_charges : ByteArray := prog_9_method_46_code
def yX8_charges : MethodName := ⟨RX8, "charges", "()I"⟩
abbrev cX8_register : ByteArray := prog_9_method_47_code
def yX8_register : MethodName := ⟨RX8, "register", "(I)I"⟩
abbrev cX8_stoppedAt : ByteArray := prog_9_method_48_code
def yX8_stoppedAt : MethodName := ⟨RX8, "stoppedAt", "()I"⟩
abbrev cJxf58ca_isNaN_12338 : ByteArray := prog_10_method_6_code
def yJxf58ca_isNaN_12338 : MethodName := ⟨RJxf58ca, "isNaN", "(F)Z"⟩
abbrev cJxf58ca_floatToIntBits_5c35a : ByteArray := prog_10_method_24_code
def yJxf58ca_floatToIntBits_5c35a : MethodName := ⟨RJxf58ca, "floatToIntBits", "(F)I"⟩
abbrev cX8_chargeRateBits : ByteArray := prog_9_method_49_code
def yX8_chargeRateBits : MethodName := ⟨RX8, "chargeRateBits", "()I"⟩
abbrev cX8_neededBudget : ByteArray := prog_9_method_50_code
def yX8_neededBudget : MethodName := ⟨RX8, "neededBudget", "()I"⟩
abbrev cX8_errorCount : ByteArray := prog_9_method_51_code
def yX8_errorCount : MethodName := ⟨RX8, "errorCount", "(I)I"⟩
abbrev cX8_mix : ByteArray := prog_9_method_52_code
def yX8_mix : MethodName := ⟨RX8, "mix", "(I)V"⟩
abbrev cX8_mixBlocks : ByteArray := prog_9_method_53_code
def yX8_mixBlocks : MethodName := ⟨RX8, "mixBlocks", "()V"⟩
abbrev cX8_mixRun : ByteArray := prog_9_method_54_code
def yX8_mixRun : MethodName := ⟨RX8, "mixRun", "()V"⟩
abbrev cX8_digest : ByteArray := prog_9_method_55_code
def yX8_digest : MethodName := ⟨RX8, "digest", "()J"⟩
abbrev cL_law : ByteArray := code
def yL_law : MethodName := ⟨RL, "law", "([I)Z"⟩
abbrev CL : List vw_C := [(RX0, TX0, 6), (RX1, TX1, 6), (RX2, TX2, 12), (RX3, TX3, 3), (RX4, TX4, 9), (RX5, TX5, 5), (RX6, TX6, 4), (RX7, TX7, 9), (RX8, TX8, 31)]
def GW : List Cond := lw_tbl.filter goodWord
end
section
/-! the program as tables: a row an instruction: (pc, instruction, next pc, a, b, words, value) -/
abbrev MOp : Type := Instr × Nat × Nat × Nat × List Nat × Value
abbrev MRow : Type := MethodName × ByteArray × Nat × Option FieldType × Nat × Nat × List (Nat × MOp)
def oX6_current : List (Nat × MOp) := [(0, .aload_n 0, 1, 0, 0, [], .null), (1, .getfield 19, 4, 6, 2, [90], .null), (4, .ifCond .lt 38, 7, 42, 0, [], .null), (7, .aload_n 0, 8, 0, 0, [], .null), (8, .getfield 19, 11, 6, 2, [90], .null), (11, .aload_n 0, 12, 0, 0, [], .null), (12, .getfield 9, 15, 6, 0, [87], .null), (15, .if_icmp .ge 27, 18, 42, 0, [], .null), (18, .aload_n 0, 19, 0, 0, [], .null), (19, .getfield 19, 22, 6, 2, [90], .null), (22, .aload_n 0, 23, 0, 0, [], .null), (23, .getfield 15, 26, 6, 1, [89], .null), (26, .arraylength, 27, 0, 0, [], .null), (27, .if_icmp .ge 15, 30, 42, 0, [], .null), (30, .aload_n 0, 31, 0, 0, [], .null), (31, .getfield 15, 34, 6, 1, [89], .null), (34, .aload_n 0, 35, 0, 0, [], .null), (35, .getfield 19, 38, 6, 2, [90], .null), (38, .iaload, 39, 0, 0, [], .null), (39, .goto 4, 42, 43, 0, [], .null), (42, .iconst (-1), 43, 0, 0, [], .null), (43, .ireturn, 44, 0, 0, [], .null)]
def oX6_skipSpaces : List (Nat × MOp) := [(0, .aload_n 0, 1, 0, 0, [], .null), (1, .getfield 19, 4, 6, 2, [90], .null), (4, .sipush 150, 7, 0, 0, [], .null), (7, .if_icmp .ge 25, 10, 32, 0, [], .null), (10, .aload_n 0, 11, 0, 0, [], .null), (11, .invokevirtual 41, 14, 2, 0, [338, 340, 2, 63], .null), (14, .bipush 32, 16, 0, 0, [], .null), (16, .if_icmp .ne 16, 19, 32, 0, [], .null), (19, .aload_n 0, 20, 0, 0, [], .null), (20, .dup, 21, 0, 0, [], .null), (21, .getfield 19, 24, 6, 2, [90], .null), (24, .iconst 1, 25, 0, 0, [], .null), (25, .iadd, 26, 0, 0, [], .null), (26, .putfield 19, 29, 6, 2, [90], .null), (29, .goto (-29), 32, 0, 0, [], .null), (32, .return_, 33, 0, 0, [], .null)]
def oX6_atEnd : List (Nat × MOp) := [(0, .aload_n 0, 1, 0, 0, [], .null), (1, .invokevirtual 41, 4, 2, 0, [338, 340, 2, 63], .null), (4, .iconst (-1), 5, 0, 0, [], .null), (5, .if_icmp .ne 7, 8, 12, 0, [], .null), (8, .iconst 1, 9, 0, 0, [], .null), (9, .goto 4, 12, 13, 0, [], .null), (12, .iconst 0, 13, 0, 0, [], .null), (13, .ireturn, 14, 0, 0, [], .null)]
def oX6_opcodeOf : List (Nat × MOp) := [(0, .iload_n 0, 1, 0, 0, [], .null), (1, .tableswitch 137 97 122 #[119, 137, 123, 125, 137, 137, 137, 134, 137, 127, 137, 137, 137, 131, 137, 137, 137, 137, 121, 137, 137, 137, 137, 137, 137, 129], 120, 0, 0, [], .null), (120, .iconst 0, 121, 0, 0, [], .null), (121, .ireturn, 122, 0, 0, [], .null), (122, .iconst 1, 123, 0, 0, [], .null), (123, .ireturn, 124, 0, 0, [], .null), (124, .iconst 2, 125, 0, 0, [], .null), (125, .ireturn, 126, 0, 0, [], .null), (126, .iconst 3, 127, 0, 0, [], .null), (127, .ireturn, 128, 0, 0, [], .null), (128, .iconst 4, 129, 0, 0, [], .null), (129, .ireturn, 130, 0, 0, [], .null), (130, .iconst 5, 131, 0, 0, [], .null), (131, .ireturn, 132, 0, 0, [], .null), (132, .bipush 6, 134, 0, 0, [], .null), (134, .ireturn, 135, 0, 0, [], .null), (135, .bipush 7, 137, 0, 0, [], .null), (137, .ireturn, 138, 0, 0, [], .null), (138, .iconst (-1), 139, 0, 0, [], .null), (139, .ireturn, 140, 0, 0, [], .null)]
def oX6_isDigit : List (Nat × MOp) := [(0, .iload_n 0, 1, 0, 0, [], .null), (1, .bipush 48, 3, 0, 0, [], .null), (3, .if_icmp .lt 13, 6, 16, 0, [], .null), (6, .iload_n 0, 7, 0, 0, [], .null), (7, .bipush 57, 9, 0, 0, [], .null), (9, .if_icmp .gt 7, 12, 16, 0, [], .null), (12, .iconst 1, 13, 0, 0, [], .null), (13, .goto 4, 16, 17, 0, [], .null), (16, .iconst 0, 17, 0, 0, [], .null), (17, .ireturn, 18, 0, 0, [], .null)]
def oX6_readNumber : List (Nat × MOp) := [(0, .aload_n 0, 1, 0, 0, [], .null), (1, .getfield 22, 4, 6, 3, [91], .null), (4, .iconst (-1), 5, 0, 0, [], .null), (5, .if_icmp .eq 5, 8, 10, 0, [], .null), (8, .iconst 0, 9, 0, 0, [], .null), (9, .ireturn, 10, 0, 0, [], .null), (10, .aload_n 0, 11, 0, 0, [], .null), (11, .invokevirtual 30, 14, 3, 0, [334, 336, 1, 63], .null), (14, .iload_n 2, 15, 0, 0, [], .null), (15, .ifCond .eq 16, 18, 31, 0, [], .null), (18, .aload_n 0, 19, 0, 0, [], .null), (19, .invokevirtual 41, 22, 2, 0, [338, 340, 2, 63], .null), (22, .bipush 45, 24, 0, 0, [], .null), (24, .if_icmp .ne 7, 27, 31, 0, [], .null), (27, .iconst 1, 28, 0, 0, [], .null), (28, .goto 4, 31, 32, 0, [], .null), (31, .iconst 0, 32, 0, 0, [], .null), (32, .istore_n 3, 33, 0, 0, [], .null), (33, .iload_n 3, 34, 0, 0, [], .null), (34, .ifCond .eq 13, 37, 47, 0, [], .null), (37, .aload_n 0, 38, 0, 0, [], .null), (38, .dup, 39, 0, 0, [], .null), (39, .getfield 19, 42, 6, 2, [90], .null), (42, .iconst 1, 43, 0, 0, [], .null), (43, .iadd, 44, 0, 0, [], .null), (44, .putfield 19, 47, 6, 2, [90], .null), (47, .aload_n 0, 48, 0, 0, [], .null), (48, .getfield 19, 51, 6, 2, [90], .null), (51, .istore 4, 53, 0, 0, [], .null), (53, .iconst 0, 54, 0, 0, [], .null), (54, .istore 5, 56, 0, 0, [], .null), (56, .aload_n 0, 57, 0, 0, [], .null), (57, .getfield 19, 60, 6, 2, [90], .null), (60, .iload 4, 62, 0, 0, [], .null), (62, .iconst 3, 63, 0, 0, [], .null), (63, .iadd, 64, 0, 0, [], .null), (64, .if_icmp .ge 41, 67, 105, 0, [], .null), (67, .aload_n 0, 68, 0, 0, [], .null), (68, .invokevirtual 41, 71, 2, 0, [338, 340, 2, 63], .null), (71, .invokestatic 63, 74, 6, 1, [357, 358, 63], .null), (74, .ifCond .eq 31, 77, 105, 0, [], .null), (77, .bipush 10, 79, 0, 0, [], .null), (79, .iload 5, 81, 0, 0, [], .null), (81, .imul, 82, 0, 0, [], .null), (82, .aload_n 0, 83, 0, 0, [], .null), (83, .invokevirtual 41, 86, 2, 0, [338, 340, 2, 63], .null), (86, .bipush 48, 88, 0, 0, [], .null), (88, .isub, 89, 0, 0, [], .null), (89, .iadd, 90, 0, 0, [], .null), (90, .istore 5, 92, 0, 0, [], .null), (92, .aload_n 0, 93, 0, 0, [], .null), (93, .dup, 94, 0, 0, [], .null), (94, .getfield 19, 97, 6, 2, [90], .null), (97, .iconst 1, 98, 0, 0, [], .null), (98, .iadd, 99, 0, 0, [], .null), (99, .putfield 19, 102, 6, 2, [90], .null), (102, .goto (-46), 105, 56, 0, [], .null), (105, .aload_n 0, 106, 0, 0, [], .null), (106, .getfield 19, 109, 6, 2, [90], .null), (109, .iload 4, 111, 0, 0, [], .null), (111, .isub, 112, 0, 0, [], .null), (112, .istore 6, 114, 0, 0, [], .null), (114, .iload 6, 116, 0, 0, [], .null), (116, .ifCond .ne 14, 119, 130, 0, [], .null), (119, .aload_n 0, 120, 0, 0, [], .null), (120, .aload_n 0, 121, 0, 0, [], .null), (121, .getfield 19, 124, 6, 2, [90], .null), (124, .putfield 22, 127, 6, 3, [91], .null), (127, .goto 34, 130, 161, 0, [], .null), (130, .iload 6, 132, 0, 0, [], .null), (132, .iconst 3, 133, 0, 0, [], .null), (133, .if_icmp .ne 16, 136, 149, 0, [], .null), (136, .aload_n 0, 137, 0, 0, [], .null), (137, .aload_n 0, 138, 0, 0, [], .null), (138, .getfield 19, 141, 6, 2, [90], .null), (141, .iconst 1, 142, 0, 0, [], .null), (142, .isub, 143, 0, 0, [], .null), (143, .putfield 22, 146, 6, 3, [91], .null), (146, .goto 15, 149, 161, 0, [], .null), (149, .iload 5, 151, 0, 0, [], .null), (151, .iload_n 1, 152, 0, 0, [], .null), (152, .if_icmp .le 9, 155, 161, 0, [], .null), (155, .aload_n 0, 156, 0, 0, [], .null), (156, .iload 4, 158, 0, 0, [], .null), (158, .putfield 22, 161, 6, 3, [91], .null), (161, .iload_n 3, 162, 0, 0, [], .null), (162, .ifCond .eq 9, 165, 171, 0, [], .null), (165, .iload 5, 167, 0, 0, [], .null), (167, .ineg, 168, 0, 0, [], .null), (168, .goto 5, 171, 173, 0, [], .null), (171, .iload 5, 173, 0, 0, [], .null), (173, .ireturn, 174, 0, 0, [], .null)]
def oX6_greatestOperand : List (Nat × MOp) := [(0, .iload_n 0, 1, 0, 0, [], .null), (1, .tableswitch 36 0 3 #[31, 31, 34, 34], 32, 0, 0, [], .null), (32, .bipush 99, 34, 0, 0, [], .null), (34, .ireturn, 35, 0, 0, [], .null), (35, .iconst 3, 36, 0, 0, [], .null), (36, .ireturn, 37, 0, 0, [], .null), (37, .bipush 24, 39, 0, 0, [], .null), (39, .ireturn, 40, 0, 0, [], .null)]
def oX6_readSemicolon : List (Nat × MOp) := [(0, .aload_n 0, 1, 0, 0, [], .null), (1, .getfield 22, 4, 6, 3, [91], .null), (4, .iconst (-1), 5, 0, 0, [], .null), (5, .if_icmp .eq 4, 8, 9, 0, [], .null), (8, .return_, 9, 0, 0, [], .null), (9, .aload_n 0, 10, 0, 0, [], .null), (10, .invokevirtual 30, 13, 3, 0, [334, 336, 1, 63], .null), (13, .aload_n 0, 14, 0, 0, [], .null), (14, .invokevirtual 41, 17, 2, 0, [338, 340, 2, 63], .null), (17, .bipush 59, 19, 0, 0, [], .null), (19, .if_icmp .ne 16, 22, 35, 0, [], .null), (22, .aload_n 0, 23, 0, 0, [], .null), (23, .dup, 24, 0, 0, [], .null), (24, .getfield 19, 27, 6, 2, [90], .null), (27, .iconst 1, 28, 0, 0, [], .null), (28, .iadd, 29, 0, 0, [], .null), (29, .putfield 19, 32, 6, 2, [90], .null), (32, .goto 11, 35, 43, 0, [], .null), (35, .aload_n 0, 36, 0, 0, [], .null), (36, .aload_n 0, 37, 0, 0, [], .null), (37, .getfield 19, 40, 6, 2, [90], .null), (40, .putfield 22, 43, 6, 3, [91], .null), (43, .return_, 44, 0, 0, [], .null)]
def oX5_add : List (Nat × MOp) := [(0, .aload_n 0, 1, 0, 0, [], .null), (1, .getfield 9, 4, 5, 0, [108], .null), (4, .ifCond .lt 52, 7, 56, 0, [], .null), (7, .aload_n 0, 8, 0, 0, [], .null), (8, .getfield 9, 11, 5, 0, [108], .null), (11, .bipush 24, 13, 0, 0, [], .null), (13, .if_icmp .ge 43, 16, 56, 0, [], .null), (16, .aload_n 0, 17, 0, 0, [], .null), (17, .getfield 15, 20, 5, 1, [113], .null), (20, .aload_n 0, 21, 0, 0, [], .null), (21, .getfield 9, 24, 5, 0, [108], .null), (24, .iload_n 1, 25, 0, 0, [], .null), (25, .iastore, 26, 0, 0, [], .null), (26, .aload_n 0, 27, 0, 0, [], .null), (27, .getfield 19, 30, 5, 2, [117], .null), (30, .aload_n 0, 31, 0, 0, [], .null), (31, .getfield 9, 34, 5, 0, [108], .null), (34, .iload_n 2, 35, 0, 0, [], .null), (35, .iastore, 36, 0, 0, [], .null), (36, .aload_n 0, 37, 0, 0, [], .null), (37, .getfield 22, 40, 5, 3, [119], .null), (40, .aload_n 0, 41, 0, 0, [], .null), (41, .getfield 9, 44, 5, 0, [108], .null), (44, .iload_n 3, 45, 0, 0, [], .null), (45, .iastore, 46, 0, 0, [], .null), (46, .aload_n 0, 47, 0, 0, [], .null), (47, .dup, 48, 0, 0, [], .null), (48, .getfield 9, 51, 5, 0, [108], .null), (51, .iconst 1, 52, 0, 0, [], .null), (52, .iadd, 53, 0, 0, [], .null), (53, .putfield 9, 56, 5, 0, [108], .null), (56, .return_, 57, 0, 0, [], .null)]
def oX6_readInstruction : List (Nat × MOp) := [(0, .aload_n 0, 1, 0, 0, [], .null), (1, .invokevirtual 41, 4, 2, 0, [338, 340, 2, 63], .null), (4, .invokestatic 45, 7, 5, 1, [350, 351, 63], .null), (7, .istore_n 2, 8, 0, 0, [], .null), (8, .iload_n 2, 9, 0, 0, [], .null), (9, .iconst (-1), 10, 0, 0, [], .null), (10, .if_icmp .eq 12, 13, 22, 0, [], .null), (13, .aload_n 1, 14, 0, 0, [], .null), (14, .getfield 25, 17, 5, 0, [109], .null), (17, .bipush 24, 19, 0, 0, [], .null), (19, .if_icmp .lt 12, 22, 31, 0, [], .null), (22, .aload_n 0, 23, 0, 0, [], .null), (23, .aload_n 0, 24, 0, 0, [], .null), (24, .getfield 19, 27, 6, 2, [90], .null), (27, .putfield 22, 30, 6, 3, [91], .null), (30, .return_, 31, 0, 0, [], .null), (31, .aload_n 0, 32, 0, 0, [], .null), (32, .dup, 33, 0, 0, [], .null), (33, .getfield 19, 36, 6, 2, [90], .null), (36, .iconst 1, 37, 0, 0, [], .null), (37, .iadd, 38, 0, 0, [], .null), (38, .putfield 19, 41, 6, 2, [90], .null), (41, .iconst 0, 42, 0, 0, [], .null), (42, .istore_n 3, 43, 0, 0, [], .null), (43, .iconst 0, 44, 0, 0, [], .null), (44, .istore 4, 46, 0, 0, [], .null), (46, .iload_n 2, 47, 0, 0, [], .null), (47, .iconst 4, 48, 0, 0, [], .null), (48, .if_icmp .eq 16, 51, 64, 0, [], .null), (51, .iload_n 2, 52, 0, 0, [], .null), (52, .bipush 7, 54, 0, 0, [], .null), (54, .if_icmp .eq 10, 57, 64, 0, [], .null), (57, .aload_n 0, 58, 0, 0, [], .null), (58, .iconst 3, 59, 0, 0, [], .null), (59, .iconst 0, 60, 0, 0, [], .null), (60, .invokevirtual 49, 63, 7, 2, [353, 355, 5, 63], .null), (63, .istore_n 3, 64, 0, 0, [], .null), (64, .iload_n 2, 65, 0, 0, [], .null), (65, .bipush 7, 67, 0, 0, [], .null), (67, .if_icmp .eq 27, 70, 94, 0, [], .null), (70, .aload_n 0, 71, 0, 0, [], .null), (71, .iload_n 2, 72, 0, 0, [], .null), (72, .invokestatic 53, 75, 8, 1, [360, 361, 63], .null), (75, .iload_n 2, 76, 0, 0, [], .null), (76, .ifCond .eq 8, 79, 84, 0, [], .null), (79, .iload_n 2, 80, 0, 0, [], .null), (80, .iconst 1, 81, 0, 0, [], .null), (81, .if_icmp .ne 7, 84, 88, 0, [], .null), (84, .iconst 1, 85, 0, 0, [], .null), (85, .goto 4, 88, 89, 0, [], .null), (88, .iconst 0, 89, 0, 0, [], .null), (89, .invokevirtual 49, 92, 7, 2, [353, 355, 5, 63], .null), (92, .istore 4, 94, 0, 0, [], .null), (94, .aload_n 0, 95, 0, 0, [], .null), (95, .invokevirtual 56, 98, 9, 0, [363, 365, 6, 63], .null), (98, .aload_n 0, 99, 0, 0, [], .null), (99, .getfield 22, 102, 6, 3, [91], .null), (102, .iconst (-1), 103, 0, 0, [], .null), (103, .if_icmp .ne 11, 106, 114, 0, [], .null), (106, .aload_n 1, 107, 0, 0, [], .null), (107, .iload_n 2, 108, 0, 0, [], .null), (108, .iload_n 3, 109, 0, 0, [], .null), (109, .iload 4, 111, 0, 0, [], .null), (111, .invokevirtual 59, 114, 10, 3, [367, 368, 369, 64], .null), (114, .return_, 115, 0, 0, [], .null)]
def oX6_translate : List (Nat × MOp) := [(0, .aload_n 0, 1, 0, 0, [], .null), (1, .iconst 0, 2, 0, 0, [], .null), (2, .putfield 19, 5, 6, 2, [90], .null), (5, .aload_n 0, 6, 0, 0, [], .null), (6, .iconst (-1), 7, 0, 0, [], .null), (7, .putfield 22, 10, 6, 3, [91], .null), (10, .aload_n 1, 11, 0, 0, [], .null), (11, .iconst 0, 12, 0, 0, [], .null), (12, .putfield 25, 15, 5, 0, [109], .null), (15, .aload_n 0, 16, 0, 0, [], .null), (16, .invokevirtual 30, 19, 3, 0, [334, 336, 1, 63], .null), (19, .iconst 0, 20, 0, 0, [], .null), (20, .istore_n 2, 21, 0, 0, [], .null), (21, .iload_n 2, 22, 0, 0, [], .null), (22, .bipush 24, 24, 0, 0, [], .null), (24, .if_icmp .gt 33, 27, 57, 0, [], .null), (27, .aload_n 0, 28, 0, 0, [], .null), (28, .getfield 22, 31, 6, 3, [91], .null), (31, .iconst (-1), 32, 0, 0, [], .null), (32, .if_icmp .ne 25, 35, 57, 0, [], .null), (35, .aload_n 0, 36, 0, 0, [], .null), (36, .invokevirtual 33, 39, 4, 0, [342, 344, 3, 63], .null), (39, .ifCond .ne 18, 42, 57, 0, [], .null), (42, .aload_n 0, 43, 0, 0, [], .null), (43, .aload_n 1, 44, 0, 0, [], .null), (44, .invokevirtual 37, 47, 11, 1, [346, 348, 4, 63], .null), (47, .aload_n 0, 48, 0, 0, [], .null), (48, .invokevirtual 30, 51, 3, 0, [334, 336, 1, 63], .null), (51, .iinc 2 1, 54, 0, 0, [], .null), (54, .goto (-33), 57, 21, 0, [], .null), (57, .aload_n 0, 58, 0, 0, [], .null), (58, .getfield 22, 61, 6, 3, [91], .null), (61, .ireturn, 62, 0, 0, [], .null)]
def oX1_init : List (Nat × MOp) := [(0, .aload_n 0, 1, 0, 0, [], .null), (1, .invokespecial 3, 4, 0, 0, [254, 79], .int 2), (4, .aload_n 0, 5, 0, 0, [], .null), (5, .iconst 0, 6, 0, 0, [], .null), (6, .putfield 9, 9, 1, 0, [255], .null), (9, .aload_n 0, 10, 0, 0, [], .null), (10, .iconst 0, 11, 0, 0, [], .null), (11, .putfield 15, 14, 1, 1, [257], .null), (14, .aload_n 0, 15, 0, 0, [], .null), (15, .iconst 0, 16, 0, 0, [], .null), (16, .putfield 18, 19, 1, 2, [259], .null), (19, .aload_n 0, 20, 0, 0, [], .null), (20, .iconst 0, 21, 0, 0, [], .null), (21, .putfield 21, 24, 1, 3, [261], .null), (24, .aload_n 0, 25, 0, 0, [], .null), (25, .iconst (-1), 26, 0, 0, [], .null), (26, .putfield 24, 29, 1, 4, [263], .null), (29, .aload_n 0, 30, 0, 0, [], .null), (30, .iconst 4, 31, 0, 0, [], .null), (31, .newarray .int, 33, 0, 0, [101], .null), (33, .putfield 27, 36, 1, 5, [265], .null), (36, .return_, 37, 0, 0, [], .null)]
def oX4_entriesOf : List (Nat × MOp) := [(0, .iload_n 1, 1, 0, 0, [], .null), (1, .iconst 1, 2, 0, 0, [], .null), (2, .if_icmp .ne 8, 5, 10, 0, [], .null), (5, .aload_n 0, 6, 0, 0, [], .null), (6, .getfield 31, 9, 4, 6, [207], .null), (9, .areturn, 10, 0, 0, [], .null), (10, .iload_n 1, 11, 0, 0, [], .null), (11, .iconst 2, 12, 0, 0, [], .null), (12, .if_icmp .ne 10, 15, 22, 0, [], .null), (15, .aload_n 0, 16, 0, 0, [], .null), (16, .getfield 34, 19, 4, 7, [208], .null), (19, .goto 7, 22, 26, 0, [], .null), (22, .aload_n 0, 23, 0, 0, [], .null), (23, .getfield 28, 26, 4, 5, [206], .null), (26, .areturn, 27, 0, 0, [], .null)]
def oX1_begin : List (Nat × MOp) := [(0, .aload_n 0, 1, 0, 0, [], .null), (1, .iconst 0, 2, 0, 0, [], .null), (2, .putfield 9, 5, 1, 0, [255], .null), (5, .aload_n 0, 6, 0, 0, [], .null), (6, .iload_n 1, 7, 0, 0, [], .null), (7, .putfield 18, 10, 1, 2, [259], .null), (10, .aload_n 0, 11, 0, 0, [], .null), (11, .iconst 0, 12, 0, 0, [], .null), (12, .putfield 21, 15, 1, 3, [261], .null), (15, .aload_n 0, 16, 0, 0, [], .null), (16, .iconst (-1), 17, 0, 0, [], .null), (17, .putfield 24, 20, 1, 4, [263], .null), (20, .iconst 0, 21, 0, 0, [], .null), (21, .istore_n 2, 22, 0, 0, [], .null), (22, .iload_n 2, 23, 0, 0, [], .null), (23, .iconst 4, 24, 0, 0, [], .null), (24, .if_icmp .ge 16, 27, 40, 0, [], .null), (27, .aload_n 0, 28, 0, 0, [], .null), (28, .getfield 27, 31, 1, 5, [265], .null), (31, .iload_n 2, 32, 0, 0, [], .null), (32, .iconst 0, 33, 0, 0, [], .null), (33, .iastore, 34, 0, 0, [], .null), (34, .iinc 2 1, 37, 0, 0, [], .null), (37, .goto (-15), 40, 22, 0, [], .null), (40, .return_, 41, 0, 0, [], .null)]
def oX5_has : List (Nat × MOp) := [(0, .iload_n 1, 1, 0, 0, [], .null), (1, .ifCond .lt 15, 4, 16, 0, [], .null), (4, .iload_n 1, 5, 0, 0, [], .null), (5, .aload_n 0, 6, 0, 0, [], .null), (6, .getfield 9, 9, 5, 0, [108], .null), (9, .if_icmp .ge 7, 12, 16, 0, [], .null), (12, .iconst 1, 13, 0, 0, [], .null), (13, .goto 4, 16, 17, 0, [], .null), (16, .iconst 0, 17, 0, 0, [], .null), (17, .ireturn, 18, 0, 0, [], .null)]
def oX1_pay : List (Nat × MOp) := [(0, .aload_n 0, 1, 0, 0, [], .null), (1, .getfield 18, 4, 1, 2, [259], .null), (4, .iload_n 1, 5, 0, 0, [], .null), (5, .if_icmp .ge 5, 8, 10, 0, [], .null), (8, .iconst 0, 9, 0, 0, [], .null), (9, .ireturn, 10, 0, 0, [], .null), (10, .aload_n 0, 11, 0, 0, [], .null), (11, .dup, 12, 0, 0, [], .null), (12, .getfield 18, 15, 1, 2, [259], .null), (15, .iload_n 1, 16, 0, 0, [], .null), (16, .isub, 17, 0, 0, [], .null), (17, .putfield 18, 20, 1, 2, [259], .null), (20, .aload_n 0, 21, 0, 0, [], .null), (21, .dup, 22, 0, 0, [], .null), (22, .getfield 21, 25, 1, 3, [261], .null), (25, .iconst 1, 26, 0, 0, [], .null), (26, .iadd, 27, 0, 0, [], .null), (27, .putfield 21, 30, 1, 3, [261], .null), (30, .iconst 1, 31, 0, 0, [], .null), (31, .ireturn, 32, 0, 0, [], .null)]
def oX1_finish : List (Nat × MOp) := [(0, .aload_n 0, 1, 0, 0, [], .null), (1, .iload_n 1, 2, 0, 0, [], .null), (2, .putfield 9, 5, 1, 0, [255], .null), (5, .aload_n 0, 6, 0, 0, [], .null), (6, .iload_n 2, 7, 0, 0, [], .null), (7, .putfield 24, 10, 1, 4, [263], .null), (10, .return_, 11, 0, 0, [], .null)]
def oX1_valueOf : List (Nat × MOp) := [(0, .iload_n 1, 1, 0, 0, [], .null), (1, .ifCond .lt 17, 4, 18, 0, [], .null), (4, .iload_n 1, 5, 0, 0, [], .null), (5, .iconst 4, 6, 0, 0, [], .null), (6, .if_icmp .ge 12, 9, 18, 0, [], .null), (9, .aload_n 0, 10, 0, 0, [], .null), (10, .getfield 27, 13, 1, 5, [265], .null), (13, .iload_n 1, 14, 0, 0, [], .null), (14, .iaload, 15, 0, 0, [], .null), (15, .goto 4, 18, 19, 0, [], .null), (18, .iconst 0, 19, 0, 0, [], .null), (19, .ireturn, 20, 0, 0, [], .null)]
def oX1_put : List (Nat × MOp) := [(0, .iload_n 1, 1, 0, 0, [], .null), (1, .ifCond .lt 15, 4, 16, 0, [], .null), (4, .iload_n 1, 5, 0, 0, [], .null), (5, .iconst 4, 6, 0, 0, [], .null), (6, .if_icmp .ge 10, 9, 16, 0, [], .null), (9, .aload_n 0, 10, 0, 0, [], .null), (10, .getfield 27, 13, 1, 5, [265], .null), (13, .iload_n 1, 14, 0, 0, [], .null), (14, .iload_n 2, 15, 0, 0, [], .null), (15, .iastore, 16, 0, 0, [], .null), (16, .return_, 17, 0, 0, [], .null)]
def oX1_perform : List (Nat × MOp) := [(0, .aload_n 1, 1, 0, 0, [], .null), (1, .getfield 61, 4, 5, 2, [118], .null), (4, .iload_n 2, 5, 0, 0, [], .null), (5, .iaload, 6, 0, 0, [], .null), (6, .istore_n 3, 7, 0, 0, [], .null), (7, .aload_n 1, 8, 0, 0, [], .null), (8, .getfield 64, 11, 5, 3, [120], .null), (11, .iload_n 2, 12, 0, 0, [], .null), (12, .iaload, 13, 0, 0, [], .null), (13, .istore 4, 15, 0, 0, [], .null), (15, .aload_n 0, 16, 0, 0, [], .null), (16, .iload_n 3, 17, 0, 0, [], .null), (17, .invokevirtual 67, 20, 19, 1, [592, 593, 594, 68], .null), (20, .istore 5, 22, 0, 0, [], .null), (22, .aload_n 1, 23, 0, 0, [], .null), (23, .getfield 71, 26, 5, 1, [115], .null), (26, .iload_n 2, 27, 0, 0, [], .null), (27, .iaload, 28, 0, 0, [], .null), (28, .tableswitch 133 0 6 #[44, 58, 69, 84, 102, 105, 119], 72, 0, 0, [], .null), (72, .aload_n 0, 73, 0, 0, [], .null), (73, .iload_n 3, 74, 0, 0, [], .null), (74, .iload 5, 76, 0, 0, [], .null), (76, .iload 4, 78, 0, 0, [], .null), (78, .iadd, 79, 0, 0, [], .null), (79, .invokevirtual 74, 82, 20, 2, [596, 598, 31, 68], .null), (82, .iload_n 2, 83, 0, 0, [], .null), (83, .iconst 1, 84, 0, 0, [], .null), (84, .iadd, 85, 0, 0, [], .null), (85, .ireturn, 86, 0, 0, [], .null), (86, .aload_n 0, 87, 0, 0, [], .null), (87, .iload_n 3, 88, 0, 0, [], .null), (88, .iload 4, 90, 0, 0, [], .null), (90, .invokevirtual 74, 93, 20, 2, [596, 598, 31, 68], .null), (93, .iload_n 2, 94, 0, 0, [], .null), (94, .iconst 1, 95, 0, 0, [], .null), (95, .iadd, 96, 0, 0, [], .null), (96, .ireturn, 97, 0, 0, [], .null), (97, .aload_n 0, 98, 0, 0, [], .null), (98, .iload_n 3, 99, 0, 0, [], .null), (99, .aload_n 0, 100, 0, 0, [], .null), (100, .iload 4, 102, 0, 0, [], .null), (102, .invokevirtual 67, 105, 19, 1, [592, 593, 594, 68], .null), (105, .invokevirtual 74, 108, 20, 2, [596, 598, 31, 68], .null), (108, .iload_n 2, 109, 0, 0, [], .null), (109, .iconst 1, 110, 0, 0, [], .null), (110, .iadd, 111, 0, 0, [], .null), (111, .ireturn, 112, 0, 0, [], .null), (112, .aload_n 0, 113, 0, 0, [], .null), (113, .iload_n 3, 114, 0, 0, [], .null), (114, .iload 5, 116, 0, 0, [], .null), (116, .aload_n 0, 117, 0, 0, [], .null), (117, .iload 4, 119, 0, 0, [], .null), (119, .invokevirtual 67, 122, 19, 1, [592, 593, 594, 68], .null), (122, .isub, 123, 0, 0, [], .null), (123, .invokevirtual 74, 126, 20, 2, [596, 598, 31, 68], .null), (126, .iload_n 2, 127, 0, 0, [], .null), (127, .iconst 1, 128, 0, 0, [], .null), (128, .iadd, 129, 0, 0, [], .null), (129, .ireturn, 130, 0, 0, [], .null), (130, .iload 4, 132, 0, 0, [], .null), (132, .ireturn, 133, 0, 0, [], .null), (133, .iload 5, 135, 0, 0, [], .null), (135, .ifCond .ne 8, 138, 143, 0, [], .null), (138, .iload 4, 140, 0, 0, [], .null), (140, .goto 6, 143, 146, 0, [], .null), (143, .iload_n 2, 144, 0, 0, [], .null), (144, .iconst 1, 145, 0, 0, [], .null), (145, .iadd, 146, 0, 0, [], .null), (146, .ireturn, 147, 0, 0, [], .null), (147, .iload 5, 149, 0, 0, [], .null), (149, .ifCond .ge 8, 152, 157, 0, [], .null), (152, .iload 4, 154, 0, 0, [], .null), (154, .goto 6, 157, 160, 0, [], .null), (157, .iload_n 2, 158, 0, 0, [], .null), (158, .iconst 1, 159, 0, 0, [], .null), (159, .iadd, 160, 0, 0, [], .null), (160, .ireturn, 161, 0, 0, [], .null), (161, .bipush 24, 163, 0, 0, [], .null), (163, .ireturn, 164, 0, 0, [], .null)]
def oX1_execute : List (Nat × MOp) := [(0, .aload_n 2, 1, 0, 0, [], .null), (1, .iload_n 3, 2, 0, 0, [], .null), (2, .invokevirtual 31, 5, 14, 1, [571, 572, 573, 66], .null), (5, .astore 5, 7, 0, 0, [], .null), (7, .aload_n 0, 8, 0, 0, [], .null), (8, .iload 4, 10, 0, 0, [], .null), (10, .invokevirtual 37, 13, 15, 1, [575, 577, 27, 68], .null), (13, .iconst 0, 14, 0, 0, [], .null), (14, .istore 6, 16, 0, 0, [], .null), (16, .iconst 0, 17, 0, 0, [], .null), (17, .istore 7, 19, 0, 0, [], .null), (19, .aload_n 0, 20, 0, 0, [], .null), (20, .iconst 0, 21, 0, 0, [], .null), (21, .putfield 15, 24, 1, 1, [257], .null), (24, .aload_n 0, 25, 0, 0, [], .null), (25, .getfield 15, 28, 1, 1, [257], .null), (28, .sipush 3000, 31, 0, 0, [], .null), (31, .if_icmp .ge 80, 34, 111, 0, [], .null), (34, .aload_n 1, 35, 0, 0, [], .null), (35, .iload 7, 37, 0, 0, [], .null), (37, .invokevirtual 41, 40, 16, 1, [579, 420, 421, 64], .null), (40, .ifCond .eq 71, 43, 111, 0, [], .null), (43, .aload 5, 45, 0, 0, [], .null), (45, .iload 7, 47, 0, 0, [], .null), (47, .iaload, 48, 0, 0, [], .null), (48, .ifCond .le 14, 51, 62, 0, [], .null), (51, .aload_n 0, 52, 0, 0, [], .null), (52, .aload 5, 54, 0, 0, [], .null), (54, .iload 7, 56, 0, 0, [], .null), (56, .iaload, 57, 0, 0, [], .null), (57, .invokevirtual 47, 60, 17, 1, [580, 582, 28, 68], .null), (60, .istore 6, 62, 0, 0, [], .null), (62, .iload 6, 64, 0, 0, [], .null), (64, .ifCond .ne 25, 67, 89, 0, [], .null), (67, .aload_n 0, 68, 0, 0, [], .null), (68, .aload_n 2, 69, 0, 0, [], .null), (69, .getfield 50, 72, 4, 4, [205], .null), (72, .iload 7, 74, 0, 0, [], .null), (74, .iaload, 75, 0, 0, [], .null), (75, .invokevirtual 47, 78, 17, 1, [580, 582, 28, 68], .null), (78, .ifCond .ne 11, 81, 89, 0, [], .null), (81, .aload_n 0, 82, 0, 0, [], .null), (82, .iconst 1, 83, 0, 0, [], .null), (83, .iload 7, 85, 0, 0, [], .null), (85, .invokevirtual 53, 88, 18, 2, [584, 586, 29, 68], .null), (88, .return_, 89, 0, 0, [], .null), (89, .aload_n 0, 90, 0, 0, [], .null), (90, .aload_n 1, 91, 0, 0, [], .null), (91, .iload 7, 93, 0, 0, [], .null), (93, .invokevirtual 57, 96, 21, 2, [588, 590, 30, 68], .null), (96, .istore 7, 98, 0, 0, [], .null), (98, .aload_n 0, 99, 0, 0, [], .null), (99, .dup, 100, 0, 0, [], .null), (100, .getfield 15, 103, 1, 1, [257], .null), (103, .iconst 1, 104, 0, 0, [], .null), (104, .iadd, 105, 0, 0, [], .null), (105, .putfield 15, 108, 1, 1, [257], .null), (108, .goto (-84), 111, 24, 0, [], .null), (111, .aload_n 1, 112, 0, 0, [], .null), (112, .iload 7, 114, 0, 0, [], .null), (114, .invokevirtual 41, 117, 16, 1, [579, 420, 421, 64], .null), (117, .ifCond .eq 10, 120, 127, 0, [], .null), (120, .aload_n 0, 121, 0, 0, [], .null), (121, .iconst 2, 122, 0, 0, [], .null), (122, .iload 7, 124, 0, 0, [], .null), (124, .invokevirtual 53, 127, 18, 2, [584, 586, 29, 68], .null), (127, .return_, 128, 0, 0, [], .null)]
def oX2_init : List (Nat × MOp) := [(0, .aload_n 0, 1, 0, 0, [], .null), (1, .invokespecial 3, 4, 0, 0, [140, 79], .int 2), (4, .aload_n 0, 5, 0, 0, [], .null), (5, .iconst 0, 6, 0, 0, [], .null), (6, .putfield 9, 9, 2, 0, [141], .null), (9, .aload_n 0, 10, 0, 0, [], .null), (10, .iconst 0, 11, 0, 0, [], .null), (11, .putfield 15, 14, 2, 1, [144], .null), (14, .aload_n 0, 15, 0, 0, [], .null), (15, .bipush 24, 17, 0, 0, [], .null), (17, .newarray .int, 19, 0, 0, [101], .null), (19, .putfield 18, 22, 2, 2, [146], .null), (22, .aload_n 0, 23, 0, 0, [], .null), (23, .bipush 24, 25, 0, 0, [], .null), (25, .newarray .int, 27, 0, 0, [101], .null), (27, .putfield 22, 30, 2, 3, [149], .null), (30, .aload_n 0, 31, 0, 0, [], .null), (31, .bipush 24, 33, 0, 0, [], .null), (33, .newarray .int, 35, 0, 0, [101], .null), (35, .putfield 25, 38, 2, 4, [151], .null), (38, .aload_n 0, 39, 0, 0, [], .null), (39, .bipush 24, 41, 0, 0, [], .null), (41, .newarray .int, 43, 0, 0, [101], .null), (43, .putfield 28, 46, 2, 5, [153], .null), (46, .aload_n 0, 47, 0, 0, [], .null), (47, .bipush 24, 49, 0, 0, [], .null), (49, .newarray .int, 51, 0, 0, [101], .null), (51, .putfield 31, 54, 2, 6, [155], .null), (54, .aload_n 0, 55, 0, 0, [], .null), (55, .bipush 24, 57, 0, 0, [], .null), (57, .newarray .int, 59, 0, 0, [101], .null), (59, .putfield 34, 62, 2, 7, [157], .null), (62, .aload_n 0, 63, 0, 0, [], .null), (63, .bipush 24, 65, 0, 0, [], .null), (65, .newarray .boolean, 67, 1, 0, [189], .null), (67, .putfield 37, 70, 2, 8, [160], .null), (70, .aload_n 0, 71, 0, 0, [], .null), (71, .bipush 24, 73, 0, 0, [], .null), (73, .newarray .int, 75, 0, 0, [101], .null), (75, .putfield 41, 78, 2, 9, [161], .null), (78, .aload_n 0, 79, 0, 0, [], .null), (79, .bipush 24, 81, 0, 0, [], .null), (81, .newarray .int, 83, 0, 0, [101], .null), (83, .putfield 44, 86, 2, 10, [162], .null), (86, .aload_n 0, 87, 0, 0, [], .null), (87, .bipush 24, 89, 0, 0, [], .null), (89, .newarray .int, 91, 0, 0, [101], .null), (91, .putfield 47, 94, 2, 11, [163], .null), (94, .return_, 95, 0, 0, [], .null)]
def oX2_bit : List (Nat × MOp) := [(0, .iload_n 0, 1, 0, 0, [], .null), (1, .ifCond .lt 15, 4, 16, 0, [], .null), (4, .iload_n 0, 5, 0, 0, [], .null), (5, .bipush 24, 7, 0, 0, [], .null), (7, .if_icmp .ge 9, 10, 16, 0, [], .null), (10, .iconst 1, 11, 0, 0, [], .null), (11, .iload_n 0, 12, 0, 0, [], .null), (12, .ishl, 13, 0, 0, [], .null), (13, .goto 4, 16, 17, 0, [], .null), (16, .iconst 0, 17, 0, 0, [], .null), (17, .ireturn, 18, 0, 0, [], .null)]
def oX2_jumps : List (Nat × MOp) := [(0, .iload_n 0, 1, 0, 0, [], .null), (1, .iconst 4, 2, 0, 0, [], .null), (2, .if_icmp .eq 14, 5, 16, 0, [], .null), (5, .iload_n 0, 6, 0, 0, [], .null), (6, .iconst 5, 7, 0, 0, [], .null), (7, .if_icmp .eq 9, 10, 16, 0, [], .null), (10, .iload_n 0, 11, 0, 0, [], .null), (11, .bipush 6, 13, 0, 0, [], .null), (13, .if_icmp .ne 7, 16, 20, 0, [], .null), (16, .iconst 1, 17, 0, 0, [], .null), (17, .goto 4, 20, 21, 0, [], .null), (20, .iconst 0, 21, 0, 0, [], .null), (21, .ireturn, 22, 0, 0, [], .null)]
def oX2_leaders : List (Nat × MOp) := [(0, .iconst 0, 1, 0, 0, [], .null), (1, .invokestatic 79, 4, 24, 1, [402, 403, 65], .null), (4, .istore_n 1, 5, 0, 0, [], .null), (5, .iconst 0, 6, 0, 0, [], .null), (6, .istore_n 2, 7, 0, 0, [], .null), (7, .iload_n 2, 8, 0, 0, [], .null), (8, .aload_n 0, 9, 0, 0, [], .null), (9, .getfield 82, 12, 5, 0, [112], .null), (12, .if_icmp .ge 57, 15, 69, 0, [], .null), (15, .aload_n 0, 16, 0, 0, [], .null), (16, .getfield 87, 19, 5, 1, [116], .null), (19, .iload_n 2, 20, 0, 0, [], .null), (20, .iaload, 21, 0, 0, [], .null), (21, .istore_n 3, 22, 0, 0, [], .null), (22, .iload_n 3, 23, 0, 0, [], .null), (23, .invokestatic 90, 26, 25, 1, [405, 406, 65], .null), (26, .ifCond .eq 15, 29, 41, 0, [], .null), (29, .iload_n 1, 30, 0, 0, [], .null), (30, .aload_n 0, 31, 0, 0, [], .null), (31, .getfield 93, 34, 5, 3, [121], .null), (34, .iload_n 2, 35, 0, 0, [], .null), (35, .iaload, 36, 0, 0, [], .null), (36, .invokestatic 79, 39, 24, 1, [402, 403, 65], .null), (39, .ior, 40, 0, 0, [], .null), (40, .istore_n 1, 41, 0, 0, [], .null), (41, .iload_n 3, 42, 0, 0, [], .null), (42, .invokestatic 90, 45, 25, 1, [405, 406, 65], .null), (45, .ifCond .ne 9, 48, 54, 0, [], .null), (48, .iload_n 3, 49, 0, 0, [], .null), (49, .bipush 7, 51, 0, 0, [], .null), (51, .if_icmp .ne 12, 54, 63, 0, [], .null), (54, .iload_n 1, 55, 0, 0, [], .null), (55, .iload_n 2, 56, 0, 0, [], .null), (56, .iconst 1, 57, 0, 0, [], .null), (57, .iadd, 58, 0, 0, [], .null), (58, .invokestatic 79, 61, 24, 1, [402, 403, 65], .null), (61, .ior, 62, 0, 0, [], .null), (62, .istore_n 1, 63, 0, 0, [], .null), (63, .iinc 2 1, 66, 0, 0, [], .null), (66, .goto (-59), 69, 7, 0, [], .null), (69, .iload_n 1, 70, 0, 0, [], .null), (70, .ireturn, 71, 0, 0, [], .null)]
def oX2_contains : List (Nat × MOp) := [(0, .iload_n 0, 1, 0, 0, [], .null), (1, .iload_n 1, 2, 0, 0, [], .null), (2, .invokestatic 79, 5, 24, 1, [402, 403, 65], .null), (5, .iand, 6, 0, 0, [], .null), (6, .ifCond .eq 7, 9, 13, 0, [], .null), (9, .iconst 1, 10, 0, 0, [], .null), (10, .goto 4, 13, 14, 0, [], .null), (13, .iconst 0, 14, 0, 0, [], .null), (14, .ireturn, 15, 0, 0, [], .null)]
def oX2_divide : List (Nat × MOp) := [(0, .aload_n 0, 1, 0, 0, [], .null), (1, .iconst 0, 2, 0, 0, [], .null), (2, .putfield 9, 5, 2, 0, [141], .null), (5, .iconst 0, 6, 0, 0, [], .null), (6, .istore_n 3, 7, 0, 0, [], .null), (7, .iconst 0, 8, 0, 0, [], .null), (8, .istore 4, 10, 0, 0, [], .null), (10, .iload 4, 12, 0, 0, [], .null), (12, .aload_n 1, 13, 0, 0, [], .null), (13, .getfield 82, 16, 5, 0, [112], .null), (16, .if_icmp .ge 57, 19, 73, 0, [], .null), (19, .iload_n 2, 20, 0, 0, [], .null), (20, .iload 4, 22, 0, 0, [], .null), (22, .invokestatic 96, 25, 27, 2, [412, 413, 65], .null), (25, .ifCond .eq 26, 28, 51, 0, [], .null), (28, .aload_n 0, 29, 0, 0, [], .null), (29, .getfield 9, 32, 2, 0, [141], .null), (32, .istore_n 3, 33, 0, 0, [], .null), (33, .aload_n 0, 34, 0, 0, [], .null), (34, .getfield 22, 37, 2, 3, [149], .null), (37, .iload_n 3, 38, 0, 0, [], .null), (38, .iload 4, 40, 0, 0, [], .null), (40, .iastore, 41, 0, 0, [], .null), (41, .aload_n 0, 42, 0, 0, [], .null), (42, .dup, 43, 0, 0, [], .null), (43, .getfield 9, 46, 2, 0, [141], .null), (46, .iconst 1, 47, 0, 0, [], .null), (47, .iadd, 48, 0, 0, [], .null), (48, .putfield 9, 51, 2, 0, [141], .null), (51, .aload_n 0, 52, 0, 0, [], .null), (52, .getfield 18, 55, 2, 2, [146], .null), (55, .iload 4, 57, 0, 0, [], .null), (57, .iload_n 3, 58, 0, 0, [], .null), (58, .iastore, 59, 0, 0, [], .null), (59, .aload_n 0, 60, 0, 0, [], .null), (60, .getfield 41, 63, 2, 9, [161], .null), (63, .iload_n 3, 64, 0, 0, [], .null), (64, .iload 4, 66, 0, 0, [], .null), (66, .iastore, 67, 0, 0, [], .null), (67, .iinc 4 1, 70, 0, 0, [], .null), (70, .goto (-60), 73, 10, 0, [], .null), (73, .return_, 74, 0, 0, [], .null)]
def oX2_goesOn : List (Nat × MOp) := [(0, .iload_n 0, 1, 0, 0, [], .null), (1, .iconst 4, 2, 0, 0, [], .null), (2, .if_icmp .eq 13, 5, 15, 0, [], .null), (5, .iload_n 0, 6, 0, 0, [], .null), (6, .bipush 7, 8, 0, 0, [], .null), (8, .if_icmp .eq 7, 11, 15, 0, [], .null), (11, .iconst 1, 12, 0, 0, [], .null), (12, .goto 4, 15, 16, 0, [], .null), (15, .iconst 0, 16, 0, 0, [], .null), (16, .ireturn, 17, 0, 0, [], .null)]
def oX2_blockFrom : List (Nat × MOp) := [(0, .aload_n 1, 1, 0, 0, [], .null), (1, .iload_n 2, 2, 0, 0, [], .null), (2, .invokevirtual 100, 5, 16, 1, [419, 420, 421, 64], .null), (5, .ifCond .eq 12, 8, 17, 0, [], .null), (8, .aload_n 0, 9, 0, 0, [], .null), (9, .getfield 18, 12, 2, 2, [146], .null), (12, .iload_n 2, 13, 0, 0, [], .null), (13, .iaload, 14, 0, 0, [], .null), (14, .goto 4, 17, 18, 0, [], .null), (17, .iconst (-1), 18, 0, 0, [], .null), (18, .ireturn, 19, 0, 0, [], .null)]
def oX2_connect : List (Nat × MOp) := [(0, .aload_n 0, 1, 0, 0, [], .null), (1, .getfield 41, 4, 2, 9, [161], .null), (4, .iload_n 2, 5, 0, 0, [], .null), (5, .iaload, 6, 0, 0, [], .null), (6, .istore_n 3, 7, 0, 0, [], .null), (7, .aload_n 1, 8, 0, 0, [], .null), (8, .iload_n 3, 9, 0, 0, [], .null), (9, .invokevirtual 100, 12, 16, 1, [419, 420, 421, 64], .null), (12, .ifCond .eq 12, 15, 24, 0, [], .null), (15, .aload_n 1, 16, 0, 0, [], .null), (16, .getfield 87, 19, 5, 1, [116], .null), (19, .iload_n 3, 20, 0, 0, [], .null), (20, .iaload, 21, 0, 0, [], .null), (21, .goto 5, 24, 26, 0, [], .null), (24, .bipush 7, 26, 0, 0, [], .null), (26, .istore 4, 28, 0, 0, [], .null), (28, .aload_n 1, 29, 0, 0, [], .null), (29, .iload_n 3, 30, 0, 0, [], .null), (30, .invokevirtual 100, 33, 16, 1, [419, 420, 421, 64], .null), (33, .ifCond .eq 12, 36, 45, 0, [], .null), (36, .aload_n 1, 37, 0, 0, [], .null), (37, .getfield 93, 40, 5, 3, [121], .null), (40, .iload_n 3, 41, 0, 0, [], .null), (41, .iaload, 42, 0, 0, [], .null), (42, .goto 4, 45, 46, 0, [], .null), (45, .iconst (-1), 46, 0, 0, [], .null), (46, .istore 5, 48, 0, 0, [], .null), (48, .aload_n 0, 49, 0, 0, [], .null), (49, .getfield 25, 52, 2, 4, [151], .null), (52, .iload_n 2, 53, 0, 0, [], .null), (53, .iload 4, 55, 0, 0, [], .null), (55, .invokestatic 101, 58, 29, 1, [423, 424, 65], .null), (58, .ifCond .eq 14, 61, 72, 0, [], .null), (61, .aload_n 0, 62, 0, 0, [], .null), (62, .aload_n 1, 63, 0, 0, [], .null), (63, .iload_n 3, 64, 0, 0, [], .null), (64, .iconst 1, 65, 0, 0, [], .null), (65, .iadd, 66, 0, 0, [], .null), (66, .invokevirtual 104, 69, 30, 2, [426, 428, 11, 65], .null), (69, .goto 4, 72, 73, 0, [], .null), (72, .iconst (-1), 73, 0, 0, [], .null), (73, .iastore, 74, 0, 0, [], .null), (74, .aload_n 0, 75, 0, 0, [], .null), (75, .getfield 28, 78, 2, 5, [153], .null), (78, .iload_n 2, 79, 0, 0, [], .null), (79, .iload 4, 81, 0, 0, [], .null), (81, .invokestatic 90, 84, 25, 1, [405, 406, 65], .null), (84, .ifCond .eq 13, 87, 97, 0, [], .null), (87, .aload_n 0, 88, 0, 0, [], .null), (88, .aload_n 1, 89, 0, 0, [], .null), (89, .iload 5, 91, 0, 0, [], .null), (91, .invokevirtual 104, 94, 30, 2, [426, 428, 11, 65], .null), (94, .goto 4, 97, 98, 0, [], .null), (97, .iconst (-1), 98, 0, 0, [], .null), (98, .iastore, 99, 0, 0, [], .null), (99, .aload_n 0, 100, 0, 0, [], .null), (100, .getfield 31, 103, 2, 6, [155], .null), (103, .iload_n 2, 104, 0, 0, [], .null), (104, .aload_n 0, 105, 0, 0, [], .null), (105, .getfield 25, 108, 2, 4, [151], .null), (108, .iload_n 2, 109, 0, 0, [], .null), (109, .iaload, 110, 0, 0, [], .null), (110, .invokestatic 79, 113, 24, 1, [402, 403, 65], .null), (113, .aload_n 0, 114, 0, 0, [], .null), (114, .getfield 28, 117, 2, 5, [153], .null), (117, .iload_n 2, 118, 0, 0, [], .null), (118, .iaload, 119, 0, 0, [], .null), (119, .invokestatic 79, 122, 24, 1, [402, 403, 65], .null), (122, .ior, 123, 0, 0, [], .null), (123, .iastore, 124, 0, 0, [], .null), (124, .iload 4, 126, 0, 0, [], .null), (126, .invokestatic 101, 129, 29, 1, [423, 424, 65], .null), (129, .ifCond .eq 17, 132, 146, 0, [], .null), (132, .aload_n 0, 133, 0, 0, [], .null), (133, .getfield 25, 136, 2, 4, [151], .null), (136, .iload_n 2, 137, 0, 0, [], .null), (137, .iaload, 138, 0, 0, [], .null), (138, .iconst (-1), 139, 0, 0, [], .null), (139, .if_icmp .ne 7, 142, 146, 0, [], .null), (142, .iconst 1, 143, 0, 0, [], .null), (143, .goto 4, 146, 147, 0, [], .null), (146, .iconst 0, 147, 0, 0, [], .null), (147, .istore 6, 149, 0, 0, [], .null), (149, .iload 4, 151, 0, 0, [], .null), (151, .invokestatic 90, 154, 25, 1, [405, 406, 65], .null), (154, .ifCond .eq 17, 157, 171, 0, [], .null), (157, .aload_n 0, 158, 0, 0, [], .null), (158, .getfield 28, 161, 2, 5, [153], .null), (161, .iload_n 2, 162, 0, 0, [], .null), (162, .iaload, 163, 0, 0, [], .null), (163, .iconst (-1), 164, 0, 0, [], .null), (164, .if_icmp .ne 7, 167, 171, 0, [], .null), (167, .iconst 1, 168, 0, 0, [], .null), (168, .goto 4, 171, 172, 0, [], .null), (171, .iconst 0, 172, 0, 0, [], .null), (172, .istore 7, 174, 0, 0, [], .null), (174, .aload_n 0, 175, 0, 0, [], .null), (175, .getfield 37, 178, 2, 8, [160], .null), (178, .iload_n 2, 179, 0, 0, [], .null), (179, .iload 4, 181, 0, 0, [], .null), (181, .bipush 7, 183, 0, 0, [], .null), (183, .if_icmp .eq 13, 186, 196, 0, [], .null), (186, .iload 6, 188, 0, 0, [], .null), (188, .ifCond .ne 8, 191, 196, 0, [], .null), (191, .iload 7, 193, 0, 0, [], .null), (193, .ifCond .eq 7, 196, 200, 0, [], .null), (196, .iconst 1, 197, 0, 0, [], .null), (197, .goto 4, 200, 201, 0, [], .null), (200, .iconst 0, 201, 0, 0, [], .null), (201, .bastore, 202, 0, 0, [], .null), (202, .return_, 203, 0, 0, [], .null)]
def oX2_has : List (Nat × MOp) := [(0, .iload_n 1, 1, 0, 0, [], .null), (1, .ifCond .lt 15, 4, 16, 0, [], .null), (4, .iload_n 1, 5, 0, 0, [], .null), (5, .aload_n 0, 6, 0, 0, [], .null), (6, .getfield 9, 9, 2, 0, [141], .null), (9, .if_icmp .ge 7, 12, 16, 0, [], .null), (12, .iconst 1, 13, 0, 0, [], .null), (13, .goto 4, 16, 17, 0, [], .null), (16, .iconst 0, 17, 0, 0, [], .null), (17, .ireturn, 18, 0, 0, [], .null)]
def oX2_addPredecessor : List (Nat × MOp) := [(0, .aload_n 0, 1, 0, 0, [], .null), (1, .iload_n 1, 2, 0, 0, [], .null), (2, .invokevirtual 75, 5, 32, 1, [438, 439, 440, 65], .null), (5, .ifCond .eq 16, 8, 21, 0, [], .null), (8, .aload_n 0, 9, 0, 0, [], .null), (9, .getfield 44, 12, 2, 10, [162], .null), (12, .iload_n 1, 13, 0, 0, [], .null), (13, .dup2, 14, 0, 0, [], .null), (14, .iaload, 15, 0, 0, [], .null), (15, .iload_n 2, 16, 0, 0, [], .null), (16, .invokestatic 79, 19, 24, 1, [402, 403, 65], .null), (19, .ior, 20, 0, 0, [], .null), (20, .iastore, 21, 0, 0, [], .null), (21, .return_, 22, 0, 0, [], .null)]
def oX2_collectPredecessors : List (Nat × MOp) := [(0, .iconst 0, 1, 0, 0, [], .null), (1, .istore_n 1, 2, 0, 0, [], .null), (2, .iload_n 1, 3, 0, 0, [], .null), (3, .aload_n 0, 4, 0, 0, [], .null), (4, .getfield 9, 7, 2, 0, [141], .null), (7, .if_icmp .ge 16, 10, 23, 0, [], .null), (10, .aload_n 0, 11, 0, 0, [], .null), (11, .getfield 44, 14, 2, 10, [162], .null), (14, .iload_n 1, 15, 0, 0, [], .null), (15, .iconst 0, 16, 0, 0, [], .null), (16, .iastore, 17, 0, 0, [], .null), (17, .iinc 1 1, 20, 0, 0, [], .null), (20, .goto (-18), 23, 2, 0, [], .null), (23, .iconst 0, 24, 0, 0, [], .null), (24, .istore_n 1, 25, 0, 0, [], .null), (25, .iload_n 1, 26, 0, 0, [], .null), (26, .aload_n 0, 27, 0, 0, [], .null), (27, .getfield 9, 30, 2, 0, [141], .null), (30, .if_icmp .ge 31, 33, 61, 0, [], .null), (33, .aload_n 0, 34, 0, 0, [], .null), (34, .aload_n 0, 35, 0, 0, [], .null), (35, .getfield 25, 38, 2, 4, [151], .null), (38, .iload_n 1, 39, 0, 0, [], .null), (39, .iaload, 40, 0, 0, [], .null), (40, .iload_n 1, 41, 0, 0, [], .null), (41, .invokevirtual 108, 44, 33, 2, [434, 436, 13, 65], .null), (44, .aload_n 0, 45, 0, 0, [], .null), (45, .aload_n 0, 46, 0, 0, [], .null), (46, .getfield 28, 49, 2, 5, [153], .null), (49, .iload_n 1, 50, 0, 0, [], .null), (50, .iaload, 51, 0, 0, [], .null), (51, .iload_n 1, 52, 0, 0, [], .null), (52, .invokevirtual 108, 55, 33, 2, [434, 436, 13, 65], .null), (55, .iinc 1 1, 58, 0, 0, [], .null), (58, .goto (-33), 61, 25, 0, [], .null), (61, .return_, 62, 0, 0, [], .null)]
def oX2_canEnd : List (Nat × MOp) := [(0, .aload_n 0, 1, 0, 0, [], .null), (1, .iload_n 1, 2, 0, 0, [], .null), (2, .invokevirtual 75, 5, 32, 1, [438, 439, 440, 65], .null), (5, .ifCond .eq 16, 8, 21, 0, [], .null), (8, .aload_n 0, 9, 0, 0, [], .null), (9, .getfield 37, 12, 2, 8, [160], .null), (12, .iload_n 1, 13, 0, 0, [], .null), (13, .baload, 14, 0, 0, [], .null), (14, .ifCond .eq 7, 17, 21, 0, [], .null), (17, .iconst 1, 18, 0, 0, [], .null), (18, .goto 4, 21, 22, 0, [], .null), (21, .iconst 0, 22, 0, 0, [], .null), (22, .ireturn, 23, 0, 0, [], .null)]
def oX2_isJoined : List (Nat × MOp) := [(0, .iload_n 1, 1, 0, 0, [], .null), (1, .ifCond .eq 46, 4, 47, 0, [], .null), (4, .iload_n 1, 5, 0, 0, [], .null), (5, .iload_n 2, 6, 0, 0, [], .null), (6, .if_icmp .eq 41, 9, 47, 0, [], .null), (9, .aload_n 0, 10, 0, 0, [], .null), (10, .iload_n 2, 11, 0, 0, [], .null), (11, .invokevirtual 115, 14, 35, 1, [450, 451, 452, 65], .null), (14, .ifCond .ne 33, 17, 47, 0, [], .null), (17, .aload_n 0, 18, 0, 0, [], .null), (18, .getfield 31, 21, 2, 6, [155], .null), (21, .iload_n 2, 22, 0, 0, [], .null), (22, .iaload, 23, 0, 0, [], .null), (23, .iload_n 1, 24, 0, 0, [], .null), (24, .invokestatic 79, 27, 24, 1, [402, 403, 65], .null), (27, .if_icmp .ne 20, 30, 47, 0, [], .null), (30, .aload_n 0, 31, 0, 0, [], .null), (31, .getfield 44, 34, 2, 10, [162], .null), (34, .iload_n 1, 35, 0, 0, [], .null), (35, .iaload, 36, 0, 0, [], .null), (36, .iload_n 2, 37, 0, 0, [], .null), (37, .invokestatic 79, 40, 24, 1, [402, 403, 65], .null), (40, .if_icmp .ne 7, 43, 47, 0, [], .null), (43, .iconst 1, 44, 0, 0, [], .null), (44, .goto 4, 47, 48, 0, [], .null), (47, .iconst 0, 48, 0, 0, [], .null), (48, .ireturn, 49, 0, 0, [], .null)]
def oX2_join : List (Nat × MOp) := [(0, .iconst 0, 1, 0, 0, [], .null), (1, .istore_n 1, 2, 0, 0, [], .null), (2, .iload_n 1, 3, 0, 0, [], .null), (3, .aload_n 0, 4, 0, 0, [], .null), (4, .getfield 9, 7, 2, 0, [141], .null), (7, .if_icmp .ge 16, 10, 23, 0, [], .null), (10, .aload_n 0, 11, 0, 0, [], .null), (11, .getfield 47, 14, 2, 11, [163], .null), (14, .iload_n 1, 15, 0, 0, [], .null), (15, .iconst (-1), 16, 0, 0, [], .null), (16, .iastore, 17, 0, 0, [], .null), (17, .iinc 1 1, 20, 0, 0, [], .null), (20, .goto (-18), 23, 2, 0, [], .null), (23, .iconst 0, 24, 0, 0, [], .null), (24, .istore_n 1, 25, 0, 0, [], .null), (25, .iload_n 1, 26, 0, 0, [], .null), (26, .aload_n 0, 27, 0, 0, [], .null), (27, .getfield 9, 30, 2, 0, [141], .null), (30, .if_icmp .ge 59, 33, 89, 0, [], .null), (33, .aload_n 0, 34, 0, 0, [], .null), (34, .getfield 25, 37, 2, 4, [151], .null), (37, .iload_n 1, 38, 0, 0, [], .null), (38, .iaload, 39, 0, 0, [], .null), (39, .iconst (-1), 40, 0, 0, [], .null), (40, .if_icmp .eq 12, 43, 52, 0, [], .null), (43, .aload_n 0, 44, 0, 0, [], .null), (44, .getfield 25, 47, 2, 4, [151], .null), (47, .iload_n 1, 48, 0, 0, [], .null), (48, .iaload, 49, 0, 0, [], .null), (49, .goto 9, 52, 58, 0, [], .null), (52, .aload_n 0, 53, 0, 0, [], .null), (53, .getfield 28, 56, 2, 5, [153], .null), (56, .iload_n 1, 57, 0, 0, [], .null), (57, .iaload, 58, 0, 0, [], .null), (58, .istore_n 2, 59, 0, 0, [], .null), (59, .aload_n 0, 60, 0, 0, [], .null), (60, .iload_n 2, 61, 0, 0, [], .null), (61, .invokevirtual 75, 64, 32, 1, [438, 439, 440, 65], .null), (64, .ifCond .eq 19, 67, 83, 0, [], .null), (67, .aload_n 0, 68, 0, 0, [], .null), (68, .iload_n 2, 69, 0, 0, [], .null), (69, .iload_n 1, 70, 0, 0, [], .null), (70, .invokevirtual 112, 73, 36, 2, [446, 448, 15, 65], .null), (73, .ifCond .eq 10, 76, 83, 0, [], .null), (76, .aload_n 0, 77, 0, 0, [], .null), (77, .getfield 47, 80, 2, 11, [163], .null), (80, .iload_n 2, 81, 0, 0, [], .null), (81, .iload_n 1, 82, 0, 0, [], .null), (82, .iastore, 83, 0, 0, [], .null), (83, .iinc 1 1, 86, 0, 0, [], .null), (86, .goto (-61), 89, 25, 0, [], .null), (89, .return_, 90, 0, 0, [], .null)]
def oJ9_min_7cf53 : List (Nat × MOp) := [(0, .iload_n 0, 1, 0, 0, [], .null), (1, .iload_n 1, 2, 0, 0, [], .null), (2, .if_icmp .gt 7, 5, 9, 0, [], .null), (5, .iload_n 0, 6, 0, 0, [], .null), (6, .goto 4, 9, 10, 0, [], .null), (9, .iload_n 1, 10, 0, 0, [], .null), (10, .ireturn, 11, 0, 0, [], .null)]
def oX2_headOf : List (Nat × MOp) := [(0, .iload_n 1, 1, 0, 0, [], .null), (1, .istore_n 2, 2, 0, 0, [], .null), (2, .iload_n 1, 3, 0, 0, [], .null), (3, .istore_n 3, 4, 0, 0, [], .null), (4, .iconst 0, 5, 0, 0, [], .null), (5, .istore 4, 7, 0, 0, [], .null), (7, .iload 4, 9, 0, 0, [], .null), (9, .aload_n 0, 10, 0, 0, [], .null), (10, .getfield 9, 13, 2, 0, [141], .null), (13, .if_icmp .ge 42, 16, 55, 0, [], .null), (16, .aload_n 0, 17, 0, 0, [], .null), (17, .iload_n 2, 18, 0, 0, [], .null), (18, .invokevirtual 75, 21, 32, 1, [438, 439, 440, 65], .null), (21, .ifCond .eq 13, 24, 34, 0, [], .null), (24, .aload_n 0, 25, 0, 0, [], .null), (25, .getfield 47, 28, 2, 11, [163], .null), (28, .iload_n 2, 29, 0, 0, [], .null), (29, .iaload, 30, 0, 0, [], .null), (30, .iconst (-1), 31, 0, 0, [], .null), (31, .if_icmp .ne 5, 34, 36, 0, [], .null), (34, .iload_n 2, 35, 0, 0, [], .null), (35, .ireturn, 36, 0, 0, [], .null), (36, .aload_n 0, 37, 0, 0, [], .null), (37, .getfield 47, 40, 2, 11, [163], .null), (40, .iload_n 2, 41, 0, 0, [], .null), (41, .iaload, 42, 0, 0, [], .null), (42, .istore_n 2, 43, 0, 0, [], .null), (43, .iload_n 3, 44, 0, 0, [], .null), (44, .iload_n 2, 45, 0, 0, [], .null), (45, .invokestatic 118, 48, 38, 2, [458, 459, 71], .null), (48, .istore_n 3, 49, 0, 0, [], .null), (49, .iinc 4 1, 52, 0, 0, [], .null), (52, .goto (-45), 55, 7, 0, [], .null), (55, .iload_n 3, 56, 0, 0, [], .null), (56, .ireturn, 57, 0, 0, [], .null)]
def oX2_reach : List (Nat × MOp) := [(0, .aload_n 0, 1, 0, 0, [], .null), (1, .iconst 0, 2, 0, 0, [], .null), (2, .invokevirtual 75, 5, 32, 1, [438, 439, 440, 65], .null), (5, .ifCond .eq 10, 8, 15, 0, [], .null), (8, .iconst 0, 9, 0, 0, [], .null), (9, .invokestatic 79, 12, 24, 1, [402, 403, 65], .null), (12, .goto 4, 15, 16, 0, [], .null), (15, .iconst 0, 16, 0, 0, [], .null), (16, .istore_n 1, 17, 0, 0, [], .null), (17, .iconst 0, 18, 0, 0, [], .null), (18, .istore_n 2, 19, 0, 0, [], .null), (19, .iload_n 2, 20, 0, 0, [], .null), (20, .aload_n 0, 21, 0, 0, [], .null), (21, .getfield 9, 24, 2, 0, [141], .null), (24, .if_icmp .ge 55, 27, 79, 0, [], .null), (27, .iload_n 1, 28, 0, 0, [], .null), (28, .istore_n 3, 29, 0, 0, [], .null), (29, .iconst 0, 30, 0, 0, [], .null), (30, .istore 4, 32, 0, 0, [], .null), (32, .iload 4, 34, 0, 0, [], .null), (34, .aload_n 0, 35, 0, 0, [], .null), (35, .getfield 9, 38, 2, 0, [141], .null), (38, .if_icmp .ge 28, 41, 66, 0, [], .null), (41, .iload_n 1, 42, 0, 0, [], .null), (42, .iload 4, 44, 0, 0, [], .null), (44, .invokestatic 96, 47, 27, 2, [412, 413, 65], .null), (47, .ifCond .eq 13, 50, 60, 0, [], .null), (50, .iload_n 1, 51, 0, 0, [], .null), (51, .aload_n 0, 52, 0, 0, [], .null), (52, .getfield 31, 55, 2, 6, [155], .null), (55, .iload 4, 57, 0, 0, [], .null), (57, .iaload, 58, 0, 0, [], .null), (58, .ior, 59, 0, 0, [], .null), (59, .istore_n 1, 60, 0, 0, [], .null), (60, .iinc 4 1, 63, 0, 0, [], .null), (63, .goto (-31), 66, 32, 0, [], .null), (66, .iload_n 1, 67, 0, 0, [], .null), (67, .iload_n 3, 68, 0, 0, [], .null), (68, .if_icmp .ne 5, 71, 73, 0, [], .null), (71, .iload_n 1, 72, 0, 0, [], .null), (72, .ireturn, 73, 0, 0, [], .null), (73, .iinc 2 1, 76, 0, 0, [], .null), (76, .goto (-57), 79, 19, 0, [], .null), (79, .iload_n 1, 80, 0, 0, [], .null), (80, .ireturn, 81, 0, 0, [], .null)]
def oX2_update : List (Nat × MOp) := [(0, .aload_n 0, 1, 0, 0, [], .null), (1, .aload_n 1, 2, 0, 0, [], .null), (2, .aload_n 1, 3, 0, 0, [], .null), (3, .invokestatic 50, 6, 26, 1, [399, 400, 65], .null), (6, .invokevirtual 54, 9, 28, 2, [408, 410, 9, 65], .null), (9, .iconst 0, 10, 0, 0, [], .null), (10, .istore_n 2, 11, 0, 0, [], .null), (11, .iload_n 2, 12, 0, 0, [], .null), (12, .aload_n 0, 13, 0, 0, [], .null), (13, .getfield 9, 16, 2, 0, [141], .null), (16, .if_icmp .ge 15, 19, 31, 0, [], .null), (19, .aload_n 0, 20, 0, 0, [], .null), (20, .aload_n 1, 21, 0, 0, [], .null), (21, .iload_n 2, 22, 0, 0, [], .null), (22, .invokevirtual 58, 25, 31, 2, [415, 417, 10, 65], .null), (25, .iinc 2 1, 28, 0, 0, [], .null), (28, .goto (-17), 31, 11, 0, [], .null), (31, .aload_n 0, 32, 0, 0, [], .null), (32, .invokevirtual 61, 35, 34, 0, [430, 432, 12, 65], .null), (35, .aload_n 0, 36, 0, 0, [], .null), (36, .invokevirtual 64, 39, 37, 0, [442, 444, 14, 65], .null), (39, .iconst 0, 40, 0, 0, [], .null), (40, .istore_n 2, 41, 0, 0, [], .null), (41, .iload_n 2, 42, 0, 0, [], .null), (42, .aload_n 0, 43, 0, 0, [], .null), (43, .getfield 9, 46, 2, 0, [141], .null), (46, .if_icmp .ge 20, 49, 66, 0, [], .null), (49, .aload_n 0, 50, 0, 0, [], .null), (50, .getfield 34, 53, 2, 7, [157], .null), (53, .iload_n 2, 54, 0, 0, [], .null), (54, .aload_n 0, 55, 0, 0, [], .null), (55, .iload_n 2, 56, 0, 0, [], .null), (56, .invokevirtual 67, 59, 39, 1, [454, 456, 16, 65], .null), (59, .iastore, 60, 0, 0, [], .null), (60, .iinc 2 1, 63, 0, 0, [], .null), (63, .goto (-22), 66, 41, 0, [], .null), (66, .aload_n 0, 67, 0, 0, [], .null), (67, .aload_n 0, 68, 0, 0, [], .null), (68, .invokevirtual 71, 71, 40, 0, [461, 463, 17, 65], .null), (71, .putfield 15, 74, 2, 1, [144], .null), (74, .return_, 75, 0, 0, [], .null)]
def oX5_init : List (Nat × MOp) := [(0, .aload_n 0, 1, 0, 0, [], .null), (1, .invokespecial 3, 4, 0, 0, [107, 79], .int 2), (4, .aload_n 0, 5, 0, 0, [], .null), (5, .iconst 0, 6, 0, 0, [], .null), (6, .putfield 9, 9, 5, 0, [108], .null), (9, .aload_n 0, 10, 0, 0, [], .null), (10, .bipush 24, 12, 0, 0, [], .null), (12, .newarray .int, 14, 0, 0, [101], .null), (14, .putfield 15, 17, 5, 1, [113], .null), (17, .aload_n 0, 18, 0, 0, [], .null), (18, .bipush 24, 20, 0, 0, [], .null), (20, .newarray .int, 22, 0, 0, [101], .null), (22, .putfield 19, 25, 5, 2, [117], .null), (25, .aload_n 0, 26, 0, 0, [], .null), (26, .bipush 24, 28, 0, 0, [], .null), (28, .newarray .int, 30, 0, 0, [101], .null), (30, .putfield 22, 33, 5, 3, [119], .null), (33, .aload_n 0, 34, 0, 0, [], .null), (34, .bipush 8, 36, 0, 0, [], .null), (36, .newarray .int, 38, 0, 0, [101], .null), (38, .putfield 25, 41, 5, 4, [122], .null), (41, .iconst 0, 42, 0, 0, [], .null), (42, .istore_n 1, 43, 0, 0, [], .null), (43, .iload_n 1, 44, 0, 0, [], .null), (44, .bipush 8, 46, 0, 0, [], .null), (46, .if_icmp .ge 16, 49, 62, 0, [], .null), (49, .aload_n 0, 50, 0, 0, [], .null), (50, .getfield 25, 53, 5, 4, [122], .null), (53, .iload_n 1, 54, 0, 0, [], .null), (54, .iconst 1, 55, 0, 0, [], .null), (55, .iastore, 56, 0, 0, [], .null), (56, .iinc 1 1, 59, 0, 0, [], .null), (59, .goto (-16), 62, 43, 0, [], .null), (62, .return_, 63, 0, 0, [], .null)]
def oX3_init : List (Nat × MOp) := [(0, .aload_n 0, 1, 0, 0, [], .null), (1, .invokespecial 3, 4, 0, 0, [234, 79], .int 2), (4, .aload_n 0, 5, 0, 0, [], .null), (5, .iconst 0, 6, 0, 0, [], .null), (6, .putfield 9, 9, 3, 0, [238], .null), (9, .aload_n 0, 10, 0, 0, [], .null), (10, .iconst 0, 11, 0, 0, [], .null), (11, .putfield 15, 14, 3, 1, [240], .null), (14, .aload_n 0, 15, 0, 0, [], .null), (15, .iconst 5, 16, 0, 0, [], .null), (16, .anewarray 18, 19, 5, 0, [235], .null), (19, .putfield 20, 22, 3, 2, [241], .null), (22, .iconst 0, 23, 0, 0, [], .null), (23, .istore_n 1, 24, 0, 0, [], .null), (24, .iload_n 1, 25, 0, 0, [], .null), (25, .iconst 5, 26, 0, 0, [], .null), (26, .if_icmp .ge 22, 29, 48, 0, [], .null), (29, .aload_n 0, 30, 0, 0, [], .null), (30, .getfield 20, 33, 3, 2, [241], .null), (33, .iload_n 1, 34, 0, 0, [], .null), (34, .new 18, 37, 5, 0, [235, 103, 64], .null), (37, .dup, 38, 0, 0, [], .null), (38, .invokespecial 24, 41, 42, 0, [237, 105, 64], .null), (41, .aastore, 42, 0, 0, [], .null), (42, .iinc 1 1, 45, 0, 0, [], .null), (45, .goto (-21), 48, 24, 0, [], .null), (48, .return_, 49, 0, 0, [], .null)]
def oX3_placeAt : List (Nat × MOp) := [(0, .iload_n 1, 1, 0, 0, [], .null), (1, .ifCond .lt 17, 4, 18, 0, [], .null), (4, .iload_n 1, 5, 0, 0, [], .null), (5, .iconst 5, 6, 0, 0, [], .null), (6, .if_icmp .ge 12, 9, 18, 0, [], .null), (9, .aload_n 0, 10, 0, 0, [], .null), (10, .getfield 20, 13, 3, 2, [241], .null), (13, .iload_n 1, 14, 0, 0, [], .null), (14, .aaload, 15, 0, 0, [], .null), (15, .goto 4, 18, 19, 0, [], .null), (18, .aconst_null, 19, 0, 0, [], .null), (19, .areturn, 20, 0, 0, [], .null)]
def oX5_takeProgram : List (Nat × MOp) := [(0, .aload_n 0, 1, 0, 0, [], .null), (1, .aload_n 1, 2, 0, 0, [], .null), (2, .getfield 9, 5, 5, 0, [108], .null), (5, .putfield 9, 8, 5, 0, [108], .null), (8, .aload_n 1, 9, 0, 0, [], .null), (9, .getfield 15, 12, 5, 1, [113], .null), (12, .iconst 0, 13, 0, 0, [], .null), (13, .aload_n 0, 14, 0, 0, [], .null), (14, .getfield 15, 17, 5, 1, [113], .null), (17, .iconst 0, 18, 0, 0, [], .null), (18, .bipush 24, 20, 0, 0, [], .null), (20, .invokestatic 32, 23, 0, 0, [387, 389, 388, 70], .int 3), (23, .aload_n 1, 24, 0, 0, [], .null), (24, .getfield 19, 27, 5, 2, [117], .null), (27, .iconst 0, 28, 0, 0, [], .null), (28, .aload_n 0, 29, 0, 0, [], .null), (29, .getfield 19, 32, 5, 2, [117], .null), (32, .iconst 0, 33, 0, 0, [], .null), (33, .bipush 24, 35, 0, 0, [], .null), (35, .invokestatic 32, 38, 0, 0, [387, 389, 388, 70], .int 3), (38, .aload_n 1, 39, 0, 0, [], .null), (39, .getfield 22, 42, 5, 3, [119], .null), (42, .iconst 0, 43, 0, 0, [], .null), (43, .aload_n 0, 44, 0, 0, [], .null), (44, .getfield 22, 47, 5, 3, [119], .null), (47, .iconst 0, 48, 0, 0, [], .null), (48, .bipush 24, 50, 0, 0, [], .null), (50, .invokestatic 32, 53, 0, 0, [387, 389, 388, 70], .int 3), (53, .return_, 54, 0, 0, [], .null)]
def oX5_takeAll : List (Nat × MOp) := [(0, .aload_n 0, 1, 0, 0, [], .null), (1, .aload_n 1, 2, 0, 0, [], .null), (2, .invokevirtual 38, 5, 45, 1, [383, 384, 385, 64], .null), (5, .aload_n 1, 6, 0, 0, [], .null), (6, .getfield 25, 9, 5, 4, [122], .null), (9, .iconst 0, 10, 0, 0, [], .null), (10, .aload_n 0, 11, 0, 0, [], .null), (11, .getfield 25, 14, 5, 4, [122], .null), (14, .iconst 0, 15, 0, 0, [], .null), (15, .bipush 8, 17, 0, 0, [], .null), (17, .invokestatic 32, 20, 0, 0, [387, 389, 388, 70], .int 3), (20, .return_, 21, 0, 0, [], .null)]
def oX3_save : List (Nat × MOp) := [(0, .aload_n 0, 1, 0, 0, [], .null), (1, .aload_n 0, 2, 0, 0, [], .null), (2, .getfield 15, 5, 3, 1, [240], .null), (5, .invokevirtual 25, 8, 44, 1, [375, 377, 7, 67], .null), (8, .astore_n 2, 9, 0, 0, [], .null), (9, .aload_n 2, 10, 0, 0, [], .null), (10, .ifnonnull 4, 13, 14, 0, [], .null), (13, .return_, 14, 0, 0, [], .null), (14, .aload_n 2, 15, 0, 0, [], .null), (15, .aload_n 1, 16, 0, 0, [], .null), (16, .invokevirtual 29, 19, 46, 1, [379, 380, 381, 64], .null), (19, .aload_n 0, 20, 0, 0, [], .null), (20, .aload_n 0, 21, 0, 0, [], .null), (21, .getfield 15, 24, 3, 1, [240], .null), (24, .iconst 1, 25, 0, 0, [], .null), (25, .iadd, 26, 0, 0, [], .null), (26, .iconst 5, 27, 0, 0, [], .null), (27, .if_icmp .ge 12, 30, 39, 0, [], .null), (30, .aload_n 0, 31, 0, 0, [], .null), (31, .getfield 15, 34, 3, 1, [240], .null), (34, .iconst 1, 35, 0, 0, [], .null), (35, .iadd, 36, 0, 0, [], .null), (36, .goto 4, 39, 40, 0, [], .null), (39, .iconst 0, 40, 0, 0, [], .null), (40, .putfield 15, 43, 3, 1, [240], .null), (43, .aload_n 0, 44, 0, 0, [], .null), (44, .aload_n 0, 45, 0, 0, [], .null), (45, .getfield 9, 48, 3, 0, [238], .null), (48, .iconst 5, 49, 0, 0, [], .null), (49, .if_icmp .ge 12, 52, 61, 0, [], .null), (52, .aload_n 0, 53, 0, 0, [], .null), (53, .getfield 9, 56, 3, 0, [238], .null), (56, .iconst 1, 57, 0, 0, [], .null), (57, .iadd, 58, 0, 0, [], .null), (58, .goto 4, 61, 62, 0, [], .null), (61, .iconst 5, 62, 0, 0, [], .null), (62, .putfield 9, 65, 3, 0, [238], .null), (65, .return_, 66, 0, 0, [], .null)]
def oX3_restore : List (Nat × MOp) := [(0, .aload_n 0, 1, 0, 0, [], .null), (1, .getfield 15, 4, 3, 1, [240], .null), (4, .ifCond .le 12, 7, 16, 0, [], .null), (7, .aload_n 0, 8, 0, 0, [], .null), (8, .getfield 15, 11, 3, 1, [240], .null), (11, .iconst 1, 12, 0, 0, [], .null), (12, .isub, 13, 0, 0, [], .null), (13, .goto 4, 16, 17, 0, [], .null), (16, .iconst 4, 17, 0, 0, [], .null), (17, .istore_n 2, 18, 0, 0, [], .null), (18, .aload_n 0, 19, 0, 0, [], .null), (19, .iload_n 2, 20, 0, 0, [], .null), (20, .invokevirtual 25, 23, 44, 1, [375, 377, 7, 67], .null), (23, .astore_n 3, 24, 0, 0, [], .null), (24, .aload_n 0, 25, 0, 0, [], .null), (25, .getfield 9, 28, 3, 0, [238], .null), (28, .ifCond .eq 7, 31, 35, 0, [], .null), (31, .aload_n 3, 32, 0, 0, [], .null), (32, .ifnonnull 4, 35, 36, 0, [], .null), (35, .return_, 36, 0, 0, [], .null), (36, .aload_n 1, 37, 0, 0, [], .null), (37, .aload_n 3, 38, 0, 0, [], .null), (38, .invokevirtual 29, 41, 46, 1, [379, 380, 381, 64], .null), (41, .aload_n 0, 42, 0, 0, [], .null), (42, .iload_n 2, 43, 0, 0, [], .null), (43, .putfield 15, 46, 3, 1, [240], .null), (46, .aload_n 0, 47, 0, 0, [], .null), (47, .dup, 48, 0, 0, [], .null), (48, .getfield 9, 51, 3, 0, [238], .null), (51, .iconst 1, 52, 0, 0, [], .null), (52, .isub, 53, 0, 0, [], .null), (53, .putfield 9, 56, 3, 0, [238], .null), (56, .return_, 57, 0, 0, [], .null)]
def oX4_init : List (Nat × MOp) := [(0, .aload_n 0, 1, 0, 0, [], .null), (1, .invokespecial 3, 4, 0, 0, [195, 79], .int 2), (4, .aload_n 0, 5, 0, 0, [], .null), (5, .iconst 0, 6, 0, 0, [], .null), (6, .putfield 9, 9, 4, 0, [196], .null), (9, .aload_n 0, 10, 0, 0, [], .null), (10, .iconst 0, 11, 0, 0, [], .null), (11, .putfield 15, 14, 4, 1, [198], .null), (14, .aload_n 0, 15, 0, 0, [], .null), (15, .bipush 24, 17, 0, 0, [], .null), (17, .newarray .int, 19, 0, 0, [101], .null), (19, .putfield 18, 22, 4, 2, [200], .null), (22, .aload_n 0, 23, 0, 0, [], .null), (23, .bipush 24, 25, 0, 0, [], .null), (25, .newarray .int, 27, 0, 0, [101], .null), (27, .putfield 22, 30, 4, 3, [202], .null), (30, .aload_n 0, 31, 0, 0, [], .null), (31, .bipush 24, 33, 0, 0, [], .null), (33, .newarray .int, 35, 0, 0, [101], .null), (35, .putfield 25, 38, 4, 4, [204], .null), (38, .aload_n 0, 39, 0, 0, [], .null), (39, .bipush 24, 41, 0, 0, [], .null), (41, .newarray .int, 43, 0, 0, [101], .null), (43, .putfield 28, 46, 4, 5, [206], .null), (46, .aload_n 0, 47, 0, 0, [], .null), (47, .bipush 24, 49, 0, 0, [], .null), (49, .newarray .int, 51, 0, 0, [101], .null), (51, .putfield 31, 54, 4, 6, [207], .null), (54, .aload_n 0, 55, 0, 0, [], .null), (55, .bipush 24, 57, 0, 0, [], .null), (57, .newarray .int, 59, 0, 0, [101], .null), (59, .putfield 34, 62, 4, 7, [208], .null), (62, .aload_n 0, 63, 0, 0, [], .null), (63, .bipush 24, 65, 0, 0, [], .null), (65, .newarray .int, 67, 0, 0, [101], .null), (67, .putfield 37, 70, 4, 8, [209], .null), (70, .return_, 71, 0, 0, [], .null)]
def oX5_costAt : List (Nat × MOp) := [(0, .aload_n 0, 1, 0, 0, [], .null), (1, .iload_n 1, 2, 0, 0, [], .null), (2, .invokevirtual 28, 5, 16, 1, [477, 420, 421, 64], .null), (5, .ifCond .eq 12, 8, 17, 0, [], .null), (8, .aload_n 0, 9, 0, 0, [], .null), (9, .getfield 15, 12, 5, 1, [113], .null), (12, .iload_n 1, 13, 0, 0, [], .null), (13, .iaload, 14, 0, 0, [], .null), (14, .goto 4, 17, 18, 0, [], .null), (17, .iconst (-1), 18, 0, 0, [], .null), (18, .istore_n 2, 19, 0, 0, [], .null), (19, .iload_n 2, 20, 0, 0, [], .null), (20, .ifCond .lt 18, 23, 38, 0, [], .null), (23, .iload_n 2, 24, 0, 0, [], .null), (24, .bipush 8, 26, 0, 0, [], .null), (26, .if_icmp .ge 12, 29, 38, 0, [], .null), (29, .aload_n 0, 30, 0, 0, [], .null), (30, .getfield 25, 33, 5, 4, [122], .null), (33, .iload_n 2, 34, 0, 0, [], .null), (34, .iaload, 35, 0, 0, [], .null), (35, .goto 4, 38, 39, 0, [], .null), (38, .iconst 0, 39, 0, 0, [], .null), (39, .ireturn, 40, 0, 0, [], .null)]
def oX4_sumInstructions : List (Nat × MOp) := [(0, .iconst 0, 1, 0, 0, [], .null), (1, .istore_n 3, 2, 0, 0, [], .null), (2, .iload_n 3, 3, 0, 0, [], .null), (3, .aload_n 2, 4, 0, 0, [], .null), (4, .getfield 58, 7, 2, 0, [142], .null), (7, .if_icmp .ge 16, 10, 23, 0, [], .null), (10, .aload_n 0, 11, 0, 0, [], .null), (11, .getfield 18, 14, 4, 2, [200], .null), (14, .iload_n 3, 15, 0, 0, [], .null), (15, .iconst 0, 16, 0, 0, [], .null), (16, .iastore, 17, 0, 0, [], .null), (17, .iinc 3 1, 20, 0, 0, [], .null), (20, .goto (-18), 23, 2, 0, [], .null), (23, .iconst 0, 24, 0, 0, [], .null), (24, .istore_n 3, 25, 0, 0, [], .null), (25, .iload_n 3, 26, 0, 0, [], .null), (26, .aload_n 1, 27, 0, 0, [], .null), (27, .getfield 63, 30, 5, 0, [110], .null), (30, .if_icmp .ge 53, 33, 83, 0, [], .null), (33, .aload_n 2, 34, 0, 0, [], .null), (34, .getfield 68, 37, 2, 2, [147], .null), (37, .iload_n 3, 38, 0, 0, [], .null), (38, .iaload, 39, 0, 0, [], .null), (39, .istore 4, 41, 0, 0, [], .null), (41, .aload_n 0, 42, 0, 0, [], .null), (42, .getfield 25, 45, 4, 4, [204], .null), (45, .iload_n 3, 46, 0, 0, [], .null), (46, .aload_n 1, 47, 0, 0, [], .null), (47, .iload_n 3, 48, 0, 0, [], .null), (48, .invokevirtual 71, 51, 50, 1, [473, 474, 475, 64], .null), (51, .iastore, 52, 0, 0, [], .null), (52, .aload_n 2, 53, 0, 0, [], .null), (53, .iload 4, 55, 0, 0, [], .null), (55, .invokevirtual 75, 58, 32, 1, [478, 439, 440, 65], .null), (58, .ifCond .eq 19, 61, 77, 0, [], .null), (61, .aload_n 0, 62, 0, 0, [], .null), (62, .getfield 18, 65, 4, 2, [200], .null), (65, .iload 4, 67, 0, 0, [], .null), (67, .dup2, 68, 0, 0, [], .null), (68, .iaload, 69, 0, 0, [], .null), (69, .aload_n 0, 70, 0, 0, [], .null), (70, .getfield 25, 73, 4, 4, [204], .null), (73, .iload_n 3, 74, 0, 0, [], .null), (74, .iaload, 75, 0, 0, [], .null), (75, .iadd, 76, 0, 0, [], .null), (76, .iastore, 77, 0, 0, [], .null), (77, .iinc 3 1, 80, 0, 0, [], .null), (80, .goto (-55), 83, 25, 0, [], .null), (83, .return_, 84, 0, 0, [], .null)]
def oX4_sumChains : List (Nat × MOp) := [(0, .iconst 0, 1, 0, 0, [], .null), (1, .istore_n 2, 2, 0, 0, [], .null), (2, .iload_n 2, 3, 0, 0, [], .null), (3, .aload_n 1, 4, 0, 0, [], .null), (4, .getfield 58, 7, 2, 0, [142], .null), (7, .if_icmp .ge 16, 10, 23, 0, [], .null), (10, .aload_n 0, 11, 0, 0, [], .null), (11, .getfield 22, 14, 4, 3, [202], .null), (14, .iload_n 2, 15, 0, 0, [], .null), (15, .iconst 0, 16, 0, 0, [], .null), (16, .iastore, 17, 0, 0, [], .null), (17, .iinc 2 1, 20, 0, 0, [], .null), (20, .goto (-18), 23, 2, 0, [], .null), (23, .iconst 0, 24, 0, 0, [], .null), (24, .istore_n 2, 25, 0, 0, [], .null), (25, .iload_n 2, 26, 0, 0, [], .null), (26, .aload_n 1, 27, 0, 0, [], .null), (27, .getfield 58, 30, 2, 0, [142], .null), (30, .if_icmp .ge 39, 33, 69, 0, [], .null), (33, .aload_n 1, 34, 0, 0, [], .null), (34, .getfield 79, 37, 2, 7, [158], .null), (37, .iload_n 2, 38, 0, 0, [], .null), (38, .iaload, 39, 0, 0, [], .null), (39, .istore_n 3, 40, 0, 0, [], .null), (40, .aload_n 1, 41, 0, 0, [], .null), (41, .iload_n 3, 42, 0, 0, [], .null), (42, .invokevirtual 75, 45, 32, 1, [478, 439, 440, 65], .null), (45, .ifCond .eq 18, 48, 63, 0, [], .null), (48, .aload_n 0, 49, 0, 0, [], .null), (49, .getfield 22, 52, 4, 3, [202], .null), (52, .iload_n 3, 53, 0, 0, [], .null), (53, .dup2, 54, 0, 0, [], .null), (54, .iaload, 55, 0, 0, [], .null), (55, .aload_n 0, 56, 0, 0, [], .null), (56, .getfield 18, 59, 4, 2, [200], .null), (59, .iload_n 2, 60, 0, 0, [], .null), (60, .iaload, 61, 0, 0, [], .null), (61, .iadd, 62, 0, 0, [], .null), (62, .iastore, 63, 0, 0, [], .null), (63, .iinc 2 1, 66, 0, 0, [], .null), (66, .goto (-41), 69, 25, 0, [], .null), (69, .iconst 0, 70, 0, 0, [], .null), (70, .istore_n 2, 71, 0, 0, [], .null), (71, .iload_n 2, 72, 0, 0, [], .null), (72, .aload_n 1, 73, 0, 0, [], .null), (73, .getfield 58, 76, 2, 0, [142], .null), (76, .if_icmp .ge 40, 79, 116, 0, [], .null), (79, .aload_n 1, 80, 0, 0, [], .null), (80, .getfield 79, 83, 2, 7, [158], .null), (83, .iload_n 2, 84, 0, 0, [], .null), (84, .iaload, 85, 0, 0, [], .null), (85, .istore_n 3, 86, 0, 0, [], .null), (86, .aload_n 0, 87, 0, 0, [], .null), (87, .getfield 22, 90, 4, 3, [202], .null), (90, .iload_n 2, 91, 0, 0, [], .null), (91, .aload_n 1, 92, 0, 0, [], .null), (92, .iload_n 3, 93, 0, 0, [], .null), (93, .invokevirtual 75, 96, 32, 1, [478, 439, 440, 65], .null), (96, .ifCond .eq 12, 99, 108, 0, [], .null), (99, .aload_n 0, 100, 0, 0, [], .null), (100, .getfield 22, 103, 4, 3, [202], .null), (103, .iload_n 3, 104, 0, 0, [], .null), (104, .iaload, 105, 0, 0, [], .null), (105, .goto 4, 108, 109, 0, [], .null), (108, .iconst 0, 109, 0, 0, [], .null), (109, .iastore, 110, 0, 0, [], .null), (110, .iinc 2 1, 113, 0, 0, [], .null), (113, .goto (-42), 116, 71, 0, [], .null), (116, .return_, 117, 0, 0, [], .null)]
def oX4_markEntries : List (Nat × MOp) := [(0, .iconst 0, 1, 0, 0, [], .null), (1, .istore_n 3, 2, 0, 0, [], .null), (2, .iload_n 3, 3, 0, 0, [], .null), (3, .aload_n 1, 4, 0, 0, [], .null), (4, .getfield 63, 7, 5, 0, [110], .null), (7, .if_icmp .ge 23, 10, 30, 0, [], .null), (10, .aload_n 0, 11, 0, 0, [], .null), (11, .getfield 31, 14, 4, 6, [207], .null), (14, .iload_n 3, 15, 0, 0, [], .null), (15, .iconst 0, 16, 0, 0, [], .null), (16, .iastore, 17, 0, 0, [], .null), (17, .aload_n 0, 18, 0, 0, [], .null), (18, .getfield 34, 21, 4, 7, [208], .null), (21, .iload_n 3, 22, 0, 0, [], .null), (22, .iconst 0, 23, 0, 0, [], .null), (23, .iastore, 24, 0, 0, [], .null), (24, .iinc 3 1, 27, 0, 0, [], .null), (27, .goto (-25), 30, 2, 0, [], .null), (30, .iconst 0, 31, 0, 0, [], .null), (31, .istore_n 3, 32, 0, 0, [], .null), (32, .iload_n 3, 33, 0, 0, [], .null), (33, .aload_n 2, 34, 0, 0, [], .null), (34, .getfield 58, 37, 2, 0, [142], .null), (37, .if_icmp .ge 66, 40, 103, 0, [], .null), (40, .aload_n 2, 41, 0, 0, [], .null), (41, .getfield 82, 44, 2, 3, [150], .null), (44, .iload_n 3, 45, 0, 0, [], .null), (45, .iaload, 46, 0, 0, [], .null), (46, .istore 4, 48, 0, 0, [], .null), (48, .aload_n 1, 49, 0, 0, [], .null), (49, .iload 4, 51, 0, 0, [], .null), (51, .invokevirtual 85, 54, 16, 1, [487, 420, 421, 64], .null), (54, .ifCond .eq 43, 57, 97, 0, [], .null), (57, .aload_n 0, 58, 0, 0, [], .null), (58, .getfield 31, 61, 4, 6, [207], .null), (61, .iload 4, 63, 0, 0, [], .null), (63, .aload_n 0, 64, 0, 0, [], .null), (64, .getfield 18, 67, 4, 2, [200], .null), (67, .iload_n 3, 68, 0, 0, [], .null), (68, .iaload, 69, 0, 0, [], .null), (69, .iastore, 70, 0, 0, [], .null), (70, .aload_n 0, 71, 0, 0, [], .null), (71, .getfield 34, 74, 4, 7, [208], .null), (74, .iload 4, 76, 0, 0, [], .null), (76, .aload_n 2, 77, 0, 0, [], .null), (77, .getfield 79, 80, 2, 7, [158], .null), (80, .iload_n 3, 81, 0, 0, [], .null), (81, .iaload, 82, 0, 0, [], .null), (82, .iload_n 3, 83, 0, 0, [], .null), (83, .if_icmp .ne 12, 86, 95, 0, [], .null), (86, .aload_n 0, 87, 0, 0, [], .null), (87, .getfield 22, 90, 4, 3, [202], .null), (90, .iload_n 3, 91, 0, 0, [], .null), (91, .iaload, 92, 0, 0, [], .null), (92, .goto 4, 95, 96, 0, [], .null), (95, .iconst 0, 96, 0, 0, [], .null), (96, .iastore, 97, 0, 0, [], .null), (97, .iinc 3 1, 100, 0, 0, [], .null), (100, .goto (-68), 103, 32, 0, [], .null), (103, .return_, 104, 0, 0, [], .null)]
def oX4_forgetWays : List (Nat × MOp) := [(0, .iconst 0, 1, 0, 0, [], .null), (1, .istore_n 2, 2, 0, 0, [], .null), (2, .iload_n 2, 3, 0, 0, [], .null), (3, .aload_n 1, 4, 0, 0, [], .null), (4, .getfield 58, 7, 2, 0, [142], .null), (7, .if_icmp .ge 16, 10, 23, 0, [], .null), (10, .aload_n 0, 11, 0, 0, [], .null), (11, .getfield 37, 14, 4, 8, [209], .null), (14, .iload_n 2, 15, 0, 0, [], .null), (15, .iconst (-1), 16, 0, 0, [], .null), (16, .iastore, 17, 0, 0, [], .null), (17, .iinc 2 1, 20, 0, 0, [], .null), (20, .goto (-18), 23, 2, 0, [], .null), (23, .return_, 24, 0, 0, [], .null)]
def oX4_wayFrom : List (Nat × MOp) := [(0, .aload_n 1, 1, 0, 0, [], .null), (1, .iload_n 2, 2, 0, 0, [], .null), (2, .invokevirtual 75, 5, 32, 1, [478, 439, 440, 65], .null), (5, .ifCond .eq 12, 8, 17, 0, [], .null), (8, .aload_n 0, 9, 0, 0, [], .null), (9, .getfield 37, 12, 4, 8, [209], .null), (12, .iload_n 2, 13, 0, 0, [], .null), (13, .iaload, 14, 0, 0, [], .null), (14, .goto 4, 17, 18, 0, [], .null), (17, .iconst (-1), 18, 0, 0, [], .null), (18, .ireturn, 19, 0, 0, [], .null)]
def oJ9_max_7cf53 : List (Nat × MOp) := [(0, .iload_n 0, 1, 0, 0, [], .null), (1, .iload_n 1, 2, 0, 0, [], .null), (2, .if_icmp .lt 7, 5, 9, 0, [], .null), (5, .iload_n 0, 6, 0, 0, [], .null), (6, .goto 4, 9, 10, 0, [], .null), (9, .iload_n 1, 10, 0, 0, [], .null), (10, .ireturn, 11, 0, 0, [], .null)]
def oX4_greatestFrom : List (Nat × MOp) := [(0, .aload_n 1, 1, 0, 0, [], .null), (1, .getfield 93, 4, 2, 4, [152], .null), (4, .iload_n 2, 5, 0, 0, [], .null), (5, .iaload, 6, 0, 0, [], .null), (6, .istore_n 3, 7, 0, 0, [], .null), (7, .aload_n 1, 8, 0, 0, [], .null), (8, .getfield 96, 11, 2, 5, [154], .null), (11, .iload_n 2, 12, 0, 0, [], .null), (12, .iaload, 13, 0, 0, [], .null), (13, .istore 4, 15, 0, 0, [], .null), (15, .iload_n 3, 16, 0, 0, [], .null), (16, .iconst (-1), 17, 0, 0, [], .null), (17, .if_icmp .ne 7, 20, 24, 0, [], .null), (20, .iconst 0, 21, 0, 0, [], .null), (21, .goto 9, 24, 30, 0, [], .null), (24, .aload_n 0, 25, 0, 0, [], .null), (25, .aload_n 1, 26, 0, 0, [], .null), (26, .iload_n 3, 27, 0, 0, [], .null), (27, .invokevirtual 99, 30, 55, 2, [500, 502, 24, 66], .null), (30, .istore 5, 32, 0, 0, [], .null), (32, .iload 4, 34, 0, 0, [], .null), (34, .iconst (-1), 35, 0, 0, [], .null), (35, .if_icmp .ne 7, 38, 42, 0, [], .null), (38, .iconst 0, 39, 0, 0, [], .null), (39, .goto 10, 42, 49, 0, [], .null), (42, .aload_n 0, 43, 0, 0, [], .null), (43, .aload_n 1, 44, 0, 0, [], .null), (44, .iload 4, 46, 0, 0, [], .null), (46, .invokevirtual 99, 49, 55, 2, [500, 502, 24, 66], .null), (49, .istore 6, 51, 0, 0, [], .null), (51, .iload 5, 53, 0, 0, [], .null), (53, .iconst (-1), 54, 0, 0, [], .null), (54, .if_icmp .eq 9, 57, 63, 0, [], .null), (57, .iload 6, 59, 0, 0, [], .null), (59, .iconst (-1), 60, 0, 0, [], .null), (60, .if_icmp .ne 5, 63, 65, 0, [], .null), (63, .iconst (-1), 64, 0, 0, [], .null), (64, .ireturn, 65, 0, 0, [], .null), (65, .aload_n 0, 66, 0, 0, [], .null), (66, .getfield 18, 69, 4, 2, [200], .null), (69, .iload_n 2, 70, 0, 0, [], .null), (70, .iaload, 71, 0, 0, [], .null), (71, .iload 5, 73, 0, 0, [], .null), (73, .iload 6, 75, 0, 0, [], .null), (75, .invokestatic 102, 78, 56, 2, [504, 505, 71], .null), (78, .iadd, 79, 0, 0, [], .null), (79, .ireturn, 80, 0, 0, [], .null)]
def oX4_greatestWay : List (Nat × MOp) := [(0, .aload_n 0, 1, 0, 0, [], .null), (1, .aload_n 1, 2, 0, 0, [], .null), (2, .invokevirtual 86, 5, 54, 1, [492, 494, 22, 66], .null), (5, .iconst 1, 6, 0, 0, [], .null), (6, .istore_n 2, 7, 0, 0, [], .null), (7, .iconst 0, 8, 0, 0, [], .null), (8, .istore_n 3, 9, 0, 0, [], .null), (9, .iload_n 3, 10, 0, 0, [], .null), (10, .aload_n 1, 11, 0, 0, [], .null), (11, .getfield 58, 14, 2, 0, [142], .null), (14, .if_icmp .ge 75, 17, 89, 0, [], .null), (17, .iload_n 2, 18, 0, 0, [], .null), (18, .ifCond .eq 71, 21, 89, 0, [], .null), (21, .iconst 0, 22, 0, 0, [], .null), (22, .istore_n 2, 23, 0, 0, [], .null), (23, .aload_n 1, 24, 0, 0, [], .null), (24, .getfield 58, 27, 2, 0, [142], .null), (27, .iconst 1, 28, 0, 0, [], .null), (28, .isub, 29, 0, 0, [], .null), (29, .istore 4, 31, 0, 0, [], .null), (31, .iload 4, 33, 0, 0, [], .null), (33, .ifCond .lt 50, 36, 83, 0, [], .null), (36, .aload_n 0, 37, 0, 0, [], .null), (37, .getfield 37, 40, 4, 8, [209], .null), (40, .iload 4, 42, 0, 0, [], .null), (42, .iaload, 43, 0, 0, [], .null), (43, .iconst (-1), 44, 0, 0, [], .null), (44, .if_icmp .ne 13, 47, 57, 0, [], .null), (47, .aload_n 0, 48, 0, 0, [], .null), (48, .aload_n 1, 49, 0, 0, [], .null), (49, .iload 4, 51, 0, 0, [], .null), (51, .invokevirtual 89, 54, 57, 2, [496, 498, 23, 66], .null), (54, .goto 4, 57, 58, 0, [], .null), (57, .iconst (-1), 58, 0, 0, [], .null), (58, .istore 5, 60, 0, 0, [], .null), (60, .iload 5, 62, 0, 0, [], .null), (62, .iconst (-1), 63, 0, 0, [], .null), (63, .if_icmp .eq 14, 66, 77, 0, [], .null), (66, .aload_n 0, 67, 0, 0, [], .null), (67, .getfield 37, 70, 4, 8, [209], .null), (70, .iload 4, 72, 0, 0, [], .null), (72, .iload 5, 74, 0, 0, [], .null), (74, .iastore, 75, 0, 0, [], .null), (75, .iconst 1, 76, 0, 0, [], .null), (76, .istore_n 2, 77, 0, 0, [], .null), (77, .iinc 4 (-1), 80, 0, 0, [], .null), (80, .goto (-49), 83, 31, 0, [], .null), (83, .iinc 3 1, 86, 0, 0, [], .null), (86, .goto (-77), 89, 9, 0, [], .null), (89, .aload_n 1, 90, 0, 0, [], .null), (90, .iconst 0, 91, 0, 0, [], .null), (91, .invokevirtual 75, 94, 32, 1, [478, 439, 440, 65], .null), (94, .ifCond .eq 12, 97, 106, 0, [], .null), (97, .aload_n 0, 98, 0, 0, [], .null), (98, .getfield 37, 101, 4, 8, [209], .null), (101, .iconst 0, 102, 0, 0, [], .null), (102, .iaload, 103, 0, 0, [], .null), (103, .goto 4, 106, 107, 0, [], .null), (106, .iconst 0, 107, 0, 0, [], .null), (107, .ireturn, 108, 0, 0, [], .null)]
def oX4_leastFrom : List (Nat × MOp) := [(0, .aload_n 1, 1, 0, 0, [], .null), (1, .iload_n 2, 2, 0, 0, [], .null), (2, .invokevirtual 111, 5, 35, 1, [515, 451, 452, 65], .null), (5, .ifCond .eq 10, 8, 15, 0, [], .null), (8, .aload_n 0, 9, 0, 0, [], .null), (9, .getfield 18, 12, 4, 2, [200], .null), (12, .iload_n 2, 13, 0, 0, [], .null), (13, .iaload, 14, 0, 0, [], .null), (14, .ireturn, 15, 0, 0, [], .null), (15, .aload_n 0, 16, 0, 0, [], .null), (16, .aload_n 1, 17, 0, 0, [], .null), (17, .aload_n 1, 18, 0, 0, [], .null), (18, .getfield 93, 21, 2, 4, [152], .null), (21, .iload_n 2, 22, 0, 0, [], .null), (22, .iaload, 23, 0, 0, [], .null), (23, .invokevirtual 99, 26, 55, 2, [500, 502, 24, 66], .null), (26, .istore_n 3, 27, 0, 0, [], .null), (27, .aload_n 0, 28, 0, 0, [], .null), (28, .aload_n 1, 29, 0, 0, [], .null), (29, .aload_n 1, 30, 0, 0, [], .null), (30, .getfield 96, 33, 2, 5, [154], .null), (33, .iload_n 2, 34, 0, 0, [], .null), (34, .iaload, 35, 0, 0, [], .null), (35, .invokevirtual 99, 38, 55, 2, [500, 502, 24, 66], .null), (38, .istore 4, 40, 0, 0, [], .null), (40, .iload_n 3, 41, 0, 0, [], .null), (41, .iconst (-1), 42, 0, 0, [], .null), (42, .if_icmp .ne 11, 45, 53, 0, [], .null), (45, .iload 4, 47, 0, 0, [], .null), (47, .iconst (-1), 48, 0, 0, [], .null), (48, .if_icmp .ne 5, 51, 53, 0, [], .null), (51, .iconst (-1), 52, 0, 0, [], .null), (52, .ireturn, 53, 0, 0, [], .null), (53, .iload_n 3, 54, 0, 0, [], .null), (54, .iconst (-1), 55, 0, 0, [], .null), (55, .if_icmp .eq 9, 58, 64, 0, [], .null), (58, .iload 4, 60, 0, 0, [], .null), (60, .iconst (-1), 61, 0, 0, [], .null), (61, .if_icmp .ne 17, 64, 78, 0, [], .null), (64, .aload_n 0, 65, 0, 0, [], .null), (65, .getfield 18, 68, 4, 2, [200], .null), (68, .iload_n 2, 69, 0, 0, [], .null), (69, .iaload, 70, 0, 0, [], .null), (70, .iload_n 3, 71, 0, 0, [], .null), (71, .iload 4, 73, 0, 0, [], .null), (73, .invokestatic 102, 76, 56, 2, [504, 505, 71], .null), (76, .iadd, 77, 0, 0, [], .null), (77, .ireturn, 78, 0, 0, [], .null), (78, .aload_n 0, 79, 0, 0, [], .null), (79, .getfield 18, 82, 4, 2, [200], .null), (82, .iload_n 2, 83, 0, 0, [], .null), (83, .iaload, 84, 0, 0, [], .null), (84, .iload_n 3, 85, 0, 0, [], .null), (85, .iload 4, 87, 0, 0, [], .null), (87, .invokestatic 114, 90, 38, 2, [516, 459, 71], .null), (90, .iadd, 91, 0, 0, [], .null), (91, .ireturn, 92, 0, 0, [], .null)]
def oX4_leastWay : List (Nat × MOp) := [(0, .aload_n 0, 1, 0, 0, [], .null), (1, .aload_n 1, 2, 0, 0, [], .null), (2, .invokevirtual 86, 5, 54, 1, [492, 494, 22, 66], .null), (5, .iconst 1, 6, 0, 0, [], .null), (6, .istore_n 2, 7, 0, 0, [], .null), (7, .iconst 0, 8, 0, 0, [], .null), (8, .istore_n 3, 9, 0, 0, [], .null), (9, .iload_n 3, 10, 0, 0, [], .null), (10, .aload_n 1, 11, 0, 0, [], .null), (11, .getfield 58, 14, 2, 0, [142], .null), (14, .if_icmp .ge 66, 17, 80, 0, [], .null), (17, .iload_n 2, 18, 0, 0, [], .null), (18, .ifCond .eq 62, 21, 80, 0, [], .null), (21, .iconst 0, 22, 0, 0, [], .null), (22, .istore_n 2, 23, 0, 0, [], .null), (23, .aload_n 1, 24, 0, 0, [], .null), (24, .getfield 58, 27, 2, 0, [142], .null), (27, .iconst 1, 28, 0, 0, [], .null), (28, .isub, 29, 0, 0, [], .null), (29, .istore 4, 31, 0, 0, [], .null), (31, .iload 4, 33, 0, 0, [], .null), (33, .ifCond .lt 41, 36, 74, 0, [], .null), (36, .aload_n 0, 37, 0, 0, [], .null), (37, .aload_n 1, 38, 0, 0, [], .null), (38, .iload 4, 40, 0, 0, [], .null), (40, .invokevirtual 108, 43, 59, 2, [511, 513, 26, 66], .null), (43, .istore 5, 45, 0, 0, [], .null), (45, .iload 5, 47, 0, 0, [], .null), (47, .aload_n 0, 48, 0, 0, [], .null), (48, .getfield 37, 51, 4, 8, [209], .null), (51, .iload 4, 53, 0, 0, [], .null), (53, .iaload, 54, 0, 0, [], .null), (54, .if_icmp .eq 14, 57, 68, 0, [], .null), (57, .aload_n 0, 58, 0, 0, [], .null), (58, .getfield 37, 61, 4, 8, [209], .null), (61, .iload 4, 63, 0, 0, [], .null), (63, .iload 5, 65, 0, 0, [], .null), (65, .iastore, 66, 0, 0, [], .null), (66, .iconst 1, 67, 0, 0, [], .null), (67, .istore_n 2, 68, 0, 0, [], .null), (68, .iinc 4 (-1), 71, 0, 0, [], .null), (71, .goto (-40), 74, 31, 0, [], .null), (74, .iinc 3 1, 77, 0, 0, [], .null), (77, .goto (-68), 80, 9, 0, [], .null), (80, .aload_n 1, 81, 0, 0, [], .null), (81, .iconst 0, 82, 0, 0, [], .null), (82, .invokevirtual 75, 85, 32, 1, [478, 439, 440, 65], .null), (85, .ifCond .eq 12, 88, 97, 0, [], .null), (88, .aload_n 0, 89, 0, 0, [], .null), (89, .getfield 37, 92, 4, 8, [209], .null), (92, .iconst 0, 93, 0, 0, [], .null), (93, .iaload, 94, 0, 0, [], .null), (94, .goto 4, 97, 98, 0, [], .null), (97, .iconst 0, 98, 0, 0, [], .null), (98, .ireturn, 99, 0, 0, [], .null)]
def oX4_update : List (Nat × MOp) := [(0, .aload_n 0, 1, 0, 0, [], .null), (1, .aload_n 1, 2, 0, 0, [], .null), (2, .aload_n 2, 3, 0, 0, [], .null), (3, .invokevirtual 40, 6, 51, 2, [469, 471, 18, 66], .null), (6, .aload_n 0, 7, 0, 0, [], .null), (7, .aload_n 2, 8, 0, 0, [], .null), (8, .invokevirtual 44, 11, 52, 1, [479, 481, 19, 66], .null), (11, .aload_n 0, 12, 0, 0, [], .null), (12, .aload_n 1, 13, 0, 0, [], .null), (13, .aload_n 2, 14, 0, 0, [], .null), (14, .invokevirtual 48, 17, 53, 2, [483, 485, 20, 66], .null), (17, .aload_n 0, 18, 0, 0, [], .null), (18, .aload_n 0, 19, 0, 0, [], .null), (19, .aload_n 2, 20, 0, 0, [], .null), (20, .invokevirtual 51, 23, 58, 1, [488, 490, 21, 66], .null), (23, .putfield 9, 26, 4, 0, [196], .null), (26, .aload_n 0, 27, 0, 0, [], .null), (27, .aload_n 0, 28, 0, 0, [], .null), (28, .aload_n 2, 29, 0, 0, [], .null), (29, .invokevirtual 55, 32, 60, 1, [507, 509, 25, 66], .null), (32, .putfield 15, 35, 4, 1, [198], .null), (35, .return_, 36, 0, 0, [], .null)]
def oX6_init : List (Nat × MOp) := [(0, .aload_n 0, 1, 0, 0, [], .null), (1, .invokespecial 3, 4, 0, 0, [86, 79], .int 2), (4, .aload_n 0, 5, 0, 0, [], .null), (5, .iconst 0, 6, 0, 0, [], .null), (6, .putfield 9, 9, 6, 0, [87], .null), (9, .aload_n 0, 10, 0, 0, [], .null), (10, .sipush 150, 13, 0, 0, [], .null), (13, .newarray .int, 15, 0, 0, [101], .null), (15, .putfield 15, 18, 6, 1, [89], .null), (18, .aload_n 0, 19, 0, 0, [], .null), (19, .iconst 0, 20, 0, 0, [], .null), (20, .putfield 19, 23, 6, 2, [90], .null), (23, .aload_n 0, 24, 0, 0, [], .null), (24, .iconst (-1), 25, 0, 0, [], .null), (25, .putfield 22, 28, 6, 3, [91], .null), (28, .return_, 29, 0, 0, [], .null)]
def oX6_add : List (Nat × MOp) := [(0, .aload_n 0, 1, 0, 0, [], .null), (1, .getfield 9, 4, 6, 0, [87], .null), (4, .ifCond .lt 15, 7, 19, 0, [], .null), (7, .aload_n 0, 8, 0, 0, [], .null), (8, .getfield 9, 11, 6, 0, [87], .null), (11, .aload_n 0, 12, 0, 0, [], .null), (12, .getfield 15, 15, 6, 1, [89], .null), (15, .arraylength, 16, 0, 0, [], .null), (16, .if_icmp .lt 5, 19, 21, 0, [], .null), (19, .iconst 0, 20, 0, 0, [], .null), (20, .ireturn, 21, 0, 0, [], .null), (21, .aload_n 0, 22, 0, 0, [], .null), (22, .getfield 15, 25, 6, 1, [89], .null), (25, .aload_n 0, 26, 0, 0, [], .null), (26, .getfield 9, 29, 6, 0, [87], .null), (29, .iload_n 1, 30, 0, 0, [], .null), (30, .iastore, 31, 0, 0, [], .null), (31, .aload_n 0, 32, 0, 0, [], .null), (32, .dup, 33, 0, 0, [], .null), (33, .getfield 9, 36, 6, 0, [87], .null), (36, .iconst 1, 37, 0, 0, [], .null), (37, .iadd, 38, 0, 0, [], .null), (38, .putfield 9, 41, 6, 0, [87], .null), (41, .iconst 1, 42, 0, 0, [], .null), (42, .ireturn, 43, 0, 0, [], .null)]
def oX7_init : List (Nat × MOp) := [(0, .aload_n 0, 1, 0, 0, [], .null), (1, .invokespecial 1, 4, 0, 0, [78, 79], .int 2), (4, .aload_n 0, 5, 0, 0, [], .null), (5, .new 7, 8, 6, 0, [81, 82, 63], .null), (8, .dup, 9, 0, 0, [], .null), (9, .invokespecial 9, 12, 62, 0, [84, 63], .int 1), (12, .putfield 10, 15, 7, 0, [279], .null), (15, .aload_n 0, 16, 0, 0, [], .null), (16, .new 16, 19, 5, 0, [102, 103, 64], .null), (19, .dup, 20, 0, 0, [], .null), (20, .invokespecial 18, 23, 42, 0, [104, 105, 64], .null), (23, .putfield 19, 26, 7, 1, [280], .null), (26, .aload_n 0, 27, 0, 0, [], .null), (27, .new 16, 30, 5, 0, [102, 103, 64], .null), (30, .dup, 31, 0, 0, [], .null), (31, .invokespecial 18, 34, 42, 0, [104, 105, 64], .null), (34, .putfield 23, 37, 7, 2, [281], .null), (37, .aload_n 0, 38, 0, 0, [], .null), (38, .new 26, 41, 2, 0, [135, 136, 65], .null), (41, .dup, 42, 0, 0, [], .null), (42, .invokespecial 28, 45, 23, 0, [138, 65], .int 1), (45, .putfield 29, 48, 7, 3, [282], .null), (48, .aload_n 0, 49, 0, 0, [], .null), (49, .new 33, 52, 4, 0, [190, 191, 66], .null), (52, .dup, 53, 0, 0, [], .null), (53, .invokespecial 35, 56, 49, 0, [193, 66], .int 1), (56, .putfield 36, 59, 7, 4, [283], .null), (59, .aload_n 0, 60, 0, 0, [], .null), (60, .new 40, 63, 3, 0, [229, 230, 67], .null), (63, .dup, 64, 0, 0, [], .null), (64, .invokespecial 42, 67, 43, 0, [231, 232, 67], .null), (67, .putfield 43, 70, 7, 5, [284], .null), (70, .aload_n 0, 71, 0, 0, [], .null), (71, .new 47, 74, 1, 0, [249, 250, 68], .null), (74, .dup, 75, 0, 0, [], .null), (75, .invokespecial 49, 78, 13, 0, [252, 68], .int 1), (78, .putfield 50, 81, 7, 6, [285], .null), (81, .aload_n 0, 82, 0, 0, [], .null), (82, .new 47, 85, 1, 0, [249, 250, 68], .null), (85, .dup, 86, 0, 0, [], .null), (86, .invokespecial 49, 89, 13, 0, [252, 68], .int 1), (89, .putfield 54, 92, 7, 7, [286], .null), (92, .aload_n 0, 93, 0, 0, [], .null), (93, .iconst 3, 94, 0, 0, [], .null), (94, .newarray .int, 96, 0, 0, [101], .null), (96, .putfield 57, 99, 7, 8, [287], .null), (99, .return_, 100, 0, 0, [], .null)]
def oX7_isErrorCode : List (Nat × MOp) := [(0, .iload_n 0, 1, 0, 0, [], .null), (1, .bipush (-4), 3, 0, 0, [], .null), (3, .if_icmp .lt 13, 6, 16, 0, [], .null), (6, .iload_n 0, 7, 0, 0, [], .null), (7, .bipush (-2), 9, 0, 0, [], .null), (9, .if_icmp .gt 7, 12, 16, 0, [], .null), (12, .iconst 1, 13, 0, 0, [], .null), (13, .goto 4, 16, 17, 0, [], .null), (16, .iconst 0, 17, 0, 0, [], .null), (17, .ireturn, 18, 0, 0, [], .null)]
def oX7_refuse : List (Nat × MOp) := [(0, .iload_n 1, 1, 0, 0, [], .null), (1, .invokestatic 161, 4, 65, 1, [315, 316, 62], .null), (4, .ifCond .eq 16, 7, 20, 0, [], .null), (7, .aload_n 0, 8, 0, 0, [], .null), (8, .getfield 57, 11, 7, 8, [287], .null), (11, .bipush (-2), 13, 0, 0, [], .null), (13, .iload_n 1, 14, 0, 0, [], .null), (14, .isub, 15, 0, 0, [], .null), (15, .dup2, 16, 0, 0, [], .null), (16, .iaload, 17, 0, 0, [], .null), (17, .iconst 1, 18, 0, 0, [], .null), (18, .iadd, 19, 0, 0, [], .null), (19, .iastore, 20, 0, 0, [], .null), (20, .iload_n 1, 21, 0, 0, [], .null), (21, .ireturn, 22, 0, 0, [], .null)]
def oX7_append : List (Nat × MOp) := [(0, .iload_n 1, 1, 0, 0, [], .null), (1, .ifCond .lt 9, 4, 10, 0, [], .null), (4, .iload_n 1, 5, 0, 0, [], .null), (5, .bipush 127, 7, 0, 0, [], .null), (7, .if_icmp .le 10, 10, 17, 0, [], .null), (10, .aload_n 0, 11, 0, 0, [], .null), (11, .bipush (-2), 13, 0, 0, [], .null), (13, .invokevirtual 61, 16, 66, 1, [311, 313, 0, 62], .null), (16, .ireturn, 17, 0, 0, [], .null), (17, .aload_n 0, 18, 0, 0, [], .null), (18, .getfield 10, 21, 7, 0, [279], .null), (21, .iload_n 1, 22, 0, 0, [], .null), (22, .invokevirtual 65, 25, 63, 1, [318, 319, 320, 63], .null), (25, .ifCond .ne 10, 28, 35, 0, [], .null), (28, .aload_n 0, 29, 0, 0, [], .null), (29, .bipush (-3), 31, 0, 0, [], .null), (31, .invokevirtual 61, 34, 66, 1, [311, 313, 0, 62], .null), (34, .ireturn, 35, 0, 0, [], .null), (35, .aload_n 0, 36, 0, 0, [], .null), (36, .getfield 10, 39, 7, 0, [279], .null), (39, .getfield 69, 42, 6, 0, [88], .null), (42, .ireturn, 43, 0, 0, [], .null)]
def oX7_clearText : List (Nat × MOp) := [(0, .aload_n 0, 1, 0, 0, [], .null), (1, .getfield 10, 4, 7, 0, [279], .null), (4, .getfield 69, 7, 6, 0, [88], .null), (7, .istore_n 1, 8, 0, 0, [], .null), (8, .aload_n 0, 9, 0, 0, [], .null), (9, .getfield 10, 12, 7, 0, [279], .null), (12, .iconst 0, 13, 0, 0, [], .null), (13, .putfield 69, 16, 6, 0, [88], .null), (16, .iload_n 1, 17, 0, 0, [], .null), (17, .ireturn, 18, 0, 0, [], .null)]
def oX7_analyse : List (Nat × MOp) := [(0, .aload_n 0, 1, 0, 0, [], .null), (1, .getfield 29, 4, 7, 3, [282], .null), (4, .aload_n 0, 5, 0, 0, [], .null), (5, .getfield 19, 8, 7, 1, [280], .null), (8, .invokevirtual 182, 11, 41, 1, [395, 396, 397, 65], .null), (11, .aload_n 0, 12, 0, 0, [], .null), (12, .getfield 36, 15, 7, 4, [283], .null), (15, .aload_n 0, 16, 0, 0, [], .null), (16, .getfield 19, 19, 7, 1, [280], .null), (19, .aload_n 0, 20, 0, 0, [], .null), (20, .getfield 29, 23, 7, 3, [282], .null), (23, .invokevirtual 93, 26, 61, 2, [465, 466, 467, 66], .null), (26, .return_, 27, 0, 0, [], .null)]
def oX7_assemble : List (Nat × MOp) := [(0, .aload_n 0, 1, 0, 0, [], .null), (1, .getfield 10, 4, 7, 0, [279], .null), (4, .aload_n 0, 5, 0, 0, [], .null), (5, .getfield 23, 8, 7, 2, [281], .null), (8, .invokevirtual 73, 11, 12, 1, [330, 331, 332, 63], .null), (11, .istore_n 1, 12, 0, 0, [], .null), (12, .iload_n 1, 13, 0, 0, [], .null), (13, .iconst (-1), 14, 0, 0, [], .null), (14, .if_icmp .eq 8, 17, 22, 0, [], .null), (17, .bipush (-10), 19, 0, 0, [], .null), (19, .iload_n 1, 20, 0, 0, [], .null), (20, .isub, 21, 0, 0, [], .null), (21, .ireturn, 22, 0, 0, [], .null), (22, .aload_n 0, 23, 0, 0, [], .null), (23, .getfield 43, 26, 7, 5, [284], .null), (26, .aload_n 0, 27, 0, 0, [], .null), (27, .getfield 19, 30, 7, 1, [280], .null), (30, .invokevirtual 77, 33, 47, 1, [371, 372, 373, 67], .null), (33, .aload_n 0, 34, 0, 0, [], .null), (34, .getfield 19, 37, 7, 1, [280], .null), (37, .aload_n 0, 38, 0, 0, [], .null), (38, .getfield 23, 41, 7, 2, [281], .null), (41, .invokevirtual 81, 44, 45, 1, [390, 384, 385, 64], .null), (44, .aload_n 0, 45, 0, 0, [], .null), (45, .invokevirtual 84, 48, 69, 0, [391, 393, 8, 62], .null), (48, .aload_n 0, 49, 0, 0, [], .null), (49, .getfield 19, 52, 7, 1, [280], .null), (52, .getfield 87, 55, 5, 0, [111], .null), (55, .ireturn, 56, 0, 0, [], .null)]
def oX7_setCost : List (Nat × MOp) := [(0, .iload_n 1, 1, 0, 0, [], .null), (1, .ifCond .lt 20, 4, 21, 0, [], .null), (4, .iload_n 1, 5, 0, 0, [], .null), (5, .bipush 8, 7, 0, 0, [], .null), (7, .if_icmp .ge 14, 10, 21, 0, [], .null), (10, .iload_n 2, 11, 0, 0, [], .null), (11, .iconst 1, 12, 0, 0, [], .null), (12, .if_icmp .lt 9, 15, 21, 0, [], .null), (15, .iload_n 2, 16, 0, 0, [], .null), (16, .bipush 9, 18, 0, 0, [], .null), (18, .if_icmp .le 10, 21, 28, 0, [], .null), (21, .aload_n 0, 22, 0, 0, [], .null), (22, .bipush (-2), 24, 0, 0, [], .null), (24, .invokevirtual 61, 27, 66, 1, [311, 313, 0, 62], .null), (27, .ireturn, 28, 0, 0, [], .null), (28, .aload_n 0, 29, 0, 0, [], .null), (29, .getfield 43, 32, 7, 5, [284], .null), (32, .aload_n 0, 33, 0, 0, [], .null), (33, .getfield 19, 36, 7, 1, [280], .null), (36, .invokevirtual 77, 39, 47, 1, [371, 372, 373, 67], .null), (39, .aload_n 0, 40, 0, 0, [], .null), (40, .getfield 19, 43, 7, 1, [280], .null), (43, .getfield 90, 46, 5, 4, [123], .null), (46, .iload_n 1, 47, 0, 0, [], .null), (47, .iaload, 48, 0, 0, [], .null), (48, .istore_n 3, 49, 0, 0, [], .null), (49, .aload_n 0, 50, 0, 0, [], .null), (50, .getfield 19, 53, 7, 1, [280], .null), (53, .getfield 90, 56, 5, 4, [123], .null), (56, .iload_n 1, 57, 0, 0, [], .null), (57, .iload_n 2, 58, 0, 0, [], .null), (58, .iastore, 59, 0, 0, [], .null), (59, .aload_n 0, 60, 0, 0, [], .null), (60, .getfield 36, 63, 7, 4, [283], .null), (63, .aload_n 0, 64, 0, 0, [], .null), (64, .getfield 19, 67, 7, 1, [280], .null), (67, .aload_n 0, 68, 0, 0, [], .null), (68, .getfield 29, 71, 7, 3, [282], .null), (71, .invokevirtual 93, 74, 61, 2, [465, 466, 467, 66], .null), (74, .iload_n 3, 75, 0, 0, [], .null), (75, .ireturn, 76, 0, 0, [], .null)]
def oX7_opcode : List (Nat × MOp) := [(0, .aload_n 0, 1, 0, 0, [], .null), (1, .getfield 19, 4, 7, 1, [280], .null), (4, .iload_n 1, 5, 0, 0, [], .null), (5, .invokevirtual 97, 8, 16, 1, [525, 420, 421, 64], .null), (8, .ifCond .eq 15, 11, 23, 0, [], .null), (11, .aload_n 0, 12, 0, 0, [], .null), (12, .getfield 19, 15, 7, 1, [280], .null), (15, .getfield 100, 18, 5, 1, [114], .null), (18, .iload_n 1, 19, 0, 0, [], .null), (19, .iaload, 20, 0, 0, [], .null), (20, .goto 9, 23, 29, 0, [], .null), (23, .aload_n 0, 24, 0, 0, [], .null), (24, .bipush (-2), 26, 0, 0, [], .null), (26, .invokevirtual 61, 29, 66, 1, [311, 313, 0, 62], .null), (29, .ireturn, 30, 0, 0, [], .null)]
def oX7_blocks : List (Nat × MOp) := [(0, .aload_n 0, 1, 0, 0, [], .null), (1, .getfield 29, 4, 7, 3, [282], .null), (4, .getfield 103, 7, 2, 0, [143], .null), (7, .ireturn, 8, 0, 0, [], .null)]
def oX7_blockOf : List (Nat × MOp) := [(0, .aload_n 0, 1, 0, 0, [], .null), (1, .getfield 19, 4, 7, 1, [280], .null), (4, .iload_n 1, 5, 0, 0, [], .null), (5, .invokevirtual 97, 8, 16, 1, [525, 420, 421, 64], .null), (8, .ifCond .eq 15, 11, 23, 0, [], .null), (11, .aload_n 0, 12, 0, 0, [], .null), (12, .getfield 29, 15, 7, 3, [282], .null), (15, .getfield 106, 18, 2, 2, [148], .null), (18, .iload_n 1, 19, 0, 0, [], .null), (19, .iaload, 20, 0, 0, [], .null), (20, .goto 9, 23, 29, 0, [], .null), (23, .aload_n 0, 24, 0, 0, [], .null), (24, .bipush (-2), 26, 0, 0, [], .null), (26, .invokevirtual 61, 29, 66, 1, [311, 313, 0, 62], .null), (29, .ireturn, 30, 0, 0, [], .null)]
def oX7_successors : List (Nat × MOp) := [(0, .aload_n 0, 1, 0, 0, [], .null), (1, .getfield 29, 4, 7, 3, [282], .null), (4, .iload_n 1, 5, 0, 0, [], .null), (5, .invokevirtual 109, 8, 32, 1, [538, 439, 440, 65], .null), (8, .ifCond .eq 15, 11, 23, 0, [], .null), (11, .aload_n 0, 12, 0, 0, [], .null), (12, .getfield 29, 15, 7, 3, [282], .null), (15, .getfield 110, 18, 2, 6, [156], .null), (18, .iload_n 1, 19, 0, 0, [], .null), (19, .iaload, 20, 0, 0, [], .null), (20, .goto 9, 23, 29, 0, [], .null), (23, .aload_n 0, 24, 0, 0, [], .null), (24, .bipush (-2), 26, 0, 0, [], .null), (26, .invokevirtual 61, 29, 66, 1, [311, 313, 0, 62], .null), (29, .ireturn, 30, 0, 0, [], .null)]
def oX7_blockCost : List (Nat × MOp) := [(0, .aload_n 0, 1, 0, 0, [], .null), (1, .getfield 29, 4, 7, 3, [282], .null), (4, .iload_n 1, 5, 0, 0, [], .null), (5, .invokevirtual 109, 8, 32, 1, [538, 439, 440, 65], .null), (8, .ifCond .eq 15, 11, 23, 0, [], .null), (11, .aload_n 0, 12, 0, 0, [], .null), (12, .getfield 36, 15, 7, 4, [283], .null), (15, .getfield 113, 18, 4, 2, [201], .null), (18, .iload_n 1, 19, 0, 0, [], .null), (19, .iaload, 20, 0, 0, [], .null), (20, .goto 9, 23, 29, 0, [], .null), (23, .aload_n 0, 24, 0, 0, [], .null), (24, .bipush (-2), 26, 0, 0, [], .null), (26, .invokevirtual 61, 29, 66, 1, [311, 313, 0, 62], .null), (29, .ireturn, 30, 0, 0, [], .null)]
def oX7_chainHead : List (Nat × MOp) := [(0, .aload_n 0, 1, 0, 0, [], .null), (1, .getfield 29, 4, 7, 3, [282], .null), (4, .iload_n 1, 5, 0, 0, [], .null), (5, .invokevirtual 109, 8, 32, 1, [538, 439, 440, 65], .null), (8, .ifCond .eq 15, 11, 23, 0, [], .null), (11, .aload_n 0, 12, 0, 0, [], .null), (12, .getfield 29, 15, 7, 3, [282], .null), (15, .getfield 116, 18, 2, 7, [159], .null), (18, .iload_n 1, 19, 0, 0, [], .null), (19, .iaload, 20, 0, 0, [], .null), (20, .goto 9, 23, 29, 0, [], .null), (23, .aload_n 0, 24, 0, 0, [], .null), (24, .bipush (-2), 26, 0, 0, [], .null), (26, .invokevirtual 61, 29, 66, 1, [311, 313, 0, 62], .null), (29, .ireturn, 30, 0, 0, [], .null)]
def oX7_chainCost : List (Nat × MOp) := [(0, .aload_n 0, 1, 0, 0, [], .null), (1, .getfield 29, 4, 7, 3, [282], .null), (4, .iload_n 1, 5, 0, 0, [], .null), (5, .invokevirtual 109, 8, 32, 1, [538, 439, 440, 65], .null), (8, .ifCond .eq 15, 11, 23, 0, [], .null), (11, .aload_n 0, 12, 0, 0, [], .null), (12, .getfield 36, 15, 7, 4, [283], .null), (15, .getfield 119, 18, 4, 3, [203], .null), (18, .iload_n 1, 19, 0, 0, [], .null), (19, .iaload, 20, 0, 0, [], .null), (20, .goto 9, 23, 29, 0, [], .null), (23, .aload_n 0, 24, 0, 0, [], .null), (24, .bipush (-2), 26, 0, 0, [], .null), (26, .invokevirtual 61, 29, 66, 1, [311, 313, 0, 62], .null), (29, .ireturn, 30, 0, 0, [], .null)]
def oX7_reachableBlocks : List (Nat × MOp) := [(0, .aload_n 0, 1, 0, 0, [], .null), (1, .getfield 29, 4, 7, 3, [282], .null), (4, .getfield 122, 7, 2, 1, [145], .null), (7, .ireturn, 8, 0, 0, [], .null)]
def oX7_greatestCost : List (Nat × MOp) := [(0, .aload_n 0, 1, 0, 0, [], .null), (1, .getfield 36, 4, 7, 4, [283], .null), (4, .getfield 125, 7, 4, 0, [197], .null), (7, .ireturn, 8, 0, 0, [], .null)]
def oX7_leastCost : List (Nat × MOp) := [(0, .aload_n 0, 1, 0, 0, [], .null), (1, .getfield 36, 4, 7, 4, [283], .null), (4, .getfield 128, 7, 4, 1, [199], .null), (7, .ireturn, 8, 0, 0, [], .null)]
def oX7_run : List (Nat × MOp) := [(0, .iload_n 1, 1, 0, 0, [], .null), (1, .ifCond .lt 19, 4, 20, 0, [], .null), (4, .iload_n 1, 5, 0, 0, [], .null), (5, .iconst 2, 6, 0, 0, [], .null), (6, .if_icmp .gt 14, 9, 20, 0, [], .null), (9, .iload_n 2, 10, 0, 0, [], .null), (10, .ifCond .lt 10, 13, 20, 0, [], .null), (13, .iload_n 2, 14, 0, 0, [], .null), (14, .sipush 30000, 17, 0, 0, [], .null), (17, .if_icmp .le 10, 20, 27, 0, [], .null), (20, .aload_n 0, 21, 0, 0, [], .null), (21, .bipush (-2), 23, 0, 0, [], .null), (23, .invokevirtual 61, 26, 66, 1, [311, 313, 0, 62], .null), (26, .ireturn, 27, 0, 0, [], .null), (27, .aload_n 0, 28, 0, 0, [], .null), (28, .getfield 50, 31, 7, 6, [285], .null), (31, .aload_n 0, 32, 0, 0, [], .null), (32, .getfield 19, 35, 7, 1, [280], .null), (35, .aload_n 0, 36, 0, 0, [], .null), (36, .getfield 36, 39, 7, 4, [283], .null), (39, .iload_n 1, 40, 0, 0, [], .null), (40, .iload_n 2, 41, 0, 0, [], .null), (41, .invokevirtual 131, 44, 22, 4, [567, 568, 569, 68], .null), (44, .aload_n 0, 45, 0, 0, [], .null), (45, .getfield 50, 48, 7, 6, [285], .null), (48, .getfield 135, 51, 1, 0, [256], .null), (51, .ireturn, 52, 0, 0, [], .null)]
def oX7_steps : List (Nat × MOp) := [(0, .aload_n 0, 1, 0, 0, [], .null), (1, .getfield 50, 4, 7, 6, [285], .null), (4, .getfield 138, 7, 1, 1, [258], .null), (7, .ireturn, 8, 0, 0, [], .null)]
def oX7_remaining : List (Nat × MOp) := [(0, .aload_n 0, 1, 0, 0, [], .null), (1, .getfield 50, 4, 7, 6, [285], .null), (4, .getfield 141, 7, 1, 2, [260], .null), (7, .ireturn, 8, 0, 0, [], .null)]
def oX7_charges : List (Nat × MOp) := [(0, .aload_n 0, 1, 0, 0, [], .null), (1, .getfield 50, 4, 7, 6, [285], .null), (4, .getfield 144, 7, 1, 3, [262], .null), (7, .ireturn, 8, 0, 0, [], .null)]
def oX7_register : List (Nat × MOp) := [(0, .aload_n 0, 1, 0, 0, [], .null), (1, .getfield 50, 4, 7, 6, [285], .null), (4, .iload_n 1, 5, 0, 0, [], .null), (5, .invokevirtual 147, 8, 19, 1, [616, 593, 594, 68], .null), (8, .ireturn, 9, 0, 0, [], .null)]
def oX7_stoppedAt : List (Nat × MOp) := [(0, .aload_n 0, 1, 0, 0, [], .null), (1, .getfield 50, 4, 7, 6, [285], .null), (4, .getfield 150, 7, 1, 4, [264], .null), (7, .ireturn, 8, 0, 0, [], .null)]
def oX7_floatBits : List (Nat × MOp) := [(0, .fload_n 0, 1, 0, 0, [], .null), (1, .fstore_n 1, 2, 0, 0, [], .null), (2, .bipush 127, 4, 0, 0, [], .null), (4, .istore_n 2, 5, 0, 0, [], .null), (5, .iload_n 2, 6, 0, 0, [], .null), (6, .ifCond .le 19, 9, 25, 0, [], .null), (9, .fload_n 1, 10, 0, 0, [], .null), (10, .fconst 1, 11, 0, 0, [], .null), (11, .fcmp .g, 12, 0, 0, [], .null), (12, .ifCond .ge 13, 15, 25, 0, [], .null), (15, .fload_n 1, 16, 0, 0, [], .null), (16, .fconst 2, 17, 0, 0, [], .null), (17, .fmul, 18, 0, 0, [], .null), (18, .fstore_n 1, 19, 0, 0, [], .null), (19, .iinc 2 (-1), 22, 0, 0, [], .null), (22, .goto (-17), 25, 5, 0, [], .null), (25, .fload_n 1, 26, 0, 0, [], .null), (26, .fconst 1, 27, 0, 0, [], .null), (27, .fsub, 28, 0, 0, [], .null), (28, .ldc 184, 30, 0, 0, [628], .float 1258291200), (30, .fmul, 31, 0, 0, [], .null), (31, .f2i, 32, 0, 0, [], .null), (32, .istore_n 3, 33, 0, 0, [], .null), (33, .iload_n 2, 34, 0, 0, [], .null), (34, .bipush 23, 36, 0, 0, [], .null), (36, .ishl, 37, 0, 0, [], .null), (37, .iload_n 3, 38, 0, 0, [], .null), (38, .iadd, 39, 0, 0, [], .null), (39, .ireturn, 40, 0, 0, [], .null)]
def oX7_chargeRateBits : List (Nat × MOp) := [(0, .aload_n 0, 1, 0, 0, [], .null), (1, .getfield 50, 4, 7, 6, [285], .null), (4, .getfield 138, 7, 1, 1, [258], .null), (7, .ifCond .ne 5, 10, 12, 0, [], .null), (10, .iconst 0, 11, 0, 0, [], .null), (11, .ireturn, 12, 0, 0, [], .null), (12, .aload_n 0, 13, 0, 0, [], .null), (13, .getfield 50, 16, 7, 6, [285], .null), (16, .getfield 144, 19, 1, 3, [262], .null), (19, .i2f, 20, 0, 0, [], .null), (20, .aload_n 0, 21, 0, 0, [], .null), (21, .getfield 50, 24, 7, 6, [285], .null), (24, .getfield 138, 27, 1, 1, [258], .null), (27, .i2f, 28, 0, 0, [], .null), (28, .fdiv, 29, 0, 0, [], .null), (29, .invokestatic 153, 32, 88, 1, [625, 626, 62], .null), (32, .ireturn, 33, 0, 0, [], .null)]
def oX7_neededBudget : List (Nat × MOp) := [(0, .aload_n 0, 1, 0, 0, [], .null), (1, .getfield 54, 4, 7, 7, [286], .null), (4, .aload_n 0, 5, 0, 0, [], .null), (5, .getfield 19, 8, 7, 1, [280], .null), (8, .aload_n 0, 9, 0, 0, [], .null), (9, .getfield 36, 12, 7, 4, [283], .null), (12, .iconst 0, 13, 0, 0, [], .null), (13, .sipush 30000, 16, 0, 0, [], .null), (16, .invokevirtual 131, 19, 22, 4, [567, 568, 569, 68], .null), (19, .aload_n 0, 20, 0, 0, [], .null), (20, .getfield 54, 23, 7, 7, [286], .null), (23, .getfield 135, 26, 1, 0, [256], .null), (26, .ifCond .ne 17, 29, 43, 0, [], .null), (29, .sipush 30000, 32, 0, 0, [], .null), (32, .aload_n 0, 33, 0, 0, [], .null), (33, .getfield 54, 36, 7, 7, [286], .null), (36, .getfield 141, 39, 1, 2, [260], .null), (39, .isub, 40, 0, 0, [], .null), (40, .goto 4, 43, 44, 0, [], .null), (43, .iconst (-1), 44, 0, 0, [], .null), (44, .ireturn, 45, 0, 0, [], .null)]
def oX7_undo : List (Nat × MOp) := [(0, .aload_n 0, 1, 0, 0, [], .null), (1, .getfield 43, 4, 7, 5, [284], .null), (4, .getfield 157, 7, 3, 0, [239], .null), (7, .ifCond .ne 10, 10, 17, 0, [], .null), (10, .aload_n 0, 11, 0, 0, [], .null), (11, .bipush (-4), 13, 0, 0, [], .null), (13, .invokevirtual 61, 16, 66, 1, [311, 313, 0, 62], .null), (16, .ireturn, 17, 0, 0, [], .null), (17, .aload_n 0, 18, 0, 0, [], .null), (18, .getfield 43, 21, 7, 5, [284], .null), (21, .aload_n 0, 22, 0, 0, [], .null), (22, .getfield 19, 25, 7, 1, [280], .null), (25, .invokevirtual 158, 28, 48, 1, [637, 638, 639, 67], .null), (28, .aload_n 0, 29, 0, 0, [], .null), (29, .invokevirtual 84, 32, 69, 0, [391, 393, 8, 62], .null), (32, .aload_n 0, 33, 0, 0, [], .null), (33, .getfield 43, 36, 7, 5, [284], .null), (36, .getfield 157, 39, 3, 0, [239], .null), (39, .ireturn, 40, 0, 0, [], .null)]
def oX7_errorCount : List (Nat × MOp) := [(0, .iload_n 1, 1, 0, 0, [], .null), (1, .invokestatic 161, 4, 65, 1, [315, 316, 62], .null), (4, .ifCond .eq 15, 7, 19, 0, [], .null), (7, .aload_n 0, 8, 0, 0, [], .null), (8, .getfield 57, 11, 7, 8, [287], .null), (11, .bipush (-2), 13, 0, 0, [], .null), (13, .iload_n 1, 14, 0, 0, [], .null), (14, .isub, 15, 0, 0, [], .null), (15, .iaload, 16, 0, 0, [], .null), (16, .goto 9, 19, 25, 0, [], .null), (19, .aload_n 0, 20, 0, 0, [], .null), (20, .bipush (-2), 22, 0, 0, [], .null), (22, .invokevirtual 61, 25, 66, 1, [311, 313, 0, 62], .null), (25, .ireturn, 26, 0, 0, [], .null)]
def oX7_mix : List (Nat × MOp) := [(0, .ldc2_w 180, 3, 0, 0, [653], .long 31), (3, .lload_n 0, 4, 0, 0, [], .null), (4, .lmul, 5, 0, 0, [], .null), (5, .iload_n 2, 6, 0, 0, [], .null), (6, .i2l, 7, 0, 0, [], .null), (7, .ladd, 8, 0, 0, [], .null), (8, .lreturn, 9, 0, 0, [], .null)]
def oX7_mixSetup : List (Nat × MOp) := [(0, .lload_n 1, 1, 0, 0, [], .null), (1, .lstore_n 3, 2, 0, 0, [], .null), (2, .iconst 0, 3, 0, 0, [], .null), (3, .istore 5, 5, 0, 0, [], .null), (5, .iload 5, 7, 0, 0, [], .null), (7, .bipush 8, 9, 0, 0, [], .null), (9, .if_icmp .ge 24, 12, 33, 0, [], .null), (12, .lload_n 3, 13, 0, 0, [], .null), (13, .aload_n 0, 14, 0, 0, [], .null), (14, .getfield 19, 17, 7, 1, [280], .null), (17, .getfield 90, 20, 5, 4, [123], .null), (20, .iload 5, 22, 0, 0, [], .null), (22, .iaload, 23, 0, 0, [], .null), (23, .invokestatic 166, 26, 93, 2, [650, 651, 62], .null), (26, .lstore_n 3, 27, 0, 0, [], .null), (27, .iinc 5 1, 30, 0, 0, [], .null), (30, .goto (-25), 33, 5, 0, [], .null), (33, .lload_n 3, 34, 0, 0, [], .null), (34, .aload_n 0, 35, 0, 0, [], .null), (35, .getfield 19, 38, 7, 1, [280], .null), (38, .getfield 87, 41, 5, 0, [111], .null), (41, .invokestatic 166, 44, 93, 2, [650, 651, 62], .null), (44, .lstore_n 3, 45, 0, 0, [], .null), (45, .iconst 0, 46, 0, 0, [], .null), (46, .istore 5, 48, 0, 0, [], .null), (48, .iload 5, 50, 0, 0, [], .null), (50, .aload_n 0, 51, 0, 0, [], .null), (51, .getfield 19, 54, 7, 1, [280], .null), (54, .getfield 87, 57, 5, 0, [111], .null), (57, .if_icmp .ge 24, 60, 81, 0, [], .null), (60, .lload_n 3, 61, 0, 0, [], .null), (61, .aload_n 0, 62, 0, 0, [], .null), (62, .getfield 19, 65, 7, 1, [280], .null), (65, .getfield 100, 68, 5, 1, [114], .null), (68, .iload 5, 70, 0, 0, [], .null), (70, .iaload, 71, 0, 0, [], .null), (71, .invokestatic 166, 74, 93, 2, [650, 651, 62], .null), (74, .lstore_n 3, 75, 0, 0, [], .null), (75, .iinc 5 1, 78, 0, 0, [], .null), (78, .goto (-30), 81, 48, 0, [], .null), (81, .lload_n 3, 82, 0, 0, [], .null), (82, .lreturn, 83, 0, 0, [], .null)]
def oX7_mixFlow : List (Nat × MOp) := [(0, .lload_n 1, 1, 0, 0, [], .null), (1, .aload_n 0, 2, 0, 0, [], .null), (2, .getfield 29, 5, 7, 3, [282], .null), (5, .getfield 103, 8, 2, 0, [143], .null), (8, .invokestatic 166, 11, 93, 2, [650, 651, 62], .null), (11, .lstore_n 3, 12, 0, 0, [], .null), (12, .iconst 0, 13, 0, 0, [], .null), (13, .istore 5, 15, 0, 0, [], .null), (15, .iload 5, 17, 0, 0, [], .null), (17, .aload_n 0, 18, 0, 0, [], .null), (18, .getfield 29, 21, 7, 3, [282], .null), (21, .getfield 103, 24, 2, 0, [143], .null), (24, .if_icmp .ge 69, 27, 93, 0, [], .null), (27, .lload_n 3, 28, 0, 0, [], .null), (28, .aload_n 0, 29, 0, 0, [], .null), (29, .getfield 29, 32, 7, 3, [282], .null), (32, .getfield 110, 35, 2, 6, [156], .null), (35, .iload 5, 37, 0, 0, [], .null), (37, .iaload, 38, 0, 0, [], .null), (38, .invokestatic 166, 41, 93, 2, [650, 651, 62], .null), (41, .lstore_n 3, 42, 0, 0, [], .null), (42, .lload_n 3, 43, 0, 0, [], .null), (43, .aload_n 0, 44, 0, 0, [], .null), (44, .getfield 36, 47, 7, 4, [283], .null), (47, .getfield 113, 50, 4, 2, [201], .null), (50, .iload 5, 52, 0, 0, [], .null), (52, .iaload, 53, 0, 0, [], .null), (53, .invokestatic 166, 56, 93, 2, [650, 651, 62], .null), (56, .lstore_n 3, 57, 0, 0, [], .null), (57, .lload_n 3, 58, 0, 0, [], .null), (58, .aload_n 0, 59, 0, 0, [], .null), (59, .getfield 29, 62, 7, 3, [282], .null), (62, .getfield 116, 65, 2, 7, [159], .null), (65, .iload 5, 67, 0, 0, [], .null), (67, .iaload, 68, 0, 0, [], .null), (68, .invokestatic 166, 71, 93, 2, [650, 651, 62], .null), (71, .lstore_n 3, 72, 0, 0, [], .null), (72, .lload_n 3, 73, 0, 0, [], .null), (73, .aload_n 0, 74, 0, 0, [], .null), (74, .getfield 36, 77, 7, 4, [283], .null), (77, .getfield 119, 80, 4, 3, [203], .null), (80, .iload 5, 82, 0, 0, [], .null), (82, .iaload, 83, 0, 0, [], .null), (83, .invokestatic 166, 86, 93, 2, [650, 651, 62], .null), (86, .lstore_n 3, 87, 0, 0, [], .null), (87, .iinc 5 1, 90, 0, 0, [], .null), (90, .goto (-75), 93, 15, 0, [], .null), (93, .lload_n 3, 94, 0, 0, [], .null), (94, .aload_n 0, 95, 0, 0, [], .null), (95, .getfield 29, 98, 7, 3, [282], .null), (98, .getfield 122, 101, 2, 1, [145], .null), (101, .invokestatic 166, 104, 93, 2, [650, 651, 62], .null), (104, .lstore_n 3, 105, 0, 0, [], .null), (105, .lload_n 3, 106, 0, 0, [], .null), (106, .aload_n 0, 107, 0, 0, [], .null), (107, .getfield 36, 110, 7, 4, [283], .null), (110, .getfield 125, 113, 4, 0, [197], .null), (113, .invokestatic 166, 116, 93, 2, [650, 651, 62], .null), (116, .lstore_n 3, 117, 0, 0, [], .null), (117, .lload_n 3, 118, 0, 0, [], .null), (118, .aload_n 0, 119, 0, 0, [], .null), (119, .getfield 36, 122, 7, 4, [283], .null), (122, .getfield 128, 125, 4, 1, [199], .null), (125, .invokestatic 166, 128, 93, 2, [650, 651, 62], .null), (128, .lreturn, 129, 0, 0, [], .null)]
def oX7_mixLatest : List (Nat × MOp) := [(0, .lload_n 1, 1, 0, 0, [], .null), (1, .aload_n 0, 2, 0, 0, [], .null), (2, .getfield 50, 5, 7, 6, [285], .null), (5, .getfield 135, 8, 1, 0, [256], .null), (8, .invokestatic 166, 11, 93, 2, [650, 651, 62], .null), (11, .lstore_n 3, 12, 0, 0, [], .null), (12, .lload_n 3, 13, 0, 0, [], .null), (13, .aload_n 0, 14, 0, 0, [], .null), (14, .getfield 50, 17, 7, 6, [285], .null), (17, .getfield 138, 20, 1, 1, [258], .null), (20, .invokestatic 166, 23, 93, 2, [650, 651, 62], .null), (23, .lstore_n 3, 24, 0, 0, [], .null), (24, .lload_n 3, 25, 0, 0, [], .null), (25, .aload_n 0, 26, 0, 0, [], .null), (26, .getfield 50, 29, 7, 6, [285], .null), (29, .getfield 141, 32, 1, 2, [260], .null), (32, .invokestatic 166, 35, 93, 2, [650, 651, 62], .null), (35, .lstore_n 3, 36, 0, 0, [], .null), (36, .lload_n 3, 37, 0, 0, [], .null), (37, .aload_n 0, 38, 0, 0, [], .null), (38, .getfield 50, 41, 7, 6, [285], .null), (41, .getfield 144, 44, 1, 3, [262], .null), (44, .invokestatic 166, 47, 93, 2, [650, 651, 62], .null), (47, .lstore_n 3, 48, 0, 0, [], .null), (48, .iconst 0, 49, 0, 0, [], .null), (49, .istore 5, 51, 0, 0, [], .null), (51, .iload 5, 53, 0, 0, [], .null), (53, .iconst 4, 54, 0, 0, [], .null), (54, .if_icmp .ge 23, 57, 77, 0, [], .null), (57, .lload_n 3, 58, 0, 0, [], .null), (58, .aload_n 0, 59, 0, 0, [], .null), (59, .getfield 50, 62, 7, 6, [285], .null), (62, .iload 5, 64, 0, 0, [], .null), (64, .invokevirtual 147, 67, 19, 1, [616, 593, 594, 68], .null), (67, .invokestatic 166, 70, 93, 2, [650, 651, 62], .null), (70, .lstore_n 3, 71, 0, 0, [], .null), (71, .iinc 5 1, 74, 0, 0, [], .null), (74, .goto (-23), 77, 51, 0, [], .null), (77, .lload_n 3, 78, 0, 0, [], .null), (78, .aload_n 0, 79, 0, 0, [], .null), (79, .getfield 50, 82, 7, 6, [285], .null), (82, .getfield 150, 85, 1, 4, [264], .null), (85, .invokestatic 166, 88, 93, 2, [650, 651, 62], .null), (88, .lreturn, 89, 0, 0, [], .null)]
def oX7_digest : List (Nat × MOp) := [(0, .ldc2_w 164, 3, 0, 0, [649], .long 2663), (3, .lstore_n 1, 4, 0, 0, [], .null), (4, .iconst 0, 5, 0, 0, [], .null), (5, .istore_n 3, 6, 0, 0, [], .null), (6, .iload_n 3, 7, 0, 0, [], .null), (7, .aload_n 0, 8, 0, 0, [], .null), (8, .getfield 57, 11, 7, 8, [287], .null), (11, .arraylength, 12, 0, 0, [], .null), (12, .if_icmp .ge 20, 15, 32, 0, [], .null), (15, .lload_n 1, 16, 0, 0, [], .null), (16, .aload_n 0, 17, 0, 0, [], .null), (17, .getfield 57, 20, 7, 8, [287], .null), (20, .iload_n 3, 21, 0, 0, [], .null), (21, .iaload, 22, 0, 0, [], .null), (22, .invokestatic 166, 25, 93, 2, [650, 651, 62], .null), (25, .lstore_n 1, 26, 0, 0, [], .null), (26, .iinc 3 1, 29, 0, 0, [], .null), (29, .goto (-23), 32, 6, 0, [], .null), (32, .lload_n 1, 33, 0, 0, [], .null), (33, .aload_n 0, 34, 0, 0, [], .null), (34, .getfield 10, 37, 7, 0, [279], .null), (37, .getfield 69, 40, 6, 0, [88], .null), (40, .invokestatic 166, 43, 93, 2, [650, 651, 62], .null), (43, .lstore_n 1, 44, 0, 0, [], .null), (44, .aload_n 0, 45, 0, 0, [], .null), (45, .lload_n 1, 46, 0, 0, [], .null), (46, .invokevirtual 170, 49, 94, 1, [654, 656, 32, 62], .null), (49, .lstore_n 1, 50, 0, 0, [], .null), (50, .aload_n 0, 51, 0, 0, [], .null), (51, .lload_n 1, 52, 0, 0, [], .null), (52, .invokevirtual 174, 55, 95, 1, [658, 660, 33, 62], .null), (55, .lstore_n 1, 56, 0, 0, [], .null), (56, .aload_n 0, 57, 0, 0, [], .null), (57, .lload_n 1, 58, 0, 0, [], .null), (58, .invokevirtual 177, 61, 96, 1, [662, 664, 34, 62], .null), (61, .lstore_n 1, 62, 0, 0, [], .null), (62, .lload_n 1, 63, 0, 0, [], .null), (63, .aload_n 0, 64, 0, 0, [], .null), (64, .getfield 43, 67, 7, 5, [284], .null), (67, .getfield 157, 70, 3, 0, [239], .null), (70, .invokestatic 166, 73, 93, 2, [650, 651, 62], .null), (73, .lreturn, 74, 0, 0, [], .null)]
def oX8_init : List (Nat × MOp) := [(0, .aload_n 0, 1, 0, 0, [], .null), (1, .invokespecial 1, 4, 0, 0, [671, 79], .int 2), (4, .aload_n 0, 5, 0, 0, [], .null), (5, .bipush 81, 7, 0, 0, [], .null), (7, .newarray .int, 9, 0, 0, [101], .null), (9, .putfield 7, 12, 8, 0, [672], .null), (12, .aload_n 0, 13, 0, 0, [], .null), (13, .bipush 81, 15, 0, 0, [], .null), (15, .newarray .int, 17, 0, 0, [101], .null), (17, .putfield 13, 20, 8, 1, [673], .null), (20, .aload_n 0, 21, 0, 0, [], .null), (21, .sipush 405, 24, 0, 0, [], .null), (24, .newarray .int, 26, 0, 0, [101], .null), (26, .putfield 16, 29, 8, 2, [674], .null), (29, .aload_n 0, 30, 0, 0, [], .null), (30, .iconst 3, 31, 0, 0, [], .null), (31, .newarray .int, 33, 0, 0, [101], .null), (33, .putfield 19, 36, 8, 4, [676], .null), (36, .aload_n 0, 37, 0, 0, [], .null), (37, .sipush 150, 40, 0, 0, [], .null), (40, .newarray .int, 42, 0, 0, [101], .null), (42, .putfield 22, 45, 8, 5, [677], .null), (45, .aload_n 0, 46, 0, 0, [], .null), (46, .bipush 24, 48, 0, 0, [], .null), (48, .newarray .int, 50, 0, 0, [101], .null), (50, .putfield 25, 53, 8, 10, [682], .null), (53, .aload_n 0, 54, 0, 0, [], .null), (54, .bipush 24, 56, 0, 0, [], .null), (56, .newarray .int, 58, 0, 0, [101], .null), (58, .putfield 28, 61, 8, 11, [683], .null), (61, .aload_n 0, 62, 0, 0, [], .null), (62, .bipush 24, 64, 0, 0, [], .null), (64, .newarray .int, 66, 0, 0, [101], .null), (66, .putfield 31, 69, 8, 12, [684], .null), (69, .aload_n 0, 70, 0, 0, [], .null), (70, .bipush 24, 72, 0, 0, [], .null), (72, .newarray .boolean, 74, 1, 0, [189], .null), (74, .putfield 34, 77, 8, 13, [685], .null), (77, .aload_n 0, 78, 0, 0, [], .null), (78, .bipush 24, 80, 0, 0, [], .null), (80, .newarray .int, 82, 0, 0, [101], .null), (82, .putfield 38, 85, 8, 14, [686], .null), (85, .aload_n 0, 86, 0, 0, [], .null), (86, .bipush 24, 88, 0, 0, [], .null), (88, .newarray .int, 90, 0, 0, [101], .null), (90, .putfield 41, 93, 8, 15, [687], .null), (93, .aload_n 0, 94, 0, 0, [], .null), (94, .bipush 24, 96, 0, 0, [], .null), (96, .newarray .int, 98, 0, 0, [101], .null), (98, .putfield 44, 101, 8, 16, [688], .null), (101, .aload_n 0, 102, 0, 0, [], .null), (102, .bipush 24, 104, 0, 0, [], .null), (104, .newarray .int, 106, 0, 0, [101], .null), (106, .putfield 47, 109, 8, 17, [689], .null), (109, .aload_n 0, 110, 0, 0, [], .null), (110, .iconst 4, 111, 0, 0, [], .null), (111, .newarray .int, 113, 0, 0, [101], .null), (113, .putfield 50, 116, 8, 23, [695], .null), (116, .aload_n 0, 117, 0, 0, [], .null), (117, .iconst 4, 118, 0, 0, [], .null), (118, .newarray .int, 120, 0, 0, [101], .null), (120, .putfield 53, 123, 8, 24, [696], .null), (123, .iconst 0, 124, 0, 0, [], .null), (124, .istore_n 1, 125, 0, 0, [], .null), (125, .iload_n 1, 126, 0, 0, [], .null), (126, .bipush 8, 128, 0, 0, [], .null), (128, .if_icmp .ge 19, 131, 147, 0, [], .null), (131, .aload_n 0, 132, 0, 0, [], .null), (132, .getfield 7, 135, 8, 0, [672], .null), (135, .bipush 73, 137, 0, 0, [], .null), (137, .iload_n 1, 138, 0, 0, [], .null), (138, .iadd, 139, 0, 0, [], .null), (139, .iconst 1, 140, 0, 0, [], .null), (140, .iastore, 141, 0, 0, [], .null), (141, .iinc 1 1, 144, 0, 0, [], .null), (144, .goto (-19), 147, 125, 0, [], .null), (147, .aload_n 0, 148, 0, 0, [], .null), (148, .iconst (-1), 149, 0, 0, [], .null), (149, .putfield 56, 152, 8, 22, [694], .null), (152, .return_, 153, 0, 0, [], .null)]
def oX8_within : List (Nat × MOp) := [(0, .iload_n 0, 1, 0, 0, [], .null), (1, .iload_n 1, 2, 0, 0, [], .null), (2, .if_icmp .lt 12, 5, 14, 0, [], .null), (5, .iload_n 0, 6, 0, 0, [], .null), (6, .iload_n 2, 7, 0, 0, [], .null), (7, .if_icmp .gt 7, 10, 14, 0, [], .null), (10, .iconst 1, 11, 0, 0, [], .null), (11, .goto 4, 14, 15, 0, [], .null), (14, .iconst 0, 15, 0, 0, [], .null), (15, .ireturn, 16, 0, 0, [], .null)]
def oX8_counts : List (Nat × MOp) := [(0, .aload_n 0, 1, 0, 0, [], .null), (1, .getfield 19, 4, 8, 4, [676], .null), (4, .bipush (-2), 6, 0, 0, [], .null), (6, .iload_n 1, 7, 0, 0, [], .null), (7, .isub, 8, 0, 0, [], .null), (8, .dup2, 9, 0, 0, [], .null), (9, .iaload, 10, 0, 0, [], .null), (10, .iconst 1, 11, 0, 0, [], .null), (11, .iadd, 12, 0, 0, [], .null), (12, .iastore, 13, 0, 0, [], .null), (13, .iload_n 1, 14, 0, 0, [], .null), (14, .ireturn, 15, 0, 0, [], .null)]
def oX8_isInstruction : List (Nat × MOp) := [(0, .iload_n 1, 1, 0, 0, [], .null), (1, .iconst 0, 2, 0, 0, [], .null), (2, .aload_n 0, 3, 0, 0, [], .null), (3, .getfield 7, 6, 8, 0, [672], .null), (6, .iconst 0, 7, 0, 0, [], .null), (7, .iaload, 8, 0, 0, [], .null), (8, .iconst 1, 9, 0, 0, [], .null), (9, .isub, 10, 0, 0, [], .null), (10, .invokestatic 60, 13, 99, 3, [778, 779, 69], .null), (13, .ireturn, 14, 0, 0, [], .null)]
def oX8_saves : List (Nat × MOp) := [(0, .aload_n 0, 1, 0, 0, [], .null), (1, .getfield 64, 4, 8, 3, [675], .null), (4, .iconst 5, 5, 0, 0, [], .null), (5, .if_icmp .ne 43, 8, 48, 0, [], .null), (8, .iconst 0, 9, 0, 0, [], .null), (9, .istore_n 1, 10, 0, 0, [], .null), (10, .iload_n 1, 11, 0, 0, [], .null), (11, .sipush 324, 14, 0, 0, [], .null), (14, .if_icmp .ge 24, 17, 38, 0, [], .null), (17, .aload_n 0, 18, 0, 0, [], .null), (18, .getfield 16, 21, 8, 2, [674], .null), (21, .iload_n 1, 22, 0, 0, [], .null), (22, .aload_n 0, 23, 0, 0, [], .null), (23, .getfield 16, 26, 8, 2, [674], .null), (26, .iload_n 1, 27, 0, 0, [], .null), (27, .bipush 81, 29, 0, 0, [], .null), (29, .iadd, 30, 0, 0, [], .null), (30, .iaload, 31, 0, 0, [], .null), (31, .iastore, 32, 0, 0, [], .null), (32, .iinc 1 1, 35, 0, 0, [], .null), (35, .goto (-25), 38, 10, 0, [], .null), (38, .aload_n 0, 39, 0, 0, [], .null), (39, .dup, 40, 0, 0, [], .null), (40, .getfield 64, 43, 8, 3, [675], .null), (43, .iconst 1, 44, 0, 0, [], .null), (44, .isub, 45, 0, 0, [], .null), (45, .putfield 64, 48, 8, 3, [675], .null), (48, .iconst 0, 49, 0, 0, [], .null), (49, .istore_n 1, 50, 0, 0, [], .null), (50, .iload_n 1, 51, 0, 0, [], .null), (51, .bipush 81, 53, 0, 0, [], .null), (53, .if_icmp .ge 29, 56, 82, 0, [], .null), (56, .aload_n 0, 57, 0, 0, [], .null), (57, .getfield 16, 60, 8, 2, [674], .null), (60, .bipush 81, 62, 0, 0, [], .null), (62, .aload_n 0, 63, 0, 0, [], .null), (63, .getfield 64, 66, 8, 3, [675], .null), (66, .imul, 67, 0, 0, [], .null), (67, .iload_n 1, 68, 0, 0, [], .null), (68, .iadd, 69, 0, 0, [], .null), (69, .aload_n 0, 70, 0, 0, [], .null), (70, .getfield 7, 73, 8, 0, [672], .null), (73, .iload_n 1, 74, 0, 0, [], .null), (74, .iaload, 75, 0, 0, [], .null), (75, .iastore, 76, 0, 0, [], .null), (76, .iinc 1 1, 79, 0, 0, [], .null), (79, .goto (-29), 82, 50, 0, [], .null), (82, .aload_n 0, 83, 0, 0, [], .null), (83, .dup, 84, 0, 0, [], .null), (84, .getfield 64, 87, 8, 3, [675], .null), (87, .iconst 1, 88, 0, 0, [], .null), (88, .iadd, 89, 0, 0, [], .null), (89, .putfield 64, 92, 8, 3, [675], .null), (92, .return_, 93, 0, 0, [], .null)]
def oX8_undo : List (Nat × MOp) := [(0, .aload_n 0, 1, 0, 0, [], .null), (1, .getfield 64, 4, 8, 3, [675], .null), (4, .ifCond .ne 10, 7, 14, 0, [], .null), (7, .aload_n 0, 8, 0, 0, [], .null), (8, .bipush (-4), 10, 0, 0, [], .null), (10, .invokevirtual 67, 13, 100, 1, [770, 772, 35, 69], .null), (13, .ireturn, 14, 0, 0, [], .null), (14, .aload_n 0, 15, 0, 0, [], .null), (15, .dup, 16, 0, 0, [], .null), (16, .getfield 64, 19, 8, 3, [675], .null), (19, .iconst 1, 20, 0, 0, [], .null), (20, .isub, 21, 0, 0, [], .null), (21, .putfield 64, 24, 8, 3, [675], .null), (24, .iconst 0, 25, 0, 0, [], .null), (25, .istore_n 1, 26, 0, 0, [], .null), (26, .iload_n 1, 27, 0, 0, [], .null), (27, .bipush 81, 29, 0, 0, [], .null), (29, .if_icmp .ge 29, 32, 58, 0, [], .null), (32, .aload_n 0, 33, 0, 0, [], .null), (33, .getfield 7, 36, 8, 0, [672], .null), (36, .iload_n 1, 37, 0, 0, [], .null), (37, .aload_n 0, 38, 0, 0, [], .null), (38, .getfield 16, 41, 8, 2, [674], .null), (41, .bipush 81, 43, 0, 0, [], .null), (43, .aload_n 0, 44, 0, 0, [], .null), (44, .getfield 64, 47, 8, 3, [675], .null), (47, .imul, 48, 0, 0, [], .null), (48, .iload_n 1, 49, 0, 0, [], .null), (49, .iadd, 50, 0, 0, [], .null), (50, .iaload, 51, 0, 0, [], .null), (51, .iastore, 52, 0, 0, [], .null), (52, .iinc 1 1, 55, 0, 0, [], .null), (55, .goto (-29), 58, 26, 0, [], .null), (58, .aload_n 0, 59, 0, 0, [], .null), (59, .getfield 64, 62, 8, 3, [675], .null), (62, .ireturn, 63, 0, 0, [], .null)]
def oX8_append : List (Nat × MOp) := [(0, .iload_n 1, 1, 0, 0, [], .null), (1, .iconst 0, 2, 0, 0, [], .null), (2, .bipush 127, 4, 0, 0, [], .null), (4, .invokestatic 60, 7, 99, 3, [778, 779, 69], .null), (7, .ifCond .ne 10, 10, 17, 0, [], .null), (10, .aload_n 0, 11, 0, 0, [], .null), (11, .bipush (-2), 13, 0, 0, [], .null), (13, .invokevirtual 67, 16, 100, 1, [770, 772, 35, 69], .null), (16, .ireturn, 17, 0, 0, [], .null), (17, .aload_n 0, 18, 0, 0, [], .null), (18, .getfield 71, 21, 8, 6, [678], .null), (21, .sipush 150, 24, 0, 0, [], .null), (24, .if_icmp .ne 10, 27, 34, 0, [], .null), (27, .aload_n 0, 28, 0, 0, [], .null), (28, .bipush (-3), 30, 0, 0, [], .null), (30, .invokevirtual 67, 33, 100, 1, [770, 772, 35, 69], .null), (33, .ireturn, 34, 0, 0, [], .null), (34, .aload_n 0, 35, 0, 0, [], .null), (35, .getfield 22, 38, 8, 5, [677], .null), (38, .aload_n 0, 39, 0, 0, [], .null), (39, .getfield 71, 42, 8, 6, [678], .null), (42, .iload_n 1, 43, 0, 0, [], .null), (43, .iastore, 44, 0, 0, [], .null), (44, .aload_n 0, 45, 0, 0, [], .null), (45, .dup, 46, 0, 0, [], .null), (46, .getfield 71, 49, 8, 6, [678], .null), (49, .iconst 1, 50, 0, 0, [], .null), (50, .iadd, 51, 0, 0, [], .null), (51, .putfield 71, 54, 8, 6, [678], .null), (54, .aload_n 0, 55, 0, 0, [], .null), (55, .getfield 71, 58, 8, 6, [678], .null), (58, .ireturn, 59, 0, 0, [], .null)]
def oX8_clearText : List (Nat × MOp) := [(0, .aload_n 0, 1, 0, 0, [], .null), (1, .getfield 71, 4, 8, 6, [678], .null), (4, .istore_n 1, 5, 0, 0, [], .null), (5, .aload_n 0, 6, 0, 0, [], .null), (6, .iconst 0, 7, 0, 0, [], .null), (7, .putfield 71, 10, 8, 6, [678], .null), (10, .iload_n 1, 11, 0, 0, [], .null), (11, .ireturn, 12, 0, 0, [], .null)]
def oX8_here : List (Nat × MOp) := [(0, .aload_n 0, 1, 0, 0, [], .null), (1, .getfield 74, 4, 8, 7, [679], .null), (4, .aload_n 0, 5, 0, 0, [], .null), (5, .getfield 71, 8, 8, 6, [678], .null), (8, .if_icmp .ge 15, 11, 23, 0, [], .null), (11, .aload_n 0, 12, 0, 0, [], .null), (12, .getfield 22, 15, 8, 5, [677], .null), (15, .aload_n 0, 16, 0, 0, [], .null), (16, .getfield 74, 19, 8, 7, [679], .null), (19, .iaload, 20, 0, 0, [], .null), (20, .goto 4, 23, 24, 0, [], .null), (23, .iconst (-1), 24, 0, 0, [], .null), (24, .ireturn, 25, 0, 0, [], .null)]
def oX8_skips : List (Nat × MOp) := [(0, .aload_n 0, 1, 0, 0, [], .null), (1, .invokevirtual 77, 4, 106, 0, [793, 795, 37, 69], .null), (4, .bipush 32, 6, 0, 0, [], .null), (6, .if_icmp .ne 16, 9, 22, 0, [], .null), (9, .aload_n 0, 10, 0, 0, [], .null), (10, .dup, 11, 0, 0, [], .null), (11, .getfield 74, 14, 8, 7, [679], .null), (14, .iconst 1, 15, 0, 0, [], .null), (15, .iadd, 16, 0, 0, [], .null), (16, .putfield 74, 19, 8, 7, [679], .null), (19, .goto (-19), 22, 0, 0, [], .null), (22, .return_, 23, 0, 0, [], .null)]
def oX8_opcodeOf : List (Nat × MOp) := [(0, .iload_n 0, 1, 0, 0, [], .null), (1, .tableswitch 137 97 122 #[119, 137, 123, 125, 137, 137, 137, 134, 137, 127, 137, 137, 137, 131, 137, 137, 137, 137, 121, 137, 137, 137, 137, 137, 137, 129], 120, 0, 0, [], .null), (120, .iconst 0, 121, 0, 0, [], .null), (121, .ireturn, 122, 0, 0, [], .null), (122, .iconst 1, 123, 0, 0, [], .null), (123, .ireturn, 124, 0, 0, [], .null), (124, .iconst 2, 125, 0, 0, [], .null), (125, .ireturn, 126, 0, 0, [], .null), (126, .iconst 3, 127, 0, 0, [], .null), (127, .ireturn, 128, 0, 0, [], .null), (128, .iconst 4, 129, 0, 0, [], .null), (129, .ireturn, 130, 0, 0, [], .null), (130, .iconst 5, 131, 0, 0, [], .null), (131, .ireturn, 132, 0, 0, [], .null), (132, .bipush 6, 134, 0, 0, [], .null), (134, .ireturn, 135, 0, 0, [], .null), (135, .bipush 7, 137, 0, 0, [], .null), (137, .ireturn, 138, 0, 0, [], .null), (138, .iconst (-1), 139, 0, 0, [], .null), (139, .ireturn, 140, 0, 0, [], .null)]
def oX8_passes : List (Nat × MOp) := [(0, .aload_n 0, 1, 0, 0, [], .null), (1, .invokevirtual 81, 4, 107, 0, [789, 791, 36, 69], .null), (4, .iload_n 2, 5, 0, 0, [], .null), (5, .ifCond .eq 16, 8, 21, 0, [], .null), (8, .aload_n 0, 9, 0, 0, [], .null), (9, .invokevirtual 77, 12, 106, 0, [793, 795, 37, 69], .null), (12, .bipush 45, 14, 0, 0, [], .null), (14, .if_icmp .ne 7, 17, 21, 0, [], .null), (17, .iconst 1, 18, 0, 0, [], .null), (18, .goto 4, 21, 22, 0, [], .null), (21, .iconst 0, 22, 0, 0, [], .null), (22, .istore_n 3, 23, 0, 0, [], .null), (23, .aload_n 0, 24, 0, 0, [], .null), (24, .dup, 25, 0, 0, [], .null), (25, .getfield 74, 28, 8, 7, [679], .null), (28, .iload_n 3, 29, 0, 0, [], .null), (29, .ifCond .eq 7, 32, 36, 0, [], .null), (32, .iconst 1, 33, 0, 0, [], .null), (33, .goto 4, 36, 37, 0, [], .null), (36, .iconst 0, 37, 0, 0, [], .null), (37, .iadd, 38, 0, 0, [], .null), (38, .putfield 74, 41, 8, 7, [679], .null), (41, .aload_n 0, 42, 0, 0, [], .null), (42, .getfield 74, 45, 8, 7, [679], .null), (45, .istore 4, 47, 0, 0, [], .null), (47, .iconst 0, 48, 0, 0, [], .null), (48, .istore 5, 50, 0, 0, [], .null), (50, .aload_n 0, 51, 0, 0, [], .null), (51, .invokevirtual 77, 54, 106, 0, [793, 795, 37, 69], .null), (54, .bipush 48, 56, 0, 0, [], .null), (56, .bipush 57, 58, 0, 0, [], .null), (58, .invokestatic 60, 61, 99, 3, [778, 779, 69], .null), (61, .ifCond .eq 42, 64, 103, 0, [], .null), (64, .aload_n 0, 65, 0, 0, [], .null), (65, .getfield 74, 68, 8, 7, [679], .null), (68, .iload 4, 70, 0, 0, [], .null), (70, .iconst 2, 71, 0, 0, [], .null), (71, .iadd, 72, 0, 0, [], .null), (72, .if_icmp .ge 31, 75, 103, 0, [], .null), (75, .bipush 10, 77, 0, 0, [], .null), (77, .iload 5, 79, 0, 0, [], .null), (79, .imul, 80, 0, 0, [], .null), (80, .aload_n 0, 81, 0, 0, [], .null), (81, .invokevirtual 77, 84, 106, 0, [793, 795, 37, 69], .null), (84, .iadd, 85, 0, 0, [], .null), (85, .bipush 48, 87, 0, 0, [], .null), (87, .isub, 88, 0, 0, [], .null), (88, .istore 5, 90, 0, 0, [], .null), (90, .aload_n 0, 91, 0, 0, [], .null), (91, .dup, 92, 0, 0, [], .null), (92, .getfield 74, 95, 8, 7, [679], .null), (95, .iconst 1, 96, 0, 0, [], .null), (96, .iadd, 97, 0, 0, [], .null), (97, .putfield 74, 100, 8, 7, [679], .null), (100, .goto (-50), 103, 50, 0, [], .null), (103, .aload_n 0, 104, 0, 0, [], .null), (104, .getfield 74, 107, 8, 7, [679], .null), (107, .iload 4, 109, 0, 0, [], .null), (109, .if_icmp .eq 17, 112, 126, 0, [], .null), (112, .aload_n 0, 113, 0, 0, [], .null), (113, .invokevirtual 77, 116, 106, 0, [793, 795, 37, 69], .null), (116, .bipush 48, 118, 0, 0, [], .null), (118, .bipush 57, 120, 0, 0, [], .null), (120, .invokestatic 60, 123, 99, 3, [778, 779, 69], .null), (123, .ifCond .eq 5, 126, 128, 0, [], .null), (126, .iconst 0, 127, 0, 0, [], .null), (127, .ireturn, 128, 0, 0, [], .null), (128, .aload_n 0, 129, 0, 0, [], .null), (129, .iload_n 3, 130, 0, 0, [], .null), (130, .ifCond .eq 9, 133, 139, 0, [], .null), (133, .iload 5, 135, 0, 0, [], .null), (135, .ineg, 136, 0, 0, [], .null), (136, .goto 5, 139, 141, 0, [], .null), (139, .iload 5, 141, 0, 0, [], .null), (141, .putfield 84, 144, 8, 8, [680], .null), (144, .aload_n 0, 145, 0, 0, [], .null), (145, .iload 5, 147, 0, 0, [], .null), (147, .iload_n 1, 148, 0, 0, [], .null), (148, .if_icmp .le 8, 151, 156, 0, [], .null), (151, .iload 4, 153, 0, 0, [], .null), (153, .goto 7, 156, 160, 0, [], .null), (156, .aload_n 0, 157, 0, 0, [], .null), (157, .getfield 74, 160, 8, 7, [679], .null), (160, .putfield 74, 163, 8, 7, [679], .null), (163, .iload 5, 165, 0, 0, [], .null), (165, .iload_n 1, 166, 0, 0, [], .null), (166, .if_icmp .gt 7, 169, 173, 0, [], .null), (169, .iconst 1, 170, 0, 0, [], .null), (170, .goto 4, 173, 174, 0, [], .null), (173, .iconst 0, 174, 0, 0, [], .null), (174, .ireturn, 175, 0, 0, [], .null)]
def oX8_passesInstruction : List (Nat × MOp) := [(0, .aload_n 0, 1, 0, 0, [], .null), (1, .getfield 13, 4, 8, 1, [673], .null), (4, .iconst 0, 5, 0, 0, [], .null), (5, .iaload, 6, 0, 0, [], .null), (6, .istore_n 1, 7, 0, 0, [], .null), (7, .aload_n 0, 8, 0, 0, [], .null), (8, .invokevirtual 77, 11, 106, 0, [793, 795, 37, 69], .null), (11, .invokestatic 87, 14, 108, 1, [801, 802, 69], .null), (14, .istore_n 2, 15, 0, 0, [], .null), (15, .iload_n 2, 16, 0, 0, [], .null), (16, .iconst (-1), 17, 0, 0, [], .null), (17, .if_icmp .eq 9, 20, 26, 0, [], .null), (20, .iload_n 1, 21, 0, 0, [], .null), (21, .bipush 24, 23, 0, 0, [], .null), (23, .if_icmp .ne 5, 26, 28, 0, [], .null), (26, .iconst 0, 27, 0, 0, [], .null), (27, .ireturn, 28, 0, 0, [], .null), (28, .aload_n 0, 29, 0, 0, [], .null), (29, .dup, 30, 0, 0, [], .null), (30, .getfield 74, 33, 8, 7, [679], .null), (33, .iconst 1, 34, 0, 0, [], .null), (34, .iadd, 35, 0, 0, [], .null), (35, .putfield 74, 38, 8, 7, [679], .null), (38, .iload_n 2, 39, 0, 0, [], .null), (39, .iconst 4, 40, 0, 0, [], .null), (40, .if_icmp .eq 13, 43, 53, 0, [], .null), (43, .iload_n 2, 44, 0, 0, [], .null), (44, .bipush 7, 46, 0, 0, [], .null), (46, .if_icmp .eq 7, 49, 53, 0, [], .null), (49, .iconst 1, 50, 0, 0, [], .null), (50, .goto 4, 53, 54, 0, [], .null), (53, .iconst 0, 54, 0, 0, [], .null), (54, .istore_n 3, 55, 0, 0, [], .null), (55, .aload_n 0, 56, 0, 0, [], .null), (56, .iconst 0, 57, 0, 0, [], .null), (57, .putfield 84, 60, 8, 8, [680], .null), (60, .iload_n 3, 61, 0, 0, [], .null), (61, .ifCond .eq 14, 64, 75, 0, [], .null), (64, .aload_n 0, 65, 0, 0, [], .null), (65, .iconst 3, 66, 0, 0, [], .null), (66, .iconst 0, 67, 0, 0, [], .null), (67, .invokevirtual 90, 70, 109, 2, [804, 806, 39, 69], .null), (70, .ifCond .ne 5, 73, 75, 0, [], .null), (73, .iconst 0, 74, 0, 0, [], .null), (74, .ireturn, 75, 0, 0, [], .null), (75, .aload_n 0, 76, 0, 0, [], .null), (76, .getfield 13, 79, 8, 1, [673], .null), (79, .iconst 1, 80, 0, 0, [], .null), (80, .iload_n 1, 81, 0, 0, [], .null), (81, .iadd, 82, 0, 0, [], .null), (82, .iload_n 2, 83, 0, 0, [], .null), (83, .iastore, 84, 0, 0, [], .null), (84, .aload_n 0, 85, 0, 0, [], .null), (85, .getfield 13, 88, 8, 1, [673], .null), (88, .bipush 25, 90, 0, 0, [], .null), (90, .iload_n 1, 91, 0, 0, [], .null), (91, .iadd, 92, 0, 0, [], .null), (92, .aload_n 0, 93, 0, 0, [], .null), (93, .getfield 84, 96, 8, 8, [680], .null), (96, .iastore, 97, 0, 0, [], .null), (97, .iload_n 2, 98, 0, 0, [], .null), (98, .ifCond .eq 8, 101, 106, 0, [], .null), (101, .iload_n 2, 102, 0, 0, [], .null), (102, .iconst 1, 103, 0, 0, [], .null), (103, .if_icmp .ne 7, 106, 110, 0, [], .null), (106, .iconst 1, 107, 0, 0, [], .null), (107, .goto 4, 110, 111, 0, [], .null), (110, .iconst 0, 111, 0, 0, [], .null), (111, .istore 4, 113, 0, 0, [], .null), (113, .iload_n 2, 114, 0, 0, [], .null), (114, .iconst 2, 115, 0, 0, [], .null), (115, .if_icmp .eq 8, 118, 123, 0, [], .null), (118, .iload_n 2, 119, 0, 0, [], .null), (119, .iconst 3, 120, 0, 0, [], .null), (120, .if_icmp .ne 7, 123, 127, 0, [], .null), (123, .iconst 1, 124, 0, 0, [], .null), (124, .goto 4, 127, 128, 0, [], .null), (127, .iconst 0, 128, 0, 0, [], .null), (128, .istore 5, 130, 0, 0, [], .null), (130, .iload_n 2, 131, 0, 0, [], .null), (131, .bipush 7, 133, 0, 0, [], .null), (133, .if_icmp .eq 35, 136, 168, 0, [], .null), (136, .aload_n 0, 137, 0, 0, [], .null), (137, .iload 4, 139, 0, 0, [], .null), (139, .ifCond .eq 8, 142, 147, 0, [], .null), (142, .bipush 99, 144, 0, 0, [], .null), (144, .goto 14, 147, 158, 0, [], .null), (147, .iload 5, 149, 0, 0, [], .null), (149, .ifCond .eq 7, 152, 156, 0, [], .null), (152, .iconst 3, 153, 0, 0, [], .null), (153, .goto 5, 156, 158, 0, [], .null), (156, .bipush 24, 158, 0, 0, [], .null), (158, .iload 4, 160, 0, 0, [], .null), (160, .invokevirtual 90, 163, 109, 2, [804, 806, 39, 69], .null), (163, .ifCond .ne 5, 166, 168, 0, [], .null), (166, .iconst 0, 167, 0, 0, [], .null), (167, .ireturn, 168, 0, 0, [], .null), (168, .aload_n 0, 169, 0, 0, [], .null), (169, .getfield 13, 172, 8, 1, [673], .null), (172, .bipush 49, 174, 0, 0, [], .null), (174, .iload_n 1, 175, 0, 0, [], .null), (175, .iadd, 176, 0, 0, [], .null), (176, .iload_n 2, 177, 0, 0, [], .null), (177, .bipush 7, 179, 0, 0, [], .null), (179, .if_icmp .ne 7, 182, 186, 0, [], .null), (182, .iconst 0, 183, 0, 0, [], .null), (183, .goto 7, 186, 190, 0, [], .null), (186, .aload_n 0, 187, 0, 0, [], .null), (187, .getfield 84, 190, 8, 8, [680], .null), (190, .iastore, 191, 0, 0, [], .null), (191, .aload_n 0, 192, 0, 0, [], .null), (192, .invokevirtual 81, 195, 107, 0, [789, 791, 36, 69], .null), (195, .aload_n 0, 196, 0, 0, [], .null), (196, .invokevirtual 77, 199, 106, 0, [793, 795, 37, 69], .null), (199, .bipush 59, 201, 0, 0, [], .null), (201, .if_icmp .eq 5, 204, 206, 0, [], .null), (204, .iconst 0, 205, 0, 0, [], .null), (205, .ireturn, 206, 0, 0, [], .null), (206, .aload_n 0, 207, 0, 0, [], .null), (207, .dup, 208, 0, 0, [], .null), (208, .getfield 74, 211, 8, 7, [679], .null), (211, .iconst 1, 212, 0, 0, [], .null), (212, .iadd, 213, 0, 0, [], .null), (213, .putfield 74, 216, 8, 7, [679], .null), (216, .aload_n 0, 217, 0, 0, [], .null), (217, .invokevirtual 81, 220, 107, 0, [789, 791, 36, 69], .null), (220, .aload_n 0, 221, 0, 0, [], .null), (221, .getfield 13, 224, 8, 1, [673], .null), (224, .iconst 0, 225, 0, 0, [], .null), (225, .dup2, 226, 0, 0, [], .null), (226, .iaload, 227, 0, 0, [], .null), (227, .iconst 1, 228, 0, 0, [], .null), (228, .iadd, 229, 0, 0, [], .null), (229, .iastore, 230, 0, 0, [], .null), (230, .iconst 1, 231, 0, 0, [], .null), (231, .ireturn, 232, 0, 0, [], .null)]
def oX8_assemble : List (Nat × MOp) := [(0, .iconst 0, 1, 0, 0, [], .null), (1, .istore_n 1, 2, 0, 0, [], .null), (2, .iload_n 1, 3, 0, 0, [], .null), (3, .bipush 81, 5, 0, 0, [], .null), (5, .if_icmp .ge 31, 8, 36, 0, [], .null), (8, .aload_n 0, 9, 0, 0, [], .null), (9, .getfield 13, 12, 8, 1, [673], .null), (12, .iload_n 1, 13, 0, 0, [], .null), (13, .iload_n 1, 14, 0, 0, [], .null), (14, .bipush 73, 16, 0, 0, [], .null), (16, .if_icmp .ge 7, 19, 23, 0, [], .null), (19, .iconst 0, 20, 0, 0, [], .null), (20, .goto 9, 23, 29, 0, [], .null), (23, .aload_n 0, 24, 0, 0, [], .null), (24, .getfield 7, 27, 8, 0, [672], .null), (27, .iload_n 1, 28, 0, 0, [], .null), (28, .iaload, 29, 0, 0, [], .null), (29, .iastore, 30, 0, 0, [], .null), (30, .iinc 1 1, 33, 0, 0, [], .null), (33, .goto (-31), 36, 2, 0, [], .null), (36, .aload_n 0, 37, 0, 0, [], .null), (37, .iconst 0, 38, 0, 0, [], .null), (38, .putfield 74, 41, 8, 7, [679], .null), (41, .aload_n 0, 42, 0, 0, [], .null), (42, .invokevirtual 81, 45, 107, 0, [789, 791, 36, 69], .null), (45, .aload_n 0, 46, 0, 0, [], .null), (46, .getfield 74, 49, 8, 7, [679], .null), (49, .aload_n 0, 50, 0, 0, [], .null), (50, .getfield 71, 53, 8, 6, [678], .null), (53, .if_icmp .ge 18, 56, 71, 0, [], .null), (56, .aload_n 0, 57, 0, 0, [], .null), (57, .invokevirtual 94, 60, 110, 0, [797, 799, 38, 69], .null), (60, .ifCond .ne (-15), 63, 45, 0, [], .null), (63, .bipush (-10), 65, 0, 0, [], .null), (65, .aload_n 0, 66, 0, 0, [], .null), (66, .getfield 74, 69, 8, 7, [679], .null), (69, .isub, 70, 0, 0, [], .null), (70, .ireturn, 71, 0, 0, [], .null), (71, .aload_n 0, 72, 0, 0, [], .null), (72, .invokevirtual 98, 75, 102, 0, [808, 810, 40, 69], .null), (75, .iconst 0, 76, 0, 0, [], .null), (76, .istore_n 1, 77, 0, 0, [], .null), (77, .iload_n 1, 78, 0, 0, [], .null), (78, .bipush 81, 80, 0, 0, [], .null), (80, .if_icmp .ge 21, 83, 101, 0, [], .null), (83, .aload_n 0, 84, 0, 0, [], .null), (84, .getfield 7, 87, 8, 0, [672], .null), (87, .iload_n 1, 88, 0, 0, [], .null), (88, .aload_n 0, 89, 0, 0, [], .null), (89, .getfield 13, 92, 8, 1, [673], .null), (92, .iload_n 1, 93, 0, 0, [], .null), (93, .iaload, 94, 0, 0, [], .null), (94, .iastore, 95, 0, 0, [], .null), (95, .iinc 1 1, 98, 0, 0, [], .null), (98, .goto (-21), 101, 77, 0, [], .null), (101, .aload_n 0, 102, 0, 0, [], .null), (102, .getfield 7, 105, 8, 0, [672], .null), (105, .iconst 0, 106, 0, 0, [], .null), (106, .iaload, 107, 0, 0, [], .null), (107, .ireturn, 108, 0, 0, [], .null)]
def oX8_setCost : List (Nat × MOp) := [(0, .iload_n 1, 1, 0, 0, [], .null), (1, .iconst 0, 2, 0, 0, [], .null), (2, .bipush 7, 4, 0, 0, [], .null), (4, .invokestatic 60, 7, 99, 3, [778, 779, 69], .null), (7, .ifCond .eq 13, 10, 20, 0, [], .null), (10, .iload_n 2, 11, 0, 0, [], .null), (11, .iconst 1, 12, 0, 0, [], .null), (12, .bipush 9, 14, 0, 0, [], .null), (14, .invokestatic 60, 17, 99, 3, [778, 779, 69], .null), (17, .ifCond .ne 10, 20, 27, 0, [], .null), (20, .aload_n 0, 21, 0, 0, [], .null), (21, .bipush (-2), 23, 0, 0, [], .null), (23, .invokevirtual 67, 26, 100, 1, [770, 772, 35, 69], .null), (26, .ireturn, 27, 0, 0, [], .null), (27, .aload_n 0, 28, 0, 0, [], .null), (28, .invokevirtual 98, 31, 102, 0, [808, 810, 40, 69], .null), (31, .aload_n 0, 32, 0, 0, [], .null), (32, .getfield 7, 35, 8, 0, [672], .null), (35, .bipush 73, 37, 0, 0, [], .null), (37, .iload_n 1, 38, 0, 0, [], .null), (38, .iadd, 39, 0, 0, [], .null), (39, .iaload, 40, 0, 0, [], .null), (40, .istore_n 3, 41, 0, 0, [], .null), (41, .aload_n 0, 42, 0, 0, [], .null), (42, .getfield 7, 45, 8, 0, [672], .null), (45, .bipush 73, 47, 0, 0, [], .null), (47, .iload_n 1, 48, 0, 0, [], .null), (48, .iadd, 49, 0, 0, [], .null), (49, .iload_n 2, 50, 0, 0, [], .null), (50, .iastore, 51, 0, 0, [], .null), (51, .iload_n 3, 52, 0, 0, [], .null), (52, .ireturn, 53, 0, 0, [], .null)]
def oX8_opcode : List (Nat × MOp) := [(0, .aload_n 0, 1, 0, 0, [], .null), (1, .iload_n 1, 2, 0, 0, [], .null), (2, .invokevirtual 101, 5, 101, 1, [820, 822, 41, 69], .null), (5, .ifCond .eq 14, 8, 19, 0, [], .null), (8, .aload_n 0, 9, 0, 0, [], .null), (9, .getfield 7, 12, 8, 0, [672], .null), (12, .iconst 1, 13, 0, 0, [], .null), (13, .iload_n 1, 14, 0, 0, [], .null), (14, .iadd, 15, 0, 0, [], .null), (15, .iaload, 16, 0, 0, [], .null), (16, .goto 9, 19, 25, 0, [], .null), (19, .aload_n 0, 20, 0, 0, [], .null), (20, .bipush (-2), 22, 0, 0, [], .null), (22, .invokevirtual 67, 25, 100, 1, [770, 772, 35, 69], .null), (25, .ireturn, 26, 0, 0, [], .null)]
def oX8_costAt : List (Nat × MOp) := [(0, .aload_n 0, 1, 0, 0, [], .null), (1, .getfield 7, 4, 8, 0, [672], .null), (4, .bipush 73, 6, 0, 0, [], .null), (6, .aload_n 0, 7, 0, 0, [], .null), (7, .getfield 7, 10, 8, 0, [672], .null), (10, .iconst 1, 11, 0, 0, [], .null), (11, .iload_n 1, 12, 0, 0, [], .null), (12, .iadd, 13, 0, 0, [], .null), (13, .iaload, 14, 0, 0, [], .null), (14, .iadd, 15, 0, 0, [], .null), (15, .iaload, 16, 0, 0, [], .null), (16, .ireturn, 17, 0, 0, [], .null)]
def oX8_isBranch : List (Nat × MOp) := [(0, .aload_n 0, 1, 0, 0, [], .null), (1, .getfield 7, 4, 8, 0, [672], .null), (4, .iconst 1, 5, 0, 0, [], .null), (5, .iload_n 1, 6, 0, 0, [], .null), (6, .iadd, 7, 0, 0, [], .null), (7, .iaload, 8, 0, 0, [], .null), (8, .iconst 5, 9, 0, 0, [], .null), (9, .if_icmp .eq 16, 12, 25, 0, [], .null), (12, .aload_n 0, 13, 0, 0, [], .null), (13, .getfield 7, 16, 8, 0, [672], .null), (16, .iconst 1, 17, 0, 0, [], .null), (17, .iload_n 1, 18, 0, 0, [], .null), (18, .iadd, 19, 0, 0, [], .null), (19, .iaload, 20, 0, 0, [], .null), (20, .bipush 6, 22, 0, 0, [], .null), (22, .if_icmp .ne 7, 25, 29, 0, [], .null), (25, .iconst 1, 26, 0, 0, [], .null), (26, .goto 4, 29, 30, 0, [], .null), (29, .iconst 0, 30, 0, 0, [], .null), (30, .ireturn, 31, 0, 0, [], .null)]
def oX8_targetOf : List (Nat × MOp) := [(0, .aload_n 0, 1, 0, 0, [], .null), (1, .getfield 7, 4, 8, 0, [672], .null), (4, .iconst 1, 5, 0, 0, [], .null), (5, .iload_n 1, 6, 0, 0, [], .null), (6, .iadd, 7, 0, 0, [], .null), (7, .iaload, 8, 0, 0, [], .null), (8, .iconst 4, 9, 0, 0, [], .null), (9, .if_icmp .eq 11, 12, 20, 0, [], .null), (12, .aload_n 0, 13, 0, 0, [], .null), (13, .iload_n 1, 14, 0, 0, [], .null), (14, .invokevirtual 105, 17, 115, 1, [840, 842, 45, 69], .null), (17, .ifCond .eq 15, 20, 32, 0, [], .null), (20, .aload_n 0, 21, 0, 0, [], .null), (21, .getfield 7, 24, 8, 0, [672], .null), (24, .bipush 49, 26, 0, 0, [], .null), (26, .iload_n 1, 27, 0, 0, [], .null), (27, .iadd, 28, 0, 0, [], .null), (28, .iaload, 29, 0, 0, [], .null), (29, .goto 5, 32, 34, 0, [], .null), (32, .bipush 24, 34, 0, 0, [], .null), (34, .ireturn, 35, 0, 0, [], .null)]
def oX8_isLeader : List (Nat × MOp) := [(0, .iload_n 1, 1, 0, 0, [], .null), (1, .ifCond .eq 17, 4, 18, 0, [], .null), (4, .aload_n 0, 5, 0, 0, [], .null), (5, .getfield 7, 8, 8, 0, [672], .null), (8, .iconst 1, 9, 0, 0, [], .null), (9, .iload_n 1, 10, 0, 0, [], .null), (10, .iadd, 11, 0, 0, [], .null), (11, .iconst 1, 12, 0, 0, [], .null), (12, .isub, 13, 0, 0, [], .null), (13, .iaload, 14, 0, 0, [], .null), (14, .iconst 4, 15, 0, 0, [], .null), (15, .if_icmp .lt 7, 18, 22, 0, [], .null), (18, .iconst 1, 19, 0, 0, [], .null), (19, .goto 4, 22, 23, 0, [], .null), (22, .iconst 0, 23, 0, 0, [], .null), (23, .istore_n 2, 24, 0, 0, [], .null), (24, .iconst 0, 25, 0, 0, [], .null), (25, .istore_n 3, 26, 0, 0, [], .null), (26, .iload_n 3, 27, 0, 0, [], .null), (27, .aload_n 0, 28, 0, 0, [], .null), (28, .getfield 7, 31, 8, 0, [672], .null), (31, .iconst 0, 32, 0, 0, [], .null), (32, .iaload, 33, 0, 0, [], .null), (33, .if_icmp .ge 28, 36, 61, 0, [], .null), (36, .iload_n 2, 37, 0, 0, [], .null), (37, .ifCond .ne 12, 40, 49, 0, [], .null), (40, .aload_n 0, 41, 0, 0, [], .null), (41, .iload_n 3, 42, 0, 0, [], .null), (42, .invokevirtual 108, 45, 116, 1, [836, 838, 44, 69], .null), (45, .iload_n 1, 46, 0, 0, [], .null), (46, .if_icmp .ne 7, 49, 53, 0, [], .null), (49, .iconst 1, 50, 0, 0, [], .null), (50, .goto 4, 53, 54, 0, [], .null), (53, .iconst 0, 54, 0, 0, [], .null), (54, .istore_n 2, 55, 0, 0, [], .null), (55, .iinc 3 1, 58, 0, 0, [], .null), (58, .goto (-32), 61, 26, 0, [], .null), (61, .iload_n 2, 62, 0, 0, [], .null), (62, .ireturn, 63, 0, 0, [], .null)]
def oX8_goesTo : List (Nat × MOp) := [(0, .iload_n 2, 1, 0, 0, [], .null), (1, .aload_n 0, 2, 0, 0, [], .null), (2, .getfield 7, 5, 8, 0, [672], .null), (5, .iconst 0, 6, 0, 0, [], .null), (6, .iaload, 7, 0, 0, [], .null), (7, .if_icmp .ge 23, 10, 30, 0, [], .null), (10, .aload_n 0, 11, 0, 0, [], .null), (11, .getfield 31, 14, 8, 12, [684], .null), (14, .iload_n 1, 15, 0, 0, [], .null), (15, .dup2, 16, 0, 0, [], .null), (16, .iaload, 17, 0, 0, [], .null), (17, .iconst 1, 18, 0, 0, [], .null), (18, .aload_n 0, 19, 0, 0, [], .null), (19, .getfield 28, 22, 8, 11, [683], .null), (22, .iload_n 2, 23, 0, 0, [], .null), (23, .iaload, 24, 0, 0, [], .null), (24, .ishl, 25, 0, 0, [], .null), (25, .ior, 26, 0, 0, [], .null), (26, .iastore, 27, 0, 0, [], .null), (27, .goto 10, 30, 37, 0, [], .null), (30, .aload_n 0, 31, 0, 0, [], .null), (31, .getfield 34, 34, 8, 13, [685], .null), (34, .iload_n 1, 35, 0, 0, [], .null), (35, .iconst 1, 36, 0, 0, [], .null), (36, .bastore, 37, 0, 0, [], .null), (37, .return_, 38, 0, 0, [], .null)]
def oX8_laysFollowing : List (Nat × MOp) := [(0, .aload_n 0, 1, 0, 0, [], .null), (1, .getfield 31, 4, 8, 12, [684], .null), (4, .iload_n 1, 5, 0, 0, [], .null), (5, .iconst 0, 6, 0, 0, [], .null), (6, .iastore, 7, 0, 0, [], .null), (7, .aload_n 0, 8, 0, 0, [], .null), (8, .getfield 34, 11, 8, 13, [685], .null), (11, .iload_n 1, 12, 0, 0, [], .null), (12, .aload_n 0, 13, 0, 0, [], .null), (13, .getfield 7, 16, 8, 0, [672], .null), (16, .iconst 1, 17, 0, 0, [], .null), (17, .iload_n 2, 18, 0, 0, [], .null), (18, .iadd, 19, 0, 0, [], .null), (19, .iaload, 20, 0, 0, [], .null), (20, .bipush 7, 22, 0, 0, [], .null), (22, .if_icmp .ne 7, 25, 29, 0, [], .null), (25, .iconst 1, 26, 0, 0, [], .null), (26, .goto 4, 29, 30, 0, [], .null), (29, .iconst 0, 30, 0, 0, [], .null), (30, .bastore, 31, 0, 0, [], .null), (31, .aload_n 0, 32, 0, 0, [], .null), (32, .getfield 7, 35, 8, 0, [672], .null), (35, .iconst 1, 36, 0, 0, [], .null), (36, .iload_n 2, 37, 0, 0, [], .null), (37, .iadd, 38, 0, 0, [], .null), (38, .iaload, 39, 0, 0, [], .null), (39, .iconst 4, 40, 0, 0, [], .null), (40, .if_icmp .eq 11, 43, 51, 0, [], .null), (43, .aload_n 0, 44, 0, 0, [], .null), (44, .iload_n 2, 45, 0, 0, [], .null), (45, .invokevirtual 105, 48, 115, 1, [840, 842, 45, 69], .null), (48, .ifCond .eq 17, 51, 65, 0, [], .null), (51, .aload_n 0, 52, 0, 0, [], .null), (52, .iload_n 1, 53, 0, 0, [], .null), (53, .aload_n 0, 54, 0, 0, [], .null), (54, .getfield 7, 57, 8, 0, [672], .null), (57, .bipush 49, 59, 0, 0, [], .null), (59, .iload_n 2, 60, 0, 0, [], .null), (60, .iadd, 61, 0, 0, [], .null), (61, .iaload, 62, 0, 0, [], .null), (62, .invokevirtual 111, 65, 118, 2, [852, 854, 48, 69], .null), (65, .aload_n 0, 66, 0, 0, [], .null), (66, .getfield 7, 69, 8, 0, [672], .null), (69, .iconst 1, 70, 0, 0, [], .null), (70, .iload_n 2, 71, 0, 0, [], .null), (71, .iadd, 72, 0, 0, [], .null), (72, .iaload, 73, 0, 0, [], .null), (73, .iconst 4, 74, 0, 0, [], .null), (74, .if_icmp .eq 24, 77, 98, 0, [], .null), (77, .aload_n 0, 78, 0, 0, [], .null), (78, .getfield 7, 81, 8, 0, [672], .null), (81, .iconst 1, 82, 0, 0, [], .null), (82, .iload_n 2, 83, 0, 0, [], .null), (83, .iadd, 84, 0, 0, [], .null), (84, .iaload, 85, 0, 0, [], .null), (85, .bipush 7, 87, 0, 0, [], .null), (87, .if_icmp .eq 11, 90, 98, 0, [], .null), (90, .aload_n 0, 91, 0, 0, [], .null), (91, .iload_n 1, 92, 0, 0, [], .null), (92, .iload_n 2, 93, 0, 0, [], .null), (93, .iconst 1, 94, 0, 0, [], .null), (94, .iadd, 95, 0, 0, [], .null), (95, .invokevirtual 111, 98, 118, 2, [852, 854, 48, 69], .null), (98, .return_, 99, 0, 0, [], .null)]
def oX8_comingTo : List (Nat × MOp) := [(0, .iconst 0, 1, 0, 0, [], .null), (1, .istore_n 2, 2, 0, 0, [], .null), (2, .iconst 0, 3, 0, 0, [], .null), (3, .istore_n 3, 4, 0, 0, [], .null), (4, .iload_n 3, 5, 0, 0, [], .null), (5, .aload_n 0, 6, 0, 0, [], .null), (6, .getfield 115, 9, 8, 9, [681], .null), (9, .if_icmp .ge 24, 12, 33, 0, [], .null), (12, .iload_n 2, 13, 0, 0, [], .null), (13, .aload_n 0, 14, 0, 0, [], .null), (14, .getfield 31, 17, 8, 12, [684], .null), (17, .iload_n 3, 18, 0, 0, [], .null), (18, .iaload, 19, 0, 0, [], .null), (19, .iload_n 1, 20, 0, 0, [], .null), (20, .ishr, 21, 0, 0, [], .null), (21, .iconst 1, 22, 0, 0, [], .null), (22, .iand, 23, 0, 0, [], .null), (23, .iload_n 3, 24, 0, 0, [], .null), (24, .ishl, 25, 0, 0, [], .null), (25, .ior, 26, 0, 0, [], .null), (26, .istore_n 2, 27, 0, 0, [], .null), (27, .iinc 3 1, 30, 0, 0, [], .null), (30, .goto (-26), 33, 4, 0, [], .null), (33, .iload_n 2, 34, 0, 0, [], .null), (34, .ireturn, 35, 0, 0, [], .null)]
def oX8_isJoined : List (Nat × MOp) := [(0, .aload_n 0, 1, 0, 0, [], .null), (1, .getfield 31, 4, 8, 12, [684], .null), (4, .iload_n 2, 5, 0, 0, [], .null), (5, .iaload, 6, 0, 0, [], .null), (6, .iconst 1, 7, 0, 0, [], .null), (7, .iload_n 1, 8, 0, 0, [], .null), (8, .ishl, 9, 0, 0, [], .null), (9, .if_icmp .ne 36, 12, 45, 0, [], .null), (12, .aload_n 0, 13, 0, 0, [], .null), (13, .getfield 34, 16, 8, 13, [685], .null), (16, .iload_n 2, 17, 0, 0, [], .null), (17, .baload, 18, 0, 0, [], .null), (18, .ifCond .ne 27, 21, 45, 0, [], .null), (21, .aload_n 0, 22, 0, 0, [], .null), (22, .iload_n 1, 23, 0, 0, [], .null), (23, .invokevirtual 118, 26, 120, 1, [860, 862, 50, 69], .null), (26, .iconst 1, 27, 0, 0, [], .null), (27, .iload_n 2, 28, 0, 0, [], .null), (28, .ishl, 29, 0, 0, [], .null), (29, .if_icmp .ne 16, 32, 45, 0, [], .null), (32, .iload_n 1, 33, 0, 0, [], .null), (33, .ifCond .eq 12, 36, 45, 0, [], .null), (36, .iload_n 1, 37, 0, 0, [], .null), (37, .iload_n 2, 38, 0, 0, [], .null), (38, .if_icmp .eq 7, 41, 45, 0, [], .null), (41, .iconst 1, 42, 0, 0, [], .null), (42, .goto 4, 45, 46, 0, [], .null), (45, .iconst 0, 46, 0, 0, [], .null), (46, .ireturn, 47, 0, 0, [], .null)]
def oX8_headOf : List (Nat × MOp) := [(0, .iload_n 1, 1, 0, 0, [], .null), (1, .istore_n 2, 2, 0, 0, [], .null), (2, .iload_n 1, 3, 0, 0, [], .null), (3, .istore_n 3, 4, 0, 0, [], .null), (4, .aload_n 0, 5, 0, 0, [], .null), (5, .getfield 41, 8, 8, 15, [687], .null), (8, .iload_n 2, 9, 0, 0, [], .null), (9, .iaload, 10, 0, 0, [], .null), (10, .iconst (-1), 11, 0, 0, [], .null), (11, .if_icmp .eq 34, 14, 45, 0, [], .null), (14, .aload_n 0, 15, 0, 0, [], .null), (15, .getfield 41, 18, 8, 15, [687], .null), (18, .iload_n 2, 19, 0, 0, [], .null), (19, .iaload, 20, 0, 0, [], .null), (20, .iload_n 1, 21, 0, 0, [], .null), (21, .if_icmp .eq 24, 24, 45, 0, [], .null), (24, .aload_n 0, 25, 0, 0, [], .null), (25, .getfield 41, 28, 8, 15, [687], .null), (28, .iload_n 2, 29, 0, 0, [], .null), (29, .iaload, 30, 0, 0, [], .null), (30, .istore_n 2, 31, 0, 0, [], .null), (31, .iload_n 2, 32, 0, 0, [], .null), (32, .iload_n 3, 33, 0, 0, [], .null), (33, .if_icmp .ge 7, 36, 40, 0, [], .null), (36, .iload_n 2, 37, 0, 0, [], .null), (37, .goto 4, 40, 41, 0, [], .null), (40, .iload_n 3, 41, 0, 0, [], .null), (41, .istore_n 3, 42, 0, 0, [], .null), (42, .goto (-38), 45, 4, 0, [], .null), (45, .aload_n 0, 46, 0, 0, [], .null), (46, .getfield 41, 49, 8, 15, [687], .null), (49, .iload_n 2, 50, 0, 0, [], .null), (50, .iaload, 51, 0, 0, [], .null), (51, .iconst (-1), 52, 0, 0, [], .null), (52, .if_icmp .ne 7, 55, 59, 0, [], .null), (55, .iload_n 2, 56, 0, 0, [], .null), (56, .goto 4, 59, 60, 0, [], .null), (59, .iload_n 3, 60, 0, 0, [], .null), (60, .ireturn, 61, 0, 0, [], .null)]
def oX8_laysBlocks : List (Nat × MOp) := [(0, .aload_n 0, 1, 0, 0, [], .null), (1, .iconst 0, 2, 0, 0, [], .null), (2, .putfield 115, 5, 8, 9, [681], .null), (5, .iconst 0, 6, 0, 0, [], .null), (6, .istore_n 1, 7, 0, 0, [], .null), (7, .iload_n 1, 8, 0, 0, [], .null), (8, .aload_n 0, 9, 0, 0, [], .null), (9, .getfield 7, 12, 8, 0, [672], .null), (12, .iconst 0, 13, 0, 0, [], .null), (13, .iaload, 14, 0, 0, [], .null), (14, .if_icmp .ge 78, 17, 92, 0, [], .null), (17, .aload_n 0, 18, 0, 0, [], .null), (18, .iload_n 1, 19, 0, 0, [], .null), (19, .invokevirtual 121, 22, 117, 1, [832, 834, 43, 69], .null), (22, .ifCond .eq 33, 25, 55, 0, [], .null), (25, .aload_n 0, 26, 0, 0, [], .null), (26, .getfield 25, 29, 8, 10, [682], .null), (29, .aload_n 0, 30, 0, 0, [], .null), (30, .getfield 115, 33, 8, 9, [681], .null), (33, .iload_n 1, 34, 0, 0, [], .null), (34, .iastore, 35, 0, 0, [], .null), (35, .aload_n 0, 36, 0, 0, [], .null), (36, .getfield 38, 39, 8, 14, [686], .null), (39, .aload_n 0, 40, 0, 0, [], .null), (40, .getfield 115, 43, 8, 9, [681], .null), (43, .iconst 0, 44, 0, 0, [], .null), (44, .iastore, 45, 0, 0, [], .null), (45, .aload_n 0, 46, 0, 0, [], .null), (46, .dup, 47, 0, 0, [], .null), (47, .getfield 115, 50, 8, 9, [681], .null), (50, .iconst 1, 51, 0, 0, [], .null), (51, .iadd, 52, 0, 0, [], .null), (52, .putfield 115, 55, 8, 9, [681], .null), (55, .aload_n 0, 56, 0, 0, [], .null), (56, .getfield 28, 59, 8, 11, [683], .null), (59, .iload_n 1, 60, 0, 0, [], .null), (60, .aload_n 0, 61, 0, 0, [], .null), (61, .getfield 115, 64, 8, 9, [681], .null), (64, .iconst 1, 65, 0, 0, [], .null), (65, .isub, 66, 0, 0, [], .null), (66, .iastore, 67, 0, 0, [], .null), (67, .aload_n 0, 68, 0, 0, [], .null), (68, .getfield 38, 71, 8, 14, [686], .null), (71, .aload_n 0, 72, 0, 0, [], .null), (72, .getfield 115, 75, 8, 9, [681], .null), (75, .iconst 1, 76, 0, 0, [], .null), (76, .isub, 77, 0, 0, [], .null), (77, .dup2, 78, 0, 0, [], .null), (78, .iaload, 79, 0, 0, [], .null), (79, .aload_n 0, 80, 0, 0, [], .null), (80, .iload_n 1, 81, 0, 0, [], .null), (81, .invokevirtual 124, 84, 114, 1, [844, 846, 46, 69], .null), (84, .iadd, 85, 0, 0, [], .null), (85, .iastore, 86, 0, 0, [], .null), (86, .iinc 1 1, 89, 0, 0, [], .null), (89, .goto (-82), 92, 7, 0, [], .null), (92, .iconst 0, 93, 0, 0, [], .null), (93, .istore_n 1, 94, 0, 0, [], .null), (94, .iload_n 1, 95, 0, 0, [], .null), (95, .aload_n 0, 96, 0, 0, [], .null), (96, .getfield 115, 99, 8, 9, [681], .null), (99, .if_icmp .ge 45, 102, 144, 0, [], .null), (102, .aload_n 0, 103, 0, 0, [], .null), (103, .iload_n 1, 104, 0, 0, [], .null), (104, .iload_n 1, 105, 0, 0, [], .null), (105, .aload_n 0, 106, 0, 0, [], .null), (106, .getfield 115, 109, 8, 9, [681], .null), (109, .iconst 1, 110, 0, 0, [], .null), (110, .isub, 111, 0, 0, [], .null), (111, .if_icmp .ne 14, 114, 125, 0, [], .null), (114, .aload_n 0, 115, 0, 0, [], .null), (115, .getfield 7, 118, 8, 0, [672], .null), (118, .iconst 0, 119, 0, 0, [], .null), (119, .iaload, 120, 0, 0, [], .null), (120, .iconst 1, 121, 0, 0, [], .null), (121, .isub, 122, 0, 0, [], .null), (122, .goto 13, 125, 135, 0, [], .null), (125, .aload_n 0, 126, 0, 0, [], .null), (126, .getfield 25, 129, 8, 10, [682], .null), (129, .iload_n 1, 130, 0, 0, [], .null), (130, .iconst 1, 131, 0, 0, [], .null), (131, .iadd, 132, 0, 0, [], .null), (132, .iaload, 133, 0, 0, [], .null), (133, .iconst 1, 134, 0, 0, [], .null), (134, .isub, 135, 0, 0, [], .null), (135, .invokevirtual 127, 138, 119, 2, [848, 850, 47, 69], .null), (138, .iinc 1 1, 141, 0, 0, [], .null), (141, .goto (-47), 144, 94, 0, [], .null), (144, .iconst 0, 145, 0, 0, [], .null), (145, .istore_n 1, 146, 0, 0, [], .null), (146, .iload_n 1, 147, 0, 0, [], .null), (147, .aload_n 0, 148, 0, 0, [], .null), (148, .getfield 115, 151, 8, 9, [681], .null), (151, .if_icmp .ge 57, 154, 208, 0, [], .null), (154, .aload_n 0, 155, 0, 0, [], .null), (155, .getfield 41, 158, 8, 15, [687], .null), (158, .iload_n 1, 159, 0, 0, [], .null), (159, .iconst (-1), 160, 0, 0, [], .null), (160, .iastore, 161, 0, 0, [], .null), (161, .iconst 0, 162, 0, 0, [], .null), (162, .istore_n 2, 163, 0, 0, [], .null), (163, .iload_n 2, 164, 0, 0, [], .null), (164, .aload_n 0, 165, 0, 0, [], .null), (165, .getfield 115, 168, 8, 9, [681], .null), (168, .if_icmp .ge 34, 171, 202, 0, [], .null), (171, .aload_n 0, 172, 0, 0, [], .null), (172, .getfield 41, 175, 8, 15, [687], .null), (175, .iload_n 1, 176, 0, 0, [], .null), (176, .aload_n 0, 177, 0, 0, [], .null), (177, .iload_n 1, 178, 0, 0, [], .null), (178, .iload_n 2, 179, 0, 0, [], .null), (179, .invokevirtual 130, 182, 121, 2, [856, 858, 49, 69], .null), (182, .ifCond .eq 7, 185, 189, 0, [], .null), (185, .iload_n 2, 186, 0, 0, [], .null), (186, .goto 9, 189, 195, 0, [], .null), (189, .aload_n 0, 190, 0, 0, [], .null), (190, .getfield 41, 193, 8, 15, [687], .null), (193, .iload_n 1, 194, 0, 0, [], .null), (194, .iaload, 195, 0, 0, [], .null), (195, .iastore, 196, 0, 0, [], .null), (196, .iinc 2 1, 199, 0, 0, [], .null), (199, .goto (-36), 202, 163, 0, [], .null), (202, .iinc 1 1, 205, 0, 0, [], .null), (205, .goto (-59), 208, 146, 0, [], .null), (208, .iconst 0, 209, 0, 0, [], .null), (209, .istore_n 1, 210, 0, 0, [], .null), (210, .iload_n 1, 211, 0, 0, [], .null), (211, .aload_n 0, 212, 0, 0, [], .null), (212, .getfield 115, 215, 8, 9, [681], .null), (215, .if_icmp .ge 20, 218, 235, 0, [], .null), (218, .aload_n 0, 219, 0, 0, [], .null), (219, .getfield 44, 222, 8, 16, [688], .null), (222, .iload_n 1, 223, 0, 0, [], .null), (223, .aload_n 0, 224, 0, 0, [], .null), (224, .iload_n 1, 225, 0, 0, [], .null), (225, .invokevirtual 134, 228, 122, 1, [864, 866, 51, 69], .null), (228, .iastore, 229, 0, 0, [], .null), (229, .iinc 1 1, 232, 0, 0, [], .null), (232, .goto (-22), 235, 210, 0, [], .null), (235, .return_, 236, 0, 0, [], .null)]
def oX8_isBlock : List (Nat × MOp) := [(0, .aload_n 0, 1, 0, 0, [], .null), (1, .invokevirtual 137, 4, 123, 0, [828, 830, 42, 69], .null), (4, .iload_n 1, 5, 0, 0, [], .null), (5, .iconst 0, 6, 0, 0, [], .null), (6, .aload_n 0, 7, 0, 0, [], .null), (7, .getfield 115, 10, 8, 9, [681], .null), (10, .iconst 1, 11, 0, 0, [], .null), (11, .isub, 12, 0, 0, [], .null), (12, .invokestatic 60, 15, 99, 3, [778, 779, 69], .null), (15, .ireturn, 16, 0, 0, [], .null)]
def oX8_chainCostOf : List (Nat × MOp) := [(0, .iconst 0, 1, 0, 0, [], .null), (1, .istore_n 2, 2, 0, 0, [], .null), (2, .iconst 0, 3, 0, 0, [], .null), (3, .istore_n 3, 4, 0, 0, [], .null), (4, .iload_n 3, 5, 0, 0, [], .null), (5, .aload_n 0, 6, 0, 0, [], .null), (6, .getfield 115, 9, 8, 9, [681], .null), (9, .if_icmp .ge 37, 12, 46, 0, [], .null), (12, .iload_n 2, 13, 0, 0, [], .null), (13, .aload_n 0, 14, 0, 0, [], .null), (14, .getfield 44, 17, 8, 16, [688], .null), (17, .iload_n 3, 18, 0, 0, [], .null), (18, .iaload, 19, 0, 0, [], .null), (19, .aload_n 0, 20, 0, 0, [], .null), (20, .getfield 44, 23, 8, 16, [688], .null), (23, .iload_n 1, 24, 0, 0, [], .null), (24, .iaload, 25, 0, 0, [], .null), (25, .if_icmp .ne 12, 28, 37, 0, [], .null), (28, .aload_n 0, 29, 0, 0, [], .null), (29, .getfield 38, 32, 8, 14, [686], .null), (32, .iload_n 3, 33, 0, 0, [], .null), (33, .iaload, 34, 0, 0, [], .null), (34, .goto 4, 37, 38, 0, [], .null), (37, .iconst 0, 38, 0, 0, [], .null), (38, .iadd, 39, 0, 0, [], .null), (39, .istore_n 2, 40, 0, 0, [], .null), (40, .iinc 3 1, 43, 0, 0, [], .null), (43, .goto (-39), 46, 4, 0, [], .null), (46, .iload_n 2, 47, 0, 0, [], .null), (47, .ireturn, 48, 0, 0, [], .null)]
def oX8_blocks : List (Nat × MOp) := [(0, .aload_n 0, 1, 0, 0, [], .null), (1, .invokevirtual 137, 4, 123, 0, [828, 830, 42, 69], .null), (4, .aload_n 0, 5, 0, 0, [], .null), (5, .getfield 115, 8, 8, 9, [681], .null), (8, .ireturn, 9, 0, 0, [], .null)]
def oX8_blockOf : List (Nat × MOp) := [(0, .aload_n 0, 1, 0, 0, [], .null), (1, .invokevirtual 137, 4, 123, 0, [828, 830, 42, 69], .null), (4, .aload_n 0, 5, 0, 0, [], .null), (5, .iload_n 1, 6, 0, 0, [], .null), (6, .invokevirtual 101, 9, 101, 1, [820, 822, 41, 69], .null), (9, .ifCond .eq 12, 12, 21, 0, [], .null), (12, .aload_n 0, 13, 0, 0, [], .null), (13, .getfield 28, 16, 8, 11, [683], .null), (16, .iload_n 1, 17, 0, 0, [], .null), (17, .iaload, 18, 0, 0, [], .null), (18, .goto 9, 21, 27, 0, [], .null), (21, .aload_n 0, 22, 0, 0, [], .null), (22, .bipush (-2), 24, 0, 0, [], .null), (24, .invokevirtual 67, 27, 100, 1, [770, 772, 35, 69], .null), (27, .ireturn, 28, 0, 0, [], .null)]
def oX8_successors : List (Nat × MOp) := [(0, .aload_n 0, 1, 0, 0, [], .null), (1, .iload_n 1, 2, 0, 0, [], .null), (2, .invokevirtual 140, 5, 124, 1, [876, 878, 52, 69], .null), (5, .ifCond .eq 12, 8, 17, 0, [], .null), (8, .aload_n 0, 9, 0, 0, [], .null), (9, .getfield 31, 12, 8, 12, [684], .null), (12, .iload_n 1, 13, 0, 0, [], .null), (13, .iaload, 14, 0, 0, [], .null), (14, .goto 9, 17, 23, 0, [], .null), (17, .aload_n 0, 18, 0, 0, [], .null), (18, .bipush (-2), 20, 0, 0, [], .null), (20, .invokevirtual 67, 23, 100, 1, [770, 772, 35, 69], .null), (23, .ireturn, 24, 0, 0, [], .null)]
def oX8_blockCost : List (Nat × MOp) := [(0, .aload_n 0, 1, 0, 0, [], .null), (1, .iload_n 1, 2, 0, 0, [], .null), (2, .invokevirtual 140, 5, 124, 1, [876, 878, 52, 69], .null), (5, .ifCond .eq 12, 8, 17, 0, [], .null), (8, .aload_n 0, 9, 0, 0, [], .null), (9, .getfield 38, 12, 8, 14, [686], .null), (12, .iload_n 1, 13, 0, 0, [], .null), (13, .iaload, 14, 0, 0, [], .null), (14, .goto 9, 17, 23, 0, [], .null), (17, .aload_n 0, 18, 0, 0, [], .null), (18, .bipush (-2), 20, 0, 0, [], .null), (20, .invokevirtual 67, 23, 100, 1, [770, 772, 35, 69], .null), (23, .ireturn, 24, 0, 0, [], .null)]
def oX8_chainHead : List (Nat × MOp) := [(0, .aload_n 0, 1, 0, 0, [], .null), (1, .iload_n 1, 2, 0, 0, [], .null), (2, .invokevirtual 140, 5, 124, 1, [876, 878, 52, 69], .null), (5, .ifCond .eq 12, 8, 17, 0, [], .null), (8, .aload_n 0, 9, 0, 0, [], .null), (9, .getfield 44, 12, 8, 16, [688], .null), (12, .iload_n 1, 13, 0, 0, [], .null), (13, .iaload, 14, 0, 0, [], .null), (14, .goto 9, 17, 23, 0, [], .null), (17, .aload_n 0, 18, 0, 0, [], .null), (18, .bipush (-2), 20, 0, 0, [], .null), (20, .invokevirtual 67, 23, 100, 1, [770, 772, 35, 69], .null), (23, .ireturn, 24, 0, 0, [], .null)]
def oX8_chainCost : List (Nat × MOp) := [(0, .aload_n 0, 1, 0, 0, [], .null), (1, .iload_n 1, 2, 0, 0, [], .null), (2, .invokevirtual 140, 5, 124, 1, [876, 878, 52, 69], .null), (5, .ifCond .eq 11, 8, 16, 0, [], .null), (8, .aload_n 0, 9, 0, 0, [], .null), (9, .iload_n 1, 10, 0, 0, [], .null), (10, .invokevirtual 143, 13, 125, 1, [892, 894, 53, 69], .null), (13, .goto 9, 16, 22, 0, [], .null), (16, .aload_n 0, 17, 0, 0, [], .null), (17, .bipush (-2), 19, 0, 0, [], .null), (19, .invokevirtual 67, 22, 100, 1, [770, 772, 35, 69], .null), (22, .ireturn, 23, 0, 0, [], .null)]
def oX8_reachableBlocks : List (Nat × MOp) := [(0, .aload_n 0, 1, 0, 0, [], .null), (1, .invokevirtual 137, 4, 123, 0, [828, 830, 42, 69], .null), (4, .aload_n 0, 5, 0, 0, [], .null), (5, .getfield 115, 8, 8, 9, [681], .null), (8, .ifCond .ne 7, 11, 15, 0, [], .null), (11, .iconst 0, 12, 0, 0, [], .null), (12, .goto 4, 15, 16, 0, [], .null), (15, .iconst 1, 16, 0, 0, [], .null), (16, .istore_n 1, 17, 0, 0, [], .null), (17, .iconst 1, 18, 0, 0, [], .null), (18, .istore_n 2, 19, 0, 0, [], .null), (19, .iload_n 2, 20, 0, 0, [], .null), (20, .ifCond .eq 63, 23, 83, 0, [], .null), (23, .iload_n 1, 24, 0, 0, [], .null), (24, .istore_n 3, 25, 0, 0, [], .null), (25, .iconst 0, 26, 0, 0, [], .null), (26, .istore 4, 28, 0, 0, [], .null), (28, .iload 4, 30, 0, 0, [], .null), (30, .aload_n 0, 31, 0, 0, [], .null), (31, .getfield 115, 34, 8, 9, [681], .null), (34, .if_icmp .ge 33, 37, 67, 0, [], .null), (37, .iload_n 3, 38, 0, 0, [], .null), (38, .iload_n 1, 39, 0, 0, [], .null), (39, .iload 4, 41, 0, 0, [], .null), (41, .ishr, 42, 0, 0, [], .null), (42, .iconst 1, 43, 0, 0, [], .null), (43, .iand, 44, 0, 0, [], .null), (44, .iconst 1, 45, 0, 0, [], .null), (45, .if_icmp .ne 13, 48, 58, 0, [], .null), (48, .aload_n 0, 49, 0, 0, [], .null), (49, .getfield 31, 52, 8, 12, [684], .null), (52, .iload 4, 54, 0, 0, [], .null), (54, .iaload, 55, 0, 0, [], .null), (55, .goto 4, 58, 59, 0, [], .null), (58, .iconst 0, 59, 0, 0, [], .null), (59, .ior, 60, 0, 0, [], .null), (60, .istore_n 3, 61, 0, 0, [], .null), (61, .iinc 4 1, 64, 0, 0, [], .null), (64, .goto (-36), 67, 28, 0, [], .null), (67, .iload_n 3, 68, 0, 0, [], .null), (68, .iload_n 1, 69, 0, 0, [], .null), (69, .if_icmp .eq 7, 72, 76, 0, [], .null), (72, .iconst 1, 73, 0, 0, [], .null), (73, .goto 4, 76, 77, 0, [], .null), (76, .iconst 0, 77, 0, 0, [], .null), (77, .istore_n 2, 78, 0, 0, [], .null), (78, .iload_n 3, 79, 0, 0, [], .null), (79, .istore_n 1, 80, 0, 0, [], .null), (80, .goto (-61), 83, 19, 0, [], .null), (83, .iload_n 1, 84, 0, 0, [], .null), (84, .ireturn, 85, 0, 0, [], .null)]
def oX8_waysGrow : List (Nat × MOp) := [(0, .iconst 0, 1, 0, 0, [], .null), (1, .istore_n 2, 2, 0, 0, [], .null), (2, .iconst 0, 3, 0, 0, [], .null), (3, .istore_n 3, 4, 0, 0, [], .null), (4, .iload_n 3, 5, 0, 0, [], .null), (5, .bipush 24, 7, 0, 0, [], .null), (7, .aload_n 0, 8, 0, 0, [], .null), (8, .getfield 115, 11, 8, 9, [681], .null), (11, .imul, 12, 0, 0, [], .null), (12, .if_icmp .ge 118, 15, 130, 0, [], .null), (15, .iload_n 3, 16, 0, 0, [], .null), (16, .bipush 24, 18, 0, 0, [], .null), (18, .idiv, 19, 0, 0, [], .null), (19, .istore 4, 21, 0, 0, [], .null), (21, .iload_n 3, 22, 0, 0, [], .null), (22, .bipush 24, 24, 0, 0, [], .null), (24, .irem, 25, 0, 0, [], .null), (25, .istore 5, 27, 0, 0, [], .null), (27, .aload_n 0, 28, 0, 0, [], .null), (28, .getfield 47, 31, 8, 17, [689], .null), (31, .iload 4, 33, 0, 0, [], .null), (33, .iaload, 34, 0, 0, [], .null), (34, .iconst (-1), 35, 0, 0, [], .null), (35, .if_icmp .eq 89, 38, 124, 0, [], .null), (38, .aload_n 0, 39, 0, 0, [], .null), (39, .getfield 31, 42, 8, 12, [684], .null), (42, .iload 4, 44, 0, 0, [], .null), (44, .iaload, 45, 0, 0, [], .null), (45, .iload 5, 47, 0, 0, [], .null), (47, .ishr, 48, 0, 0, [], .null), (48, .iconst 1, 49, 0, 0, [], .null), (49, .iand, 50, 0, 0, [], .null), (50, .iconst 1, 51, 0, 0, [], .null), (51, .if_icmp .ne 73, 54, 124, 0, [], .null), (54, .aload_n 0, 55, 0, 0, [], .null), (55, .getfield 47, 58, 8, 17, [689], .null), (58, .iload 4, 60, 0, 0, [], .null), (60, .iaload, 61, 0, 0, [], .null), (61, .aload_n 0, 62, 0, 0, [], .null), (62, .getfield 38, 65, 8, 14, [686], .null), (65, .iload 5, 67, 0, 0, [], .null), (67, .iaload, 68, 0, 0, [], .null), (68, .iadd, 69, 0, 0, [], .null), (69, .istore 6, 71, 0, 0, [], .null), (71, .aload_n 0, 72, 0, 0, [], .null), (72, .getfield 47, 75, 8, 17, [689], .null), (75, .iload 5, 77, 0, 0, [], .null), (77, .iaload, 78, 0, 0, [], .null), (78, .iconst (-1), 79, 0, 0, [], .null), (79, .if_icmp .eq 34, 82, 113, 0, [], .null), (82, .iload_n 1, 83, 0, 0, [], .null), (83, .ifCond .eq 18, 86, 101, 0, [], .null), (86, .iload 6, 88, 0, 0, [], .null), (88, .aload_n 0, 89, 0, 0, [], .null), (89, .getfield 47, 92, 8, 17, [689], .null), (92, .iload 5, 94, 0, 0, [], .null), (94, .iaload, 95, 0, 0, [], .null), (95, .if_icmp .le 29, 98, 124, 0, [], .null), (98, .goto 15, 101, 113, 0, [], .null), (101, .iload 6, 103, 0, 0, [], .null), (103, .aload_n 0, 104, 0, 0, [], .null), (104, .getfield 47, 107, 8, 17, [689], .null), (107, .iload 5, 109, 0, 0, [], .null), (109, .iaload, 110, 0, 0, [], .null), (110, .if_icmp .ge 14, 113, 124, 0, [], .null), (113, .aload_n 0, 114, 0, 0, [], .null), (114, .getfield 47, 117, 8, 17, [689], .null), (117, .iload 5, 119, 0, 0, [], .null), (119, .iload 6, 121, 0, 0, [], .null), (121, .iastore, 122, 0, 0, [], .null), (122, .iconst 1, 123, 0, 0, [], .null), (123, .istore_n 2, 124, 0, 0, [], .null), (124, .iinc 3 1, 127, 0, 0, [], .null), (127, .goto (-123), 130, 4, 0, [], .null), (130, .iload_n 2, 131, 0, 0, [], .null), (131, .ireturn, 132, 0, 0, [], .null)]
def oX8_bestWay : List (Nat × MOp) := [(0, .aload_n 0, 1, 0, 0, [], .null), (1, .invokevirtual 137, 4, 123, 0, [828, 830, 42, 69], .null), (4, .aload_n 0, 5, 0, 0, [], .null), (5, .getfield 115, 8, 8, 9, [681], .null), (8, .ifCond .ne 5, 11, 13, 0, [], .null), (11, .iconst 0, 12, 0, 0, [], .null), (12, .ireturn, 13, 0, 0, [], .null), (13, .iconst 0, 14, 0, 0, [], .null), (14, .istore_n 2, 15, 0, 0, [], .null), (15, .iload_n 2, 16, 0, 0, [], .null), (16, .aload_n 0, 17, 0, 0, [], .null), (17, .getfield 115, 20, 8, 9, [681], .null), (20, .if_icmp .ge 29, 23, 49, 0, [], .null), (23, .aload_n 0, 24, 0, 0, [], .null), (24, .getfield 47, 27, 8, 17, [689], .null), (27, .iload_n 2, 28, 0, 0, [], .null), (28, .iload_n 2, 29, 0, 0, [], .null), (29, .ifCond .ne 12, 32, 41, 0, [], .null), (32, .aload_n 0, 33, 0, 0, [], .null), (33, .getfield 38, 36, 8, 14, [686], .null), (36, .iconst 0, 37, 0, 0, [], .null), (37, .iaload, 38, 0, 0, [], .null), (38, .goto 4, 41, 42, 0, [], .null), (41, .iconst (-1), 42, 0, 0, [], .null), (42, .iastore, 43, 0, 0, [], .null), (43, .iinc 2 1, 46, 0, 0, [], .null), (46, .goto (-31), 49, 15, 0, [], .null), (49, .iconst 0, 50, 0, 0, [], .null), (50, .istore_n 2, 51, 0, 0, [], .null), (51, .aload_n 0, 52, 0, 0, [], .null), (52, .iload_n 1, 53, 0, 0, [], .null), (53, .invokevirtual 146, 56, 133, 1, [908, 910, 55, 69], .null), (56, .ifCond .eq 16, 59, 72, 0, [], .null), (59, .iinc 2 1, 62, 0, 0, [], .null), (62, .iload_n 2, 63, 0, 0, [], .null), (63, .aload_n 0, 64, 0, 0, [], .null), (64, .getfield 115, 67, 8, 9, [681], .null), (67, .if_icmp .le (-16), 70, 51, 0, [], .null), (70, .iconst (-1), 71, 0, 0, [], .null), (71, .ireturn, 72, 0, 0, [], .null), (72, .iconst (-1), 73, 0, 0, [], .null), (73, .istore_n 3, 74, 0, 0, [], .null), (74, .iconst 0, 75, 0, 0, [], .null), (75, .istore 4, 77, 0, 0, [], .null), (77, .iload 4, 79, 0, 0, [], .null), (79, .aload_n 0, 80, 0, 0, [], .null), (80, .getfield 115, 83, 8, 9, [681], .null), (83, .if_icmp .ge 88, 86, 171, 0, [], .null), (86, .aload_n 0, 87, 0, 0, [], .null), (87, .getfield 34, 90, 8, 13, [685], .null), (90, .iload 4, 92, 0, 0, [], .null), (92, .baload, 93, 0, 0, [], .null), (93, .ifCond .eq 52, 96, 145, 0, [], .null), (96, .aload_n 0, 97, 0, 0, [], .null), (97, .getfield 47, 100, 8, 17, [689], .null), (100, .iload 4, 102, 0, 0, [], .null), (102, .iaload, 103, 0, 0, [], .null), (103, .iconst (-1), 104, 0, 0, [], .null), (104, .if_icmp .eq 41, 107, 145, 0, [], .null), (107, .iload_n 3, 108, 0, 0, [], .null), (108, .iconst (-1), 109, 0, 0, [], .null), (109, .if_icmp .eq 32, 112, 141, 0, [], .null), (112, .iload_n 1, 113, 0, 0, [], .null), (113, .ifCond .eq 17, 116, 130, 0, [], .null), (116, .aload_n 0, 117, 0, 0, [], .null), (117, .getfield 47, 120, 8, 17, [689], .null), (120, .iload 4, 122, 0, 0, [], .null), (122, .iaload, 123, 0, 0, [], .null), (123, .iload_n 3, 124, 0, 0, [], .null), (124, .if_icmp .le 21, 127, 145, 0, [], .null), (127, .goto 14, 130, 141, 0, [], .null), (130, .aload_n 0, 131, 0, 0, [], .null), (131, .getfield 47, 134, 8, 17, [689], .null), (134, .iload 4, 136, 0, 0, [], .null), (136, .iaload, 137, 0, 0, [], .null), (137, .iload_n 3, 138, 0, 0, [], .null), (138, .if_icmp .ge 7, 141, 145, 0, [], .null), (141, .iconst 1, 142, 0, 0, [], .null), (142, .goto 4, 145, 146, 0, [], .null), (145, .iconst 0, 146, 0, 0, [], .null), (146, .istore 5, 148, 0, 0, [], .null), (148, .iload 5, 150, 0, 0, [], .null), (150, .ifCond .eq 13, 153, 163, 0, [], .null), (153, .aload_n 0, 154, 0, 0, [], .null), (154, .getfield 47, 157, 8, 17, [689], .null), (157, .iload 4, 159, 0, 0, [], .null), (159, .iaload, 160, 0, 0, [], .null), (160, .goto 4, 163, 164, 0, [], .null), (163, .iload_n 3, 164, 0, 0, [], .null), (164, .istore_n 3, 165, 0, 0, [], .null), (165, .iinc 4 1, 168, 0, 0, [], .null), (168, .goto (-91), 171, 77, 0, [], .null), (171, .iload_n 3, 172, 0, 0, [], .null), (172, .ireturn, 173, 0, 0, [], .null)]
def oX8_greatestCost : List (Nat × MOp) := [(0, .aload_n 0, 1, 0, 0, [], .null), (1, .iconst 1, 2, 0, 0, [], .null), (2, .invokevirtual 150, 5, 134, 1, [904, 906, 54, 69], .null), (5, .ireturn, 6, 0, 0, [], .null)]
def oX8_leastCost : List (Nat × MOp) := [(0, .aload_n 0, 1, 0, 0, [], .null), (1, .iconst 0, 2, 0, 0, [], .null), (2, .invokevirtual 150, 5, 134, 1, [904, 906, 54, 69], .null), (5, .ireturn, 6, 0, 0, [], .null)]
def oX8_does : List (Nat × MOp) := [(0, .aload_n 0, 1, 0, 0, [], .null), (1, .getfield 7, 4, 8, 0, [672], .null), (4, .bipush 25, 6, 0, 0, [], .null), (6, .iload_n 1, 7, 0, 0, [], .null), (7, .iadd, 8, 0, 0, [], .null), (8, .iaload, 9, 0, 0, [], .null), (9, .istore_n 2, 10, 0, 0, [], .null), (10, .aload_n 0, 11, 0, 0, [], .null), (11, .getfield 7, 14, 8, 0, [672], .null), (14, .bipush 49, 16, 0, 0, [], .null), (16, .iload_n 1, 17, 0, 0, [], .null), (17, .iadd, 18, 0, 0, [], .null), (18, .iaload, 19, 0, 0, [], .null), (19, .istore_n 3, 20, 0, 0, [], .null), (20, .aload_n 0, 21, 0, 0, [], .null), (21, .getfield 7, 24, 8, 0, [672], .null), (24, .iconst 1, 25, 0, 0, [], .null), (25, .iload_n 1, 26, 0, 0, [], .null), (26, .iadd, 27, 0, 0, [], .null), (27, .iaload, 28, 0, 0, [], .null), (28, .tableswitch 140 0 6 #[44, 58, 69, 85, 104, 106, 123], 72, 0, 0, [], .null), (72, .aload_n 0, 73, 0, 0, [], .null), (73, .getfield 53, 76, 8, 24, [696], .null), (76, .iload_n 2, 77, 0, 0, [], .null), (77, .dup2, 78, 0, 0, [], .null), (78, .iaload, 79, 0, 0, [], .null), (79, .iload_n 3, 80, 0, 0, [], .null), (80, .iadd, 81, 0, 0, [], .null), (81, .iastore, 82, 0, 0, [], .null), (82, .iload_n 1, 83, 0, 0, [], .null), (83, .iconst 1, 84, 0, 0, [], .null), (84, .iadd, 85, 0, 0, [], .null), (85, .ireturn, 86, 0, 0, [], .null), (86, .aload_n 0, 87, 0, 0, [], .null), (87, .getfield 53, 90, 8, 24, [696], .null), (90, .iload_n 2, 91, 0, 0, [], .null), (91, .iload_n 3, 92, 0, 0, [], .null), (92, .iastore, 93, 0, 0, [], .null), (93, .iload_n 1, 94, 0, 0, [], .null), (94, .iconst 1, 95, 0, 0, [], .null), (95, .iadd, 96, 0, 0, [], .null), (96, .ireturn, 97, 0, 0, [], .null), (97, .aload_n 0, 98, 0, 0, [], .null), (98, .getfield 53, 101, 8, 24, [696], .null), (101, .iload_n 2, 102, 0, 0, [], .null), (102, .aload_n 0, 103, 0, 0, [], .null), (103, .getfield 53, 106, 8, 24, [696], .null), (106, .iload_n 3, 107, 0, 0, [], .null), (107, .iaload, 108, 0, 0, [], .null), (108, .iastore, 109, 0, 0, [], .null), (109, .iload_n 1, 110, 0, 0, [], .null), (110, .iconst 1, 111, 0, 0, [], .null), (111, .iadd, 112, 0, 0, [], .null), (112, .ireturn, 113, 0, 0, [], .null), (113, .aload_n 0, 114, 0, 0, [], .null), (114, .getfield 53, 117, 8, 24, [696], .null), (117, .iload_n 2, 118, 0, 0, [], .null), (118, .dup2, 119, 0, 0, [], .null), (119, .iaload, 120, 0, 0, [], .null), (120, .aload_n 0, 121, 0, 0, [], .null), (121, .getfield 53, 124, 8, 24, [696], .null), (124, .iload_n 3, 125, 0, 0, [], .null), (125, .iaload, 126, 0, 0, [], .null), (126, .isub, 127, 0, 0, [], .null), (127, .iastore, 128, 0, 0, [], .null), (128, .iload_n 1, 129, 0, 0, [], .null), (129, .iconst 1, 130, 0, 0, [], .null), (130, .iadd, 131, 0, 0, [], .null), (131, .ireturn, 132, 0, 0, [], .null), (132, .iload_n 3, 133, 0, 0, [], .null), (133, .ireturn, 134, 0, 0, [], .null), (134, .aload_n 0, 135, 0, 0, [], .null), (135, .getfield 53, 138, 8, 24, [696], .null), (138, .iload_n 2, 139, 0, 0, [], .null), (139, .iaload, 140, 0, 0, [], .null), (140, .ifCond .ne 7, 143, 147, 0, [], .null), (143, .iload_n 3, 144, 0, 0, [], .null), (144, .goto 6, 147, 150, 0, [], .null), (147, .iload_n 1, 148, 0, 0, [], .null), (148, .iconst 1, 149, 0, 0, [], .null), (149, .iadd, 150, 0, 0, [], .null), (150, .ireturn, 151, 0, 0, [], .null), (151, .aload_n 0, 152, 0, 0, [], .null), (152, .getfield 53, 155, 8, 24, [696], .null), (155, .iload_n 2, 156, 0, 0, [], .null), (156, .iaload, 157, 0, 0, [], .null), (157, .ifCond .ge 7, 160, 164, 0, [], .null), (160, .iload_n 3, 161, 0, 0, [], .null), (161, .goto 6, 164, 167, 0, [], .null), (164, .iload_n 1, 165, 0, 0, [], .null), (165, .iconst 1, 166, 0, 0, [], .null), (166, .iadd, 167, 0, 0, [], .null), (167, .ireturn, 168, 0, 0, [], .null), (168, .bipush 24, 170, 0, 0, [], .null), (170, .ireturn, 171, 0, 0, [], .null)]
def oX8_runs : List (Nat × MOp) := [(0, .aload_n 0, 1, 0, 0, [], .null), (1, .invokevirtual 137, 4, 123, 0, [828, 830, 42, 69], .null), (4, .iconst 0, 5, 0, 0, [], .null), (5, .istore_n 3, 6, 0, 0, [], .null), (6, .iload_n 3, 7, 0, 0, [], .null), (7, .iconst 4, 8, 0, 0, [], .null), (8, .if_icmp .ge 16, 11, 24, 0, [], .null), (11, .aload_n 0, 12, 0, 0, [], .null), (12, .getfield 53, 15, 8, 24, [696], .null), (15, .iload_n 3, 16, 0, 0, [], .null), (16, .iconst 0, 17, 0, 0, [], .null), (17, .iastore, 18, 0, 0, [], .null), (18, .iinc 3 1, 21, 0, 0, [], .null), (21, .goto (-15), 24, 6, 0, [], .null), (24, .iconst 0, 25, 0, 0, [], .null), (25, .istore_n 3, 26, 0, 0, [], .null), (26, .iconst 0, 27, 0, 0, [], .null), (27, .istore 4, 29, 0, 0, [], .null), (29, .aload_n 0, 30, 0, 0, [], .null), (30, .iconst (-1), 31, 0, 0, [], .null), (31, .putfield 154, 34, 8, 25, [697], .null), (34, .aload_n 0, 35, 0, 0, [], .null), (35, .iconst 0, 36, 0, 0, [], .null), (36, .putfield 157, 39, 8, 26, [698], .null), (39, .aload_n 0, 40, 0, 0, [], .null), (40, .iload_n 2, 41, 0, 0, [], .null), (41, .putfield 160, 44, 8, 27, [699], .null), (44, .aload_n 0, 45, 0, 0, [], .null), (45, .iconst 0, 46, 0, 0, [], .null), (46, .putfield 163, 49, 8, 28, [700], .null), (49, .aload_n 0, 50, 0, 0, [], .null), (50, .getfield 154, 53, 8, 25, [697], .null), (53, .iconst (-1), 54, 0, 0, [], .null), (54, .if_icmp .ne 261, 57, 315, 0, [], .null), (57, .aload_n 0, 58, 0, 0, [], .null), (58, .iload_n 3, 59, 0, 0, [], .null), (59, .putfield 166, 62, 8, 29, [701], .null), (62, .iload_n 3, 63, 0, 0, [], .null), (63, .aload_n 0, 64, 0, 0, [], .null), (64, .getfield 7, 67, 8, 0, [672], .null), (67, .iconst 0, 68, 0, 0, [], .null), (68, .iaload, 69, 0, 0, [], .null), (69, .if_icmp .lt 11, 72, 80, 0, [], .null), (72, .aload_n 0, 73, 0, 0, [], .null), (73, .iconst 0, 74, 0, 0, [], .null), (74, .putfield 154, 77, 8, 25, [697], .null), (77, .goto (-28), 80, 49, 0, [], .null), (80, .aload_n 0, 81, 0, 0, [], .null), (81, .getfield 157, 84, 8, 26, [698], .null), (84, .sipush 3000, 87, 0, 0, [], .null), (87, .if_icmp .ne 11, 90, 98, 0, [], .null), (90, .aload_n 0, 91, 0, 0, [], .null), (91, .iconst 2, 92, 0, 0, [], .null), (92, .putfield 154, 95, 8, 25, [697], .null), (95, .goto (-46), 98, 49, 0, [], .null), (98, .aload_n 0, 99, 0, 0, [], .null), (99, .getfield 28, 102, 8, 11, [683], .null), (102, .iload_n 3, 103, 0, 0, [], .null), (103, .iaload, 104, 0, 0, [], .null), (104, .istore 5, 106, 0, 0, [], .null), (106, .aload_n 0, 107, 0, 0, [], .null), (107, .getfield 25, 110, 8, 10, [682], .null), (110, .iload 5, 112, 0, 0, [], .null), (112, .iaload, 113, 0, 0, [], .null), (113, .iload_n 3, 114, 0, 0, [], .null), (114, .if_icmp .ne 29, 117, 143, 0, [], .null), (117, .iload_n 1, 118, 0, 0, [], .null), (118, .iconst 1, 119, 0, 0, [], .null), (119, .if_icmp .eq 20, 122, 139, 0, [], .null), (122, .iload_n 1, 123, 0, 0, [], .null), (123, .iconst 2, 124, 0, 0, [], .null), (124, .if_icmp .ne 19, 127, 143, 0, [], .null), (127, .aload_n 0, 128, 0, 0, [], .null), (128, .getfield 44, 131, 8, 16, [688], .null), (131, .iload 5, 133, 0, 0, [], .null), (133, .iaload, 134, 0, 0, [], .null), (134, .iload 5, 136, 0, 0, [], .null), (136, .if_icmp .ne 7, 139, 143, 0, [], .null), (139, .iconst 1, 140, 0, 0, [], .null), (140, .goto 4, 143, 144, 0, [], .null), (143, .iconst 0, 144, 0, 0, [], .null), (144, .istore 6, 146, 0, 0, [], .null), (146, .iload 6, 148, 0, 0, [], .null), (148, .ifCond .eq 81, 151, 229, 0, [], .null), (151, .iload_n 1, 152, 0, 0, [], .null), (152, .iconst 1, 153, 0, 0, [], .null), (153, .if_icmp .ne 13, 156, 166, 0, [], .null), (156, .aload_n 0, 157, 0, 0, [], .null), (157, .getfield 38, 160, 8, 14, [686], .null), (160, .iload 5, 162, 0, 0, [], .null), (162, .iaload, 163, 0, 0, [], .null), (163, .goto 9, 166, 172, 0, [], .null), (166, .aload_n 0, 167, 0, 0, [], .null), (167, .iload 5, 169, 0, 0, [], .null), (169, .invokevirtual 143, 172, 125, 1, [892, 894, 53, 69], .null), (172, .istore 7, 174, 0, 0, [], .null), (174, .aload_n 0, 175, 0, 0, [], .null), (175, .getfield 160, 178, 8, 27, [699], .null), (178, .iload 7, 180, 0, 0, [], .null), (180, .if_icmp .lt 7, 183, 187, 0, [], .null), (183, .iconst 1, 184, 0, 0, [], .null), (184, .goto 4, 187, 188, 0, [], .null), (187, .iconst 0, 188, 0, 0, [], .null), (188, .istore 4, 190, 0, 0, [], .null), (190, .aload_n 0, 191, 0, 0, [], .null), (191, .dup, 192, 0, 0, [], .null), (192, .getfield 160, 195, 8, 27, [699], .null), (195, .iload 4, 197, 0, 0, [], .null), (197, .ifCond .eq 8, 200, 205, 0, [], .null), (200, .iload 7, 202, 0, 0, [], .null), (202, .goto 4, 205, 206, 0, [], .null), (205, .iconst 0, 206, 0, 0, [], .null), (206, .isub, 207, 0, 0, [], .null), (207, .putfield 160, 210, 8, 27, [699], .null), (210, .aload_n 0, 211, 0, 0, [], .null), (211, .dup, 212, 0, 0, [], .null), (212, .getfield 163, 215, 8, 28, [700], .null), (215, .iload 4, 217, 0, 0, [], .null), (217, .ifCond .eq 7, 220, 224, 0, [], .null), (220, .iconst 1, 221, 0, 0, [], .null), (221, .goto 4, 224, 225, 0, [], .null), (224, .iconst 0, 225, 0, 0, [], .null), (225, .iadd, 226, 0, 0, [], .null), (226, .putfield 163, 229, 8, 28, [700], .null), (229, .iload 4, 231, 0, 0, [], .null), (231, .ifCond .ne 23, 234, 254, 0, [], .null), (234, .aload_n 0, 235, 0, 0, [], .null), (235, .getfield 160, 238, 8, 27, [699], .null), (238, .aload_n 0, 239, 0, 0, [], .null), (239, .iload_n 3, 240, 0, 0, [], .null), (240, .invokevirtual 124, 243, 114, 1, [844, 846, 46, 69], .null), (243, .if_icmp .ge 11, 246, 254, 0, [], .null), (246, .aload_n 0, 247, 0, 0, [], .null), (247, .iconst 1, 248, 0, 0, [], .null), (248, .putfield 154, 251, 8, 25, [697], .null), (251, .goto 61, 254, 312, 0, [], .null), (254, .aload_n 0, 255, 0, 0, [], .null), (255, .dup, 256, 0, 0, [], .null), (256, .getfield 160, 259, 8, 27, [699], .null), (259, .iload 4, 261, 0, 0, [], .null), (261, .ifCond .eq 7, 264, 268, 0, [], .null), (264, .iconst 0, 265, 0, 0, [], .null), (265, .goto 8, 268, 273, 0, [], .null), (268, .aload_n 0, 269, 0, 0, [], .null), (269, .iload_n 3, 270, 0, 0, [], .null), (270, .invokevirtual 124, 273, 114, 1, [844, 846, 46, 69], .null), (273, .isub, 274, 0, 0, [], .null), (274, .putfield 160, 277, 8, 27, [699], .null), (277, .aload_n 0, 278, 0, 0, [], .null), (278, .dup, 279, 0, 0, [], .null), (279, .getfield 163, 282, 8, 28, [700], .null), (282, .iload 4, 284, 0, 0, [], .null), (284, .ifCond .eq 7, 287, 291, 0, [], .null), (287, .iconst 0, 288, 0, 0, [], .null), (288, .goto 4, 291, 292, 0, [], .null), (291, .iconst 1, 292, 0, 0, [], .null), (292, .iadd, 293, 0, 0, [], .null), (293, .putfield 163, 296, 8, 28, [700], .null), (296, .aload_n 0, 297, 0, 0, [], .null), (297, .dup, 298, 0, 0, [], .null), (298, .getfield 157, 301, 8, 26, [698], .null), (301, .iconst 1, 302, 0, 0, [], .null), (302, .iadd, 303, 0, 0, [], .null), (303, .putfield 157, 306, 8, 26, [698], .null), (306, .aload_n 0, 307, 0, 0, [], .null), (307, .iload_n 3, 308, 0, 0, [], .null), (308, .invokevirtual 169, 311, 137, 1, [924, 926, 57, 69], .null), (311, .istore_n 3, 312, 0, 0, [], .null), (312, .goto (-263), 315, 49, 0, [], .null), (315, .return_, 316, 0, 0, [], .null)]
def oX8_run : List (Nat × MOp) := [(0, .iload_n 1, 1, 0, 0, [], .null), (1, .iconst 0, 2, 0, 0, [], .null), (2, .iconst 2, 3, 0, 0, [], .null), (3, .invokestatic 60, 6, 99, 3, [778, 779, 69], .null), (6, .ifCond .eq 14, 9, 20, 0, [], .null), (9, .iload_n 2, 10, 0, 0, [], .null), (10, .iconst 0, 11, 0, 0, [], .null), (11, .sipush 30000, 14, 0, 0, [], .null), (14, .invokestatic 60, 17, 99, 3, [778, 779, 69], .null), (17, .ifCond .ne 10, 20, 27, 0, [], .null), (20, .aload_n 0, 21, 0, 0, [], .null), (21, .bipush (-2), 23, 0, 0, [], .null), (23, .invokevirtual 67, 26, 100, 1, [770, 772, 35, 69], .null), (26, .ireturn, 27, 0, 0, [], .null), (27, .aload_n 0, 28, 0, 0, [], .null), (28, .iload_n 1, 29, 0, 0, [], .null), (29, .iload_n 2, 30, 0, 0, [], .null), (30, .invokevirtual 172, 33, 138, 2, [920, 922, 56, 69], .null), (33, .aload_n 0, 34, 0, 0, [], .null), (34, .aload_n 0, 35, 0, 0, [], .null), (35, .getfield 154, 38, 8, 25, [697], .null), (38, .putfield 175, 41, 8, 18, [690], .null), (41, .aload_n 0, 42, 0, 0, [], .null), (42, .aload_n 0, 43, 0, 0, [], .null), (43, .getfield 157, 46, 8, 26, [698], .null), (46, .putfield 178, 49, 8, 19, [691], .null), (49, .aload_n 0, 50, 0, 0, [], .null), (50, .aload_n 0, 51, 0, 0, [], .null), (51, .getfield 160, 54, 8, 27, [699], .null), (54, .putfield 181, 57, 8, 20, [692], .null), (57, .aload_n 0, 58, 0, 0, [], .null), (58, .aload_n 0, 59, 0, 0, [], .null), (59, .getfield 163, 62, 8, 28, [700], .null), (62, .putfield 184, 65, 8, 21, [693], .null), (65, .aload_n 0, 66, 0, 0, [], .null), (66, .aload_n 0, 67, 0, 0, [], .null), (67, .getfield 175, 70, 8, 18, [690], .null), (70, .ifCond .ne 7, 73, 77, 0, [], .null), (73, .iconst (-1), 74, 0, 0, [], .null), (74, .goto 7, 77, 81, 0, [], .null), (77, .aload_n 0, 78, 0, 0, [], .null), (78, .getfield 166, 81, 8, 29, [701], .null), (81, .putfield 56, 84, 8, 22, [694], .null), (84, .iconst 0, 85, 0, 0, [], .null), (85, .istore_n 3, 86, 0, 0, [], .null), (86, .iload_n 3, 87, 0, 0, [], .null), (87, .iconst 4, 88, 0, 0, [], .null), (88, .if_icmp .ge 21, 91, 109, 0, [], .null), (91, .aload_n 0, 92, 0, 0, [], .null), (92, .getfield 50, 95, 8, 23, [695], .null), (95, .iload_n 3, 96, 0, 0, [], .null), (96, .aload_n 0, 97, 0, 0, [], .null), (97, .getfield 53, 100, 8, 24, [696], .null), (100, .iload_n 3, 101, 0, 0, [], .null), (101, .iaload, 102, 0, 0, [], .null), (102, .iastore, 103, 0, 0, [], .null), (103, .iinc 3 1, 106, 0, 0, [], .null), (106, .goto (-20), 109, 86, 0, [], .null), (109, .aload_n 0, 110, 0, 0, [], .null), (110, .getfield 175, 113, 8, 18, [690], .null), (113, .ireturn, 114, 0, 0, [], .null)]
def oX8_steps : List (Nat × MOp) := [(0, .aload_n 0, 1, 0, 0, [], .null), (1, .getfield 178, 4, 8, 19, [691], .null), (4, .ireturn, 5, 0, 0, [], .null)]
def oX8_remaining : List (Nat × MOp) := [(0, .aload_n 0, 1, 0, 0, [], .null), (1, .getfield 181, 4, 8, 20, [692], .null), (4, .ireturn, 5, 0, 0, [], .null)]
def oX8_charges : List (Nat × MOp) := [(0, .aload_n 0, 1, 0, 0, [], .null), (1, .getfield 184, 4, 8, 21, [693], .null), (4, .ireturn, 5, 0, 0, [], .null)]
def oX8_register : List (Nat × MOp) := [(0, .iload_n 1, 1, 0, 0, [], .null), (1, .iconst 0, 2, 0, 0, [], .null), (2, .iconst 3, 3, 0, 0, [], .null), (3, .invokestatic 60, 6, 99, 3, [778, 779, 69], .null), (6, .ifCond .eq 12, 9, 18, 0, [], .null), (9, .aload_n 0, 10, 0, 0, [], .null), (10, .getfield 50, 13, 8, 23, [695], .null), (13, .iload_n 1, 14, 0, 0, [], .null), (14, .iaload, 15, 0, 0, [], .null), (15, .goto 4, 18, 19, 0, [], .null), (18, .iconst 0, 19, 0, 0, [], .null), (19, .ireturn, 20, 0, 0, [], .null)]
def oX8_stoppedAt : List (Nat × MOp) := [(0, .aload_n 0, 1, 0, 0, [], .null), (1, .getfield 56, 4, 8, 22, [694], .null), (4, .ireturn, 5, 0, 0, [], .null)]
def oJxf58ca_isNaN_12338 : List (Nat × MOp) := [(0, .fload_n 0, 1, 0, 0, [], .null), (1, .fload_n 0, 2, 0, 0, [], .null), (2, .fcmp .l, 3, 0, 0, [], .null), (3, .ifCond .eq 7, 6, 10, 0, [], .null), (6, .iconst 1, 7, 0, 0, [], .null), (7, .goto 4, 10, 11, 0, [], .null), (10, .iconst 0, 11, 0, 0, [], .null), (11, .ireturn, 12, 0, 0, [], .null)]
def oJxf58ca_floatToIntBits_5c35a : List (Nat × MOp) := [(0, .fload_n 0, 1, 0, 0, [], .null), (1, .invokestatic 59, 4, 145, 1, [955, 956, 72], .null), (4, .ifCond .ne 8, 7, 12, 0, [], .null), (7, .fload_n 0, 8, 0, 0, [], .null), (8, .invokestatic 74, 11, 0, 0, [958, 960, 959, 72], .int 4), (11, .ireturn, 12, 0, 0, [], .null), (12, .ldc 77, 14, 0, 0, [961], .int 2143289344), (14, .ireturn, 15, 0, 0, [], .null)]
def oX8_chargeRateBits : List (Nat × MOp) := [(0, .aload_n 0, 1, 0, 0, [], .null), (1, .getfield 178, 4, 8, 19, [691], .null), (4, .ifCond .ne 10, 7, 14, 0, [], .null), (7, .fconst 0, 8, 0, 0, [], .null), (8, .invokestatic 187, 11, 146, 1, [952, 953, 72], .null), (11, .goto 17, 14, 28, 0, [], .null), (14, .aload_n 0, 15, 0, 0, [], .null), (15, .getfield 184, 18, 8, 21, [693], .null), (18, .i2f, 19, 0, 0, [], .null), (19, .aload_n 0, 20, 0, 0, [], .null), (20, .getfield 178, 23, 8, 19, [691], .null), (23, .i2f, 24, 0, 0, [], .null), (24, .fdiv, 25, 0, 0, [], .null), (25, .invokestatic 187, 28, 146, 1, [952, 953, 72], .null), (28, .ireturn, 29, 0, 0, [], .null)]
def oX8_neededBudget : List (Nat × MOp) := [(0, .aload_n 0, 1, 0, 0, [], .null), (1, .iconst 0, 2, 0, 0, [], .null), (2, .sipush 30000, 5, 0, 0, [], .null), (5, .invokevirtual 172, 8, 138, 2, [920, 922, 56, 69], .null), (8, .aload_n 0, 9, 0, 0, [], .null), (9, .getfield 154, 12, 8, 25, [697], .null), (12, .ifCond .ne 14, 15, 26, 0, [], .null), (15, .sipush 30000, 18, 0, 0, [], .null), (18, .aload_n 0, 19, 0, 0, [], .null), (19, .getfield 160, 22, 8, 27, [699], .null), (22, .isub, 23, 0, 0, [], .null), (23, .goto 4, 26, 27, 0, [], .null), (26, .iconst (-1), 27, 0, 0, [], .null), (27, .ireturn, 28, 0, 0, [], .null)]
def oX8_errorCount : List (Nat × MOp) := [(0, .iload_n 1, 1, 0, 0, [], .null), (1, .bipush (-4), 3, 0, 0, [], .null), (3, .bipush (-2), 5, 0, 0, [], .null), (5, .invokestatic 60, 8, 99, 3, [778, 779, 69], .null), (8, .ifCond .eq 15, 11, 23, 0, [], .null), (11, .aload_n 0, 12, 0, 0, [], .null), (12, .getfield 19, 15, 8, 4, [676], .null), (15, .bipush (-2), 17, 0, 0, [], .null), (17, .iload_n 1, 18, 0, 0, [], .null), (18, .isub, 19, 0, 0, [], .null), (19, .iaload, 20, 0, 0, [], .null), (20, .goto 9, 23, 29, 0, [], .null), (23, .aload_n 0, 24, 0, 0, [], .null), (24, .bipush (-2), 26, 0, 0, [], .null), (26, .invokevirtual 67, 29, 100, 1, [770, 772, 35, 69], .null), (29, .ireturn, 30, 0, 0, [], .null)]
def oX8_mix : List (Nat × MOp) := [(0, .aload_n 0, 1, 0, 0, [], .null), (1, .ldc2_w 193, 4, 0, 0, [979], .long 31), (4, .aload_n 0, 5, 0, 0, [], .null), (5, .getfield 195, 8, 8, 30, [702], .null), (8, .lmul, 9, 0, 0, [], .null), (9, .iload_n 1, 10, 0, 0, [], .null), (10, .i2l, 11, 0, 0, [], .null), (11, .ladd, 12, 0, 0, [], .null), (12, .putfield 195, 15, 8, 30, [702], .null), (15, .return_, 16, 0, 0, [], .null)]
def oX8_mixBlocks : List (Nat × MOp) := [(0, .aload_n 0, 1, 0, 0, [], .null), (1, .invokevirtual 137, 4, 123, 0, [828, 830, 42, 69], .null), (4, .aload_n 0, 5, 0, 0, [], .null), (5, .aload_n 0, 6, 0, 0, [], .null), (6, .getfield 115, 9, 8, 9, [681], .null), (9, .invokevirtual 199, 12, 150, 1, [975, 977, 58, 69], .null), (12, .iconst 0, 13, 0, 0, [], .null), (13, .istore_n 1, 14, 0, 0, [], .null), (14, .iload_n 1, 15, 0, 0, [], .null), (15, .aload_n 0, 16, 0, 0, [], .null), (16, .getfield 115, 19, 8, 9, [681], .null), (19, .if_icmp .ge 48, 22, 67, 0, [], .null), (22, .aload_n 0, 23, 0, 0, [], .null), (23, .aload_n 0, 24, 0, 0, [], .null), (24, .getfield 31, 27, 8, 12, [684], .null), (27, .iload_n 1, 28, 0, 0, [], .null), (28, .iaload, 29, 0, 0, [], .null), (29, .invokevirtual 199, 32, 150, 1, [975, 977, 58, 69], .null), (32, .aload_n 0, 33, 0, 0, [], .null), (33, .aload_n 0, 34, 0, 0, [], .null), (34, .getfield 38, 37, 8, 14, [686], .null), (37, .iload_n 1, 38, 0, 0, [], .null), (38, .iaload, 39, 0, 0, [], .null), (39, .invokevirtual 199, 42, 150, 1, [975, 977, 58, 69], .null), (42, .aload_n 0, 43, 0, 0, [], .null), (43, .aload_n 0, 44, 0, 0, [], .null), (44, .getfield 44, 47, 8, 16, [688], .null), (47, .iload_n 1, 48, 0, 0, [], .null), (48, .iaload, 49, 0, 0, [], .null), (49, .invokevirtual 199, 52, 150, 1, [975, 977, 58, 69], .null), (52, .aload_n 0, 53, 0, 0, [], .null), (53, .aload_n 0, 54, 0, 0, [], .null), (54, .iload_n 1, 55, 0, 0, [], .null), (55, .invokevirtual 143, 58, 125, 1, [892, 894, 53, 69], .null), (58, .invokevirtual 199, 61, 150, 1, [975, 977, 58, 69], .null), (61, .iinc 1 1, 64, 0, 0, [], .null), (64, .goto (-50), 67, 14, 0, [], .null), (67, .return_, 68, 0, 0, [], .null)]
def oX8_mixRun : List (Nat × MOp) := [(0, .aload_n 0, 1, 0, 0, [], .null), (1, .aload_n 0, 2, 0, 0, [], .null), (2, .getfield 175, 5, 8, 18, [690], .null), (5, .invokevirtual 199, 8, 150, 1, [975, 977, 58, 69], .null), (8, .aload_n 0, 9, 0, 0, [], .null), (9, .aload_n 0, 10, 0, 0, [], .null), (10, .getfield 178, 13, 8, 19, [691], .null), (13, .invokevirtual 199, 16, 150, 1, [975, 977, 58, 69], .null), (16, .aload_n 0, 17, 0, 0, [], .null), (17, .aload_n 0, 18, 0, 0, [], .null), (18, .getfield 181, 21, 8, 20, [692], .null), (21, .invokevirtual 199, 24, 150, 1, [975, 977, 58, 69], .null), (24, .aload_n 0, 25, 0, 0, [], .null), (25, .aload_n 0, 26, 0, 0, [], .null), (26, .getfield 184, 29, 8, 21, [693], .null), (29, .invokevirtual 199, 32, 150, 1, [975, 977, 58, 69], .null), (32, .iconst 0, 33, 0, 0, [], .null), (33, .istore_n 1, 34, 0, 0, [], .null), (34, .iload_n 1, 35, 0, 0, [], .null), (35, .iconst 4, 36, 0, 0, [], .null), (36, .if_icmp .ge 19, 39, 55, 0, [], .null), (39, .aload_n 0, 40, 0, 0, [], .null), (40, .aload_n 0, 41, 0, 0, [], .null), (41, .getfield 50, 44, 8, 23, [695], .null), (44, .iload_n 1, 45, 0, 0, [], .null), (45, .iaload, 46, 0, 0, [], .null), (46, .invokevirtual 199, 49, 150, 1, [975, 977, 58, 69], .null), (49, .iinc 1 1, 52, 0, 0, [], .null), (52, .goto (-18), 55, 34, 0, [], .null), (55, .aload_n 0, 56, 0, 0, [], .null), (56, .aload_n 0, 57, 0, 0, [], .null), (57, .getfield 56, 60, 8, 22, [694], .null), (60, .invokevirtual 199, 63, 150, 1, [975, 977, 58, 69], .null), (63, .return_, 64, 0, 0, [], .null)]
def oX8_digest : List (Nat × MOp) := [(0, .aload_n 0, 1, 0, 0, [], .null), (1, .ldc2_w 203, 4, 0, 0, [974], .long 2663), (4, .putfield 195, 7, 8, 30, [702], .null), (7, .iconst 0, 8, 0, 0, [], .null), (8, .istore_n 1, 9, 0, 0, [], .null), (9, .iload_n 1, 10, 0, 0, [], .null), (10, .iconst 3, 11, 0, 0, [], .null), (11, .if_icmp .ge 19, 14, 30, 0, [], .null), (14, .aload_n 0, 15, 0, 0, [], .null), (15, .aload_n 0, 16, 0, 0, [], .null), (16, .getfield 19, 19, 8, 4, [676], .null), (19, .iload_n 1, 20, 0, 0, [], .null), (20, .iaload, 21, 0, 0, [], .null), (21, .invokevirtual 199, 24, 150, 1, [975, 977, 58, 69], .null), (24, .iinc 1 1, 27, 0, 0, [], .null), (27, .goto (-18), 30, 9, 0, [], .null), (30, .aload_n 0, 31, 0, 0, [], .null), (31, .aload_n 0, 32, 0, 0, [], .null), (32, .getfield 71, 35, 8, 6, [678], .null), (35, .invokevirtual 199, 38, 150, 1, [975, 977, 58, 69], .null), (38, .iconst 0, 39, 0, 0, [], .null), (39, .istore_n 1, 40, 0, 0, [], .null), (40, .iload_n 1, 41, 0, 0, [], .null), (41, .bipush 8, 43, 0, 0, [], .null), (43, .if_icmp .ge 22, 46, 65, 0, [], .null), (46, .aload_n 0, 47, 0, 0, [], .null), (47, .aload_n 0, 48, 0, 0, [], .null), (48, .getfield 7, 51, 8, 0, [672], .null), (51, .bipush 73, 53, 0, 0, [], .null), (53, .iload_n 1, 54, 0, 0, [], .null), (54, .iadd, 55, 0, 0, [], .null), (55, .iaload, 56, 0, 0, [], .null), (56, .invokevirtual 199, 59, 150, 1, [975, 977, 58, 69], .null), (59, .iinc 1 1, 62, 0, 0, [], .null), (62, .goto (-22), 65, 40, 0, [], .null), (65, .aload_n 0, 66, 0, 0, [], .null), (66, .aload_n 0, 67, 0, 0, [], .null), (67, .getfield 7, 70, 8, 0, [672], .null), (70, .iconst 0, 71, 0, 0, [], .null), (71, .iaload, 72, 0, 0, [], .null), (72, .invokevirtual 199, 75, 150, 1, [975, 977, 58, 69], .null), (75, .iconst 0, 76, 0, 0, [], .null), (76, .istore_n 1, 77, 0, 0, [], .null), (77, .iload_n 1, 78, 0, 0, [], .null), (78, .aload_n 0, 79, 0, 0, [], .null), (79, .getfield 7, 82, 8, 0, [672], .null), (82, .iconst 0, 83, 0, 0, [], .null), (83, .iaload, 84, 0, 0, [], .null), (84, .if_icmp .ge 21, 87, 105, 0, [], .null), (87, .aload_n 0, 88, 0, 0, [], .null), (88, .aload_n 0, 89, 0, 0, [], .null), (89, .getfield 7, 92, 8, 0, [672], .null), (92, .iconst 1, 93, 0, 0, [], .null), (93, .iload_n 1, 94, 0, 0, [], .null), (94, .iadd, 95, 0, 0, [], .null), (95, .iaload, 96, 0, 0, [], .null), (96, .invokevirtual 199, 99, 150, 1, [975, 977, 58, 69], .null), (99, .iinc 1 1, 102, 0, 0, [], .null), (102, .goto (-25), 105, 77, 0, [], .null), (105, .aload_n 0, 106, 0, 0, [], .null), (106, .invokevirtual 205, 109, 151, 0, [980, 982, 59, 69], .null), (109, .aload_n 0, 110, 0, 0, [], .null), (110, .aload_n 0, 111, 0, 0, [], .null), (111, .invokevirtual 208, 114, 132, 0, [984, 897, 898, 69], .null), (114, .invokevirtual 199, 117, 150, 1, [975, 977, 58, 69], .null), (117, .aload_n 0, 118, 0, 0, [], .null), (118, .aload_n 0, 119, 0, 0, [], .null), (119, .invokevirtual 211, 122, 135, 0, [985, 901, 902, 69], .null), (122, .invokevirtual 199, 125, 150, 1, [975, 977, 58, 69], .null), (125, .aload_n 0, 126, 0, 0, [], .null), (126, .aload_n 0, 127, 0, 0, [], .null), (127, .invokevirtual 214, 130, 136, 0, [986, 913, 914, 69], .null), (130, .invokevirtual 199, 133, 150, 1, [975, 977, 58, 69], .null), (133, .aload_n 0, 134, 0, 0, [], .null), (134, .invokevirtual 217, 137, 152, 0, [987, 989, 60, 69], .null), (137, .aload_n 0, 138, 0, 0, [], .null), (138, .aload_n 0, 139, 0, 0, [], .null), (139, .getfield 64, 142, 8, 3, [675], .null), (142, .invokevirtual 199, 145, 150, 1, [975, 977, 58, 69], .null), (145, .aload_n 0, 146, 0, 0, [], .null), (146, .getfield 195, 149, 8, 30, [702], .null), (149, .lreturn, 150, 0, 0, [], .null)]
def oL_law : List (Nat × MOp) := [(0, .new 7, 3, 7, 0, [73, 74, 62], .null), (3, .dup, 4, 0, 0, [], .null), (4, .invokespecial 9, 7, 64, 0, [75, 76, 62], .null), (7, .astore_n 1, 8, 0, 0, [], .null), (8, .new 10, 11, 8, 0, [666, 667, 69], .null), (11, .dup, 12, 0, 0, [], .null), (12, .invokespecial 12, 15, 98, 0, [668, 669, 69], .null), (15, .astore_n 2, 16, 0, 0, [], .null), (16, .iconst 0, 17, 0, 0, [], .null), (17, .istore_n 3, 18, 0, 0, [], .null), (18, .iload_n 3, 19, 0, 0, [], .null), (19, .aload_n 0, 20, 0, 0, [], .null), (20, .arraylength, 21, 0, 0, [], .null), (21, .iconst 3, 22, 0, 0, [], .null), (22, .isub, 23, 0, 0, [], .null), (23, .if_icmp .gt 587, 26, 610, 0, [], .null), (26, .aload_n 0, 27, 0, 0, [], .null), (27, .iload_n 3, 28, 0, 0, [], .null), (28, .iaload, 29, 0, 0, [], .null), (29, .bipush 31, 31, 0, 0, [], .null), (31, .iand, 32, 0, 0, [], .null), (32, .tableswitch 572 0 24 #[116, 139, 152, 165, 198, 221, 234, 257, 280, 303, 326, 349, 362, 375, 388, 421, 434, 447, 460, 483, 496, 509, 522, 535, 558], 148, 0, 0, [], .null), (148, .aload_n 1, 149, 0, 0, [], .null), (149, .aload_n 0, 150, 0, 0, [], .null), (150, .iload_n 3, 151, 0, 0, [], .null), (151, .iconst 1, 152, 0, 0, [], .null), (152, .iadd, 153, 0, 0, [], .null), (153, .iaload, 154, 0, 0, [], .null), (154, .invokevirtual 13, 157, 67, 1, [307, 308, 309, 62], .null), (157, .aload_n 2, 158, 0, 0, [], .null), (158, .aload_n 0, 159, 0, 0, [], .null), (159, .iload_n 3, 160, 0, 0, [], .null), (160, .iconst 1, 161, 0, 0, [], .null), (161, .iadd, 162, 0, 0, [], .null), (162, .iaload, 163, 0, 0, [], .null), (163, .invokevirtual 17, 166, 104, 1, [774, 775, 776, 69], .null), (166, .if_icmp .eq 438, 169, 604, 0, [], .null), (169, .iconst 0, 170, 0, 0, [], .null), (170, .ireturn, 171, 0, 0, [], .null), (171, .aload_n 1, 172, 0, 0, [], .null), (172, .invokevirtual 18, 175, 68, 0, [322, 323, 324, 62], .null), (175, .aload_n 2, 176, 0, 0, [], .null), (176, .invokevirtual 22, 179, 105, 0, [781, 782, 783, 69], .null), (179, .if_icmp .eq 425, 182, 604, 0, [], .null), (182, .iconst 0, 183, 0, 0, [], .null), (183, .ireturn, 184, 0, 0, [], .null), (184, .aload_n 1, 185, 0, 0, [], .null), (185, .invokevirtual 23, 188, 70, 0, [326, 327, 328, 62], .null), (188, .aload_n 2, 189, 0, 0, [], .null), (189, .invokevirtual 26, 192, 111, 0, [785, 786, 787, 69], .null), (192, .if_icmp .eq 412, 195, 604, 0, [], .null), (195, .iconst 0, 196, 0, 0, [], .null), (196, .ireturn, 197, 0, 0, [], .null), (197, .aload_n 1, 198, 0, 0, [], .null), (198, .aload_n 0, 199, 0, 0, [], .null), (199, .iload_n 3, 200, 0, 0, [], .null), (200, .iconst 1, 201, 0, 0, [], .null), (201, .iadd, 202, 0, 0, [], .null), (202, .iaload, 203, 0, 0, [], .null), (203, .aload_n 0, 204, 0, 0, [], .null), (204, .iload_n 3, 205, 0, 0, [], .null), (205, .iconst 2, 206, 0, 0, [], .null), (206, .iadd, 207, 0, 0, [], .null), (207, .iaload, 208, 0, 0, [], .null), (208, .invokevirtual 27, 211, 71, 2, [517, 518, 519, 62], .null), (211, .aload_n 2, 212, 0, 0, [], .null), (212, .aload_n 0, 213, 0, 0, [], .null), (213, .iload_n 3, 214, 0, 0, [], .null), (214, .iconst 1, 215, 0, 0, [], .null), (215, .iadd, 216, 0, 0, [], .null), (216, .iaload, 217, 0, 0, [], .null), (217, .aload_n 0, 218, 0, 0, [], .null), (218, .iload_n 3, 219, 0, 0, [], .null), (219, .iconst 2, 220, 0, 0, [], .null), (220, .iadd, 221, 0, 0, [], .null), (221, .iaload, 222, 0, 0, [], .null), (222, .invokevirtual 31, 225, 112, 2, [812, 813, 814, 69], .null), (225, .if_icmp .eq 379, 228, 604, 0, [], .null), (228, .iconst 0, 229, 0, 0, [], .null), (229, .ireturn, 230, 0, 0, [], .null), (230, .aload_n 1, 231, 0, 0, [], .null), (231, .aload_n 0, 232, 0, 0, [], .null), (232, .iload_n 3, 233, 0, 0, [], .null), (233, .iconst 1, 234, 0, 0, [], .null), (234, .iadd, 235, 0, 0, [], .null), (235, .iaload, 236, 0, 0, [], .null), (236, .invokevirtual 32, 239, 72, 1, [521, 522, 523, 62], .null), (239, .aload_n 2, 240, 0, 0, [], .null), (240, .aload_n 0, 241, 0, 0, [], .null), (241, .iload_n 3, 242, 0, 0, [], .null), (242, .iconst 1, 243, 0, 0, [], .null), (243, .iadd, 244, 0, 0, [], .null), (244, .iaload, 245, 0, 0, [], .null), (245, .invokevirtual 35, 248, 113, 1, [816, 817, 818, 69], .null), (248, .if_icmp .eq 356, 251, 604, 0, [], .null), (251, .iconst 0, 252, 0, 0, [], .null), (252, .ireturn, 253, 0, 0, [], .null), (253, .aload_n 1, 254, 0, 0, [], .null), (254, .invokevirtual 36, 257, 73, 0, [526, 527, 528, 62], .null), (257, .aload_n 2, 258, 0, 0, [], .null), (258, .invokevirtual 39, 261, 126, 0, [824, 825, 826, 69], .null), (261, .if_icmp .eq 343, 264, 604, 0, [], .null), (264, .iconst 0, 265, 0, 0, [], .null), (265, .ireturn, 266, 0, 0, [], .null), (266, .aload_n 1, 267, 0, 0, [], .null), (267, .aload_n 0, 268, 0, 0, [], .null), (268, .iload_n 3, 269, 0, 0, [], .null), (269, .iconst 1, 270, 0, 0, [], .null), (270, .iadd, 271, 0, 0, [], .null), (271, .iaload, 272, 0, 0, [], .null), (272, .invokevirtual 40, 275, 74, 1, [530, 531, 532, 62], .null), (275, .aload_n 2, 276, 0, 0, [], .null), (276, .aload_n 0, 277, 0, 0, [], .null), (277, .iload_n 3, 278, 0, 0, [], .null), (278, .iconst 1, 279, 0, 0, [], .null), (279, .iadd, 280, 0, 0, [], .null), (280, .iaload, 281, 0, 0, [], .null), (281, .invokevirtual 43, 284, 127, 1, [868, 869, 870, 69], .null), (284, .if_icmp .eq 320, 287, 604, 0, [], .null), (287, .iconst 0, 288, 0, 0, [], .null), (288, .ireturn, 289, 0, 0, [], .null), (289, .aload_n 1, 290, 0, 0, [], .null), (290, .aload_n 0, 291, 0, 0, [], .null), (291, .iload_n 3, 292, 0, 0, [], .null), (292, .iconst 1, 293, 0, 0, [], .null), (293, .iadd, 294, 0, 0, [], .null), (294, .iaload, 295, 0, 0, [], .null), (295, .invokevirtual 44, 298, 75, 1, [534, 535, 536, 62], .null), (298, .aload_n 2, 299, 0, 0, [], .null), (299, .aload_n 0, 300, 0, 0, [], .null), (300, .iload_n 3, 301, 0, 0, [], .null), (301, .iconst 1, 302, 0, 0, [], .null), (302, .iadd, 303, 0, 0, [], .null), (303, .iaload, 304, 0, 0, [], .null), (304, .invokevirtual 47, 307, 128, 1, [872, 873, 874, 69], .null), (307, .if_icmp .eq 297, 310, 604, 0, [], .null), (310, .iconst 0, 311, 0, 0, [], .null), (311, .ireturn, 312, 0, 0, [], .null), (312, .aload_n 1, 313, 0, 0, [], .null), (313, .aload_n 0, 314, 0, 0, [], .null), (314, .iload_n 3, 315, 0, 0, [], .null), (315, .iconst 1, 316, 0, 0, [], .null), (316, .iadd, 317, 0, 0, [], .null), (317, .iaload, 318, 0, 0, [], .null), (318, .invokevirtual 48, 321, 76, 1, [539, 540, 541, 62], .null), (321, .aload_n 2, 322, 0, 0, [], .null), (322, .aload_n 0, 323, 0, 0, [], .null), (323, .iload_n 3, 324, 0, 0, [], .null), (324, .iconst 1, 325, 0, 0, [], .null), (325, .iadd, 326, 0, 0, [], .null), (326, .iaload, 327, 0, 0, [], .null), (327, .invokevirtual 51, 330, 129, 1, [880, 881, 882, 69], .null), (330, .if_icmp .eq 274, 333, 604, 0, [], .null), (333, .iconst 0, 334, 0, 0, [], .null), (334, .ireturn, 335, 0, 0, [], .null), (335, .aload_n 1, 336, 0, 0, [], .null), (336, .aload_n 0, 337, 0, 0, [], .null), (337, .iload_n 3, 338, 0, 0, [], .null), (338, .iconst 1, 339, 0, 0, [], .null), (339, .iadd, 340, 0, 0, [], .null), (340, .iaload, 341, 0, 0, [], .null), (341, .invokevirtual 52, 344, 77, 1, [543, 544, 545, 62], .null), (344, .aload_n 2, 345, 0, 0, [], .null), (345, .aload_n 0, 346, 0, 0, [], .null), (346, .iload_n 3, 347, 0, 0, [], .null), (347, .iconst 1, 348, 0, 0, [], .null), (348, .iadd, 349, 0, 0, [], .null), (349, .iaload, 350, 0, 0, [], .null), (350, .invokevirtual 55, 353, 130, 1, [884, 885, 886, 69], .null), (353, .if_icmp .eq 251, 356, 604, 0, [], .null), (356, .iconst 0, 357, 0, 0, [], .null), (357, .ireturn, 358, 0, 0, [], .null), (358, .aload_n 1, 359, 0, 0, [], .null), (359, .aload_n 0, 360, 0, 0, [], .null), (360, .iload_n 3, 361, 0, 0, [], .null), (361, .iconst 1, 362, 0, 0, [], .null), (362, .iadd, 363, 0, 0, [], .null), (363, .iaload, 364, 0, 0, [], .null), (364, .invokevirtual 56, 367, 78, 1, [547, 548, 549, 62], .null), (367, .aload_n 2, 368, 0, 0, [], .null), (368, .aload_n 0, 369, 0, 0, [], .null), (369, .iload_n 3, 370, 0, 0, [], .null), (370, .iconst 1, 371, 0, 0, [], .null), (371, .iadd, 372, 0, 0, [], .null), (372, .iaload, 373, 0, 0, [], .null), (373, .invokevirtual 59, 376, 131, 1, [888, 889, 890, 69], .null), (376, .if_icmp .eq 228, 379, 604, 0, [], .null), (379, .iconst 0, 380, 0, 0, [], .null), (380, .ireturn, 381, 0, 0, [], .null), (381, .aload_n 1, 382, 0, 0, [], .null), (382, .invokevirtual 60, 385, 79, 0, [551, 552, 553, 62], .null), (385, .aload_n 2, 386, 0, 0, [], .null), (386, .invokevirtual 63, 389, 132, 0, [896, 897, 898, 69], .null), (389, .if_icmp .eq 215, 392, 604, 0, [], .null), (392, .iconst 0, 393, 0, 0, [], .null), (393, .ireturn, 394, 0, 0, [], .null), (394, .aload_n 1, 395, 0, 0, [], .null), (395, .invokevirtual 64, 398, 80, 0, [555, 556, 557, 62], .null), (398, .aload_n 2, 399, 0, 0, [], .null), (399, .invokevirtual 67, 402, 135, 0, [900, 901, 902, 69], .null), (402, .if_icmp .eq 202, 405, 604, 0, [], .null), (405, .iconst 0, 406, 0, 0, [], .null), (406, .ireturn, 407, 0, 0, [], .null), (407, .aload_n 1, 408, 0, 0, [], .null), (408, .invokevirtual 68, 411, 81, 0, [559, 560, 561, 62], .null), (411, .aload_n 2, 412, 0, 0, [], .null), (412, .invokevirtual 71, 415, 136, 0, [912, 913, 914, 69], .null), (415, .if_icmp .eq 189, 418, 604, 0, [], .null), (418, .iconst 0, 419, 0, 0, [], .null), (419, .ireturn, 420, 0, 0, [], .null), (420, .aload_n 1, 421, 0, 0, [], .null), (421, .aload_n 0, 422, 0, 0, [], .null), (422, .iload_n 3, 423, 0, 0, [], .null), (423, .iconst 1, 424, 0, 0, [], .null), (424, .iadd, 425, 0, 0, [], .null), (425, .iaload, 426, 0, 0, [], .null), (426, .aload_n 0, 427, 0, 0, [], .null), (427, .iload_n 3, 428, 0, 0, [], .null), (428, .iconst 2, 429, 0, 0, [], .null), (429, .iadd, 430, 0, 0, [], .null), (430, .iaload, 431, 0, 0, [], .null), (431, .invokevirtual 72, 434, 82, 2, [563, 564, 565, 62], .null), (434, .aload_n 2, 435, 0, 0, [], .null), (435, .aload_n 0, 436, 0, 0, [], .null), (436, .iload_n 3, 437, 0, 0, [], .null), (437, .iconst 1, 438, 0, 0, [], .null), (438, .iadd, 439, 0, 0, [], .null), (439, .iaload, 440, 0, 0, [], .null), (440, .aload_n 0, 441, 0, 0, [], .null), (441, .iload_n 3, 442, 0, 0, [], .null), (442, .iconst 2, 443, 0, 0, [], .null), (443, .iadd, 444, 0, 0, [], .null), (444, .iaload, 445, 0, 0, [], .null), (445, .invokevirtual 75, 448, 139, 2, [916, 917, 918, 69], .null), (448, .if_icmp .eq 156, 451, 604, 0, [], .null), (451, .iconst 0, 452, 0, 0, [], .null), (452, .ireturn, 453, 0, 0, [], .null), (453, .aload_n 1, 454, 0, 0, [], .null), (454, .invokevirtual 76, 457, 83, 0, [600, 601, 602, 62], .null), (457, .aload_n 2, 458, 0, 0, [], .null), (458, .invokevirtual 79, 461, 140, 0, [928, 929, 930, 69], .null), (461, .if_icmp .eq 143, 464, 604, 0, [], .null), (464, .iconst 0, 465, 0, 0, [], .null), (465, .ireturn, 466, 0, 0, [], .null), (466, .aload_n 1, 467, 0, 0, [], .null), (467, .invokevirtual 80, 470, 84, 0, [604, 605, 606, 62], .null), (470, .aload_n 2, 471, 0, 0, [], .null), (471, .invokevirtual 83, 474, 141, 0, [932, 933, 934, 69], .null), (474, .if_icmp .eq 130, 477, 604, 0, [], .null), (477, .iconst 0, 478, 0, 0, [], .null), (478, .ireturn, 479, 0, 0, [], .null), (479, .aload_n 1, 480, 0, 0, [], .null), (480, .invokevirtual 84, 483, 85, 0, [608, 609, 610, 62], .null), (483, .aload_n 2, 484, 0, 0, [], .null), (484, .invokevirtual 87, 487, 142, 0, [936, 937, 938, 69], .null), (487, .if_icmp .eq 117, 490, 604, 0, [], .null), (490, .iconst 0, 491, 0, 0, [], .null), (491, .ireturn, 492, 0, 0, [], .null), (492, .aload_n 1, 493, 0, 0, [], .null), (493, .aload_n 0, 494, 0, 0, [], .null), (494, .iload_n 3, 495, 0, 0, [], .null), (495, .iconst 1, 496, 0, 0, [], .null), (496, .iadd, 497, 0, 0, [], .null), (497, .iaload, 498, 0, 0, [], .null), (498, .invokevirtual 88, 501, 86, 1, [612, 613, 614, 62], .null), (501, .aload_n 2, 502, 0, 0, [], .null), (502, .aload_n 0, 503, 0, 0, [], .null), (503, .iload_n 3, 504, 0, 0, [], .null), (504, .iconst 1, 505, 0, 0, [], .null), (505, .iadd, 506, 0, 0, [], .null), (506, .iaload, 507, 0, 0, [], .null), (507, .invokevirtual 91, 510, 143, 1, [940, 941, 942, 69], .null), (510, .if_icmp .eq 94, 513, 604, 0, [], .null), (513, .iconst 0, 514, 0, 0, [], .null), (514, .ireturn, 515, 0, 0, [], .null), (515, .aload_n 1, 516, 0, 0, [], .null), (516, .invokevirtual 92, 519, 87, 0, [617, 618, 619, 62], .null), (519, .aload_n 2, 520, 0, 0, [], .null), (520, .invokevirtual 95, 523, 144, 0, [944, 945, 946, 69], .null), (523, .if_icmp .eq 81, 526, 604, 0, [], .null), (526, .iconst 0, 527, 0, 0, [], .null), (527, .ireturn, 528, 0, 0, [], .null), (528, .aload_n 1, 529, 0, 0, [], .null), (529, .invokevirtual 96, 532, 89, 0, [621, 622, 623, 62], .null), (532, .aload_n 2, 533, 0, 0, [], .null), (533, .invokevirtual 99, 536, 147, 0, [948, 949, 950, 69], .null), (536, .if_icmp .eq 68, 539, 604, 0, [], .null), (539, .iconst 0, 540, 0, 0, [], .null), (540, .ireturn, 541, 0, 0, [], .null), (541, .aload_n 1, 542, 0, 0, [], .null), (542, .invokevirtual 100, 545, 90, 0, [629, 630, 631, 62], .null), (545, .aload_n 2, 546, 0, 0, [], .null), (546, .invokevirtual 103, 549, 148, 0, [962, 963, 964, 69], .null), (549, .if_icmp .eq 55, 552, 604, 0, [], .null), (552, .iconst 0, 553, 0, 0, [], .null), (553, .ireturn, 554, 0, 0, [], .null), (554, .aload_n 1, 555, 0, 0, [], .null), (555, .invokevirtual 104, 558, 91, 0, [633, 634, 635, 62], .null), (558, .aload_n 2, 559, 0, 0, [], .null), (559, .invokevirtual 107, 562, 103, 0, [766, 767, 768, 69], .null), (562, .if_icmp .eq 42, 565, 604, 0, [], .null), (565, .iconst 0, 566, 0, 0, [], .null), (566, .ireturn, 567, 0, 0, [], .null), (567, .aload_n 1, 568, 0, 0, [], .null), (568, .aload_n 0, 569, 0, 0, [], .null), (569, .iload_n 3, 570, 0, 0, [], .null), (570, .iconst 1, 571, 0, 0, [], .null), (571, .iadd, 572, 0, 0, [], .null), (572, .iaload, 573, 0, 0, [], .null), (573, .invokevirtual 108, 576, 92, 1, [641, 642, 643, 62], .null), (576, .aload_n 2, 577, 0, 0, [], .null), (577, .aload_n 0, 578, 0, 0, [], .null), (578, .iload_n 3, 579, 0, 0, [], .null), (579, .iconst 1, 580, 0, 0, [], .null), (580, .iadd, 581, 0, 0, [], .null), (581, .iaload, 582, 0, 0, [], .null), (582, .invokevirtual 111, 585, 149, 1, [966, 967, 968, 69], .null), (585, .if_icmp .eq 19, 588, 604, 0, [], .null), (588, .iconst 0, 589, 0, 0, [], .null), (589, .ireturn, 590, 0, 0, [], .null), (590, .aload_n 1, 591, 0, 0, [], .null), (591, .invokevirtual 112, 594, 97, 0, [645, 646, 647, 62], .null), (594, .aload_n 2, 595, 0, 0, [], .null), (595, .invokevirtual 116, 598, 153, 0, [970, 971, 972, 69], .null), (598, .lcmp, 599, 0, 0, [], .null), (599, .ifCond .eq 5, 602, 604, 0, [], .null), (602, .iconst 0, 603, 0, 0, [], .null), (603, .ireturn, 604, 0, 0, [], .null), (604, .iinc 3 3, 607, 0, 0, [], .null), (607, .goto (-589), 610, 18, 0, [], .null), (610, .iconst 1, 611, 0, 0, [], .null), (611, .ireturn, 612, 0, 0, [], .null)]
def METHS : List MRow := [(yX5_has, cX5_has, 2, (some .boolean), 0, 0, oX5_has),
  (yX5_has, cX5_has, 2, (some .boolean), 0, 0, oX5_has),
  (yX6_current, cX6_current, 1, (some .int), 0, 0, oX6_current),
  (yX6_skipSpaces, cX6_skipSpaces, 1, none, 1, 20, oX6_skipSpaces),
  (yX6_atEnd, cX6_atEnd, 1, (some .boolean), 1, 20, oX6_atEnd),
  (yX6_opcodeOf, cX6_opcodeOf, 1, (some .int), 0, 0, oX6_opcodeOf),
  (yX6_isDigit, cX6_isDigit, 1, (some .boolean), 0, 0, oX6_isDigit),
  (yX6_readNumber, cX6_readNumber, 7, (some .int), 2, 40, oX6_readNumber),
  (yX6_greatestOperand, cX6_greatestOperand, 1, (some .int), 0, 0, oX6_greatestOperand),
  (yX6_readSemicolon, cX6_readSemicolon, 1, none, 2, 40, oX6_readSemicolon),
  (yX5_add, cX5_add, 4, none, 0, 0, oX5_add),
  (yX6_readInstruction, cX6_readInstruction, 5, none, 3, 66, oX6_readInstruction),
  (yX6_translate, cX6_translate, 3, (some .int), 4, 90, oX6_translate),
  (yX1_init, cX1_init, 1, none, 1, 20, oX1_init),
  (yX4_entriesOf, cX4_entriesOf, 2, (some (.array .int)), 0, 0, oX4_entriesOf),
  (yX1_begin, cX1_begin, 3, none, 0, 0, oX1_begin),
  (yX5_has, cX5_has, 2, (some .boolean), 0, 0, oX5_has),
  (yX1_pay, cX1_pay, 2, (some .boolean), 0, 0, oX1_pay),
  (yX1_finish, cX1_finish, 3, none, 0, 0, oX1_finish),
  (yX1_valueOf, cX1_valueOf, 2, (some .int), 0, 0, oX1_valueOf),
  (yX1_put, cX1_put, 3, none, 0, 0, oX1_put),
  (yX1_perform, cX1_perform, 6, (some .int), 1, 22, oX1_perform),
  (yX1_execute, cX1_execute, 8, none, 2, 47, oX1_execute),
  (yX2_init, cX2_init, 1, none, 1, 20, oX2_init),
  (yX2_bit, cX2_bit, 1, (some .int), 0, 0, oX2_bit),
  (yX2_jumps, cX2_jumps, 1, (some .boolean), 0, 0, oX2_jumps),
  (yX2_leaders, cX2_leaders, 4, (some .int), 1, 20, oX2_leaders),
  (yX2_contains, cX2_contains, 2, (some .boolean), 1, 20, oX2_contains),
  (yX2_divide, cX2_divide, 5, none, 2, 41, oX2_divide),
  (yX2_goesOn, cX2_goesOn, 1, (some .boolean), 0, 0, oX2_goesOn),
  (yX2_blockFrom, cX2_blockFrom, 3, (some .int), 1, 21, oX2_blockFrom),
  (yX2_connect, cX2_connect, 8, none, 2, 43, oX2_connect),
  (yX2_has, cX2_has, 2, (some .boolean), 0, 0, oX2_has),
  (yX2_addPredecessor, cX2_addPredecessor, 3, none, 1, 21, oX2_addPredecessor),
  (yX2_collectPredecessors, cX2_collectPredecessors, 2, none, 2, 43, oX2_collectPredecessors),
  (yX2_canEnd, cX2_canEnd, 2, (some .boolean), 1, 21, oX2_canEnd),
  (yX2_isJoined, cX2_isJoined, 3, (some .boolean), 2, 42, oX2_isJoined),
  (yX2_join, cX2_join, 3, none, 3, 64, oX2_join),
  (yJ9_min_7cf53, cJ9_min_7cf53, 2, (some .int), 0, 0, oJ9_min_7cf53),
  (yX2_headOf, cX2_headOf, 5, (some .int), 1, 21, oX2_headOf),
  (yX2_reach, cX2_reach, 5, (some .int), 2, 41, oX2_reach),
  (yX2_update, cX2_update, 3, none, 4, 86, oX2_update),
  (yX5_init, cX5_init, 2, none, 1, 20, oX5_init),
  (yX3_init, cX3_init, 2, none, 2, 41, oX3_init),
  (yX3_placeAt, cX3_placeAt, 2, (some (.object "BudgetMeter$Setup")), 0, 0, oX3_placeAt),
  (yX5_takeProgram, cX5_takeProgram, 2, none, 1, 26, oX5_takeProgram),
  (yX5_takeAll, cX5_takeAll, 2, none, 2, 47, oX5_takeAll),
  (yX3_save, cX3_save, 3, none, 3, 68, oX3_save),
  (yX3_restore, cX3_restore, 4, none, 3, 68, oX3_restore),
  (yX4_init, cX4_init, 1, none, 1, 20, oX4_init),
  (yX5_costAt, cX5_costAt, 3, (some .int), 1, 21, oX5_costAt),
  (yX4_sumInstructions, cX4_sumInstructions, 5, none, 2, 43, oX4_sumInstructions),
  (yX4_sumChains, cX4_sumChains, 4, none, 1, 21, oX4_sumChains),
  (yX4_markEntries, cX4_markEntries, 5, none, 1, 21, oX4_markEntries),
  (yX4_forgetWays, cX4_forgetWays, 3, none, 0, 0, oX4_forgetWays),
  (yX4_wayFrom, cX4_wayFrom, 3, (some .int), 1, 21, oX4_wayFrom),
  (yJ9_max_7cf53, cJ9_max_7cf53, 2, (some .int), 0, 0, oJ9_max_7cf53),
  (yX4_greatestFrom, cX4_greatestFrom, 7, (some .int), 2, 43, oX4_greatestFrom),
  (yX4_greatestWay, cX4_greatestWay, 6, (some .int), 3, 69, oX4_greatestWay),
  (yX4_leastFrom, cX4_leastFrom, 5, (some .int), 2, 43, oX4_leastFrom),
  (yX4_leastWay, cX4_leastWay, 6, (some .int), 3, 67, oX4_leastWay),
  (yX4_update, cX4_update, 3, none, 4, 94, oX4_update),
  (yX6_init, cX6_init, 1, none, 1, 20, oX6_init),
  (yX6_add, cX6_add, 2, (some .boolean), 0, 0, oX6_add),
  (yX7_init, cX7_init, 1, none, 3, 62, oX7_init),
  (yX7_isErrorCode, cX7_isErrorCode, 1, (some .boolean), 0, 0, oX7_isErrorCode),
  (yX7_refuse, cX7_refuse, 2, (some .int), 1, 20, oX7_refuse),
  (yX7_append, cX7_append, 2, (some .int), 2, 41, oX7_append),
  (yX7_clearText, cX7_clearText, 2, (some .int), 0, 0, oX7_clearText),
  (yX7_analyse, cX7_analyse, 1, none, 5, 116, oX7_analyse),
  (yX7_assemble, cX7_assemble, 2, (some .int), 6, 136, oX7_assemble),
  (yX7_setCost, cX7_setCost, 4, (some .int), 5, 116, oX7_setCost),
  (yX7_opcode, cX7_opcode, 2, (some .int), 2, 41, oX7_opcode),
  (yX7_blocks, cX7_blocks, 1, (some .int), 0, 0, oX7_blocks),
  (yX7_blockOf, cX7_blockOf, 2, (some .int), 2, 41, oX7_blockOf),
  (yX7_successors, cX7_successors, 2, (some .int), 2, 41, oX7_successors),
  (yX7_blockCost, cX7_blockCost, 2, (some .int), 2, 41, oX7_blockCost),
  (yX7_chainHead, cX7_chainHead, 2, (some .int), 2, 41, oX7_chainHead),
  (yX7_chainCost, cX7_chainCost, 2, (some .int), 2, 41, oX7_chainCost),
  (yX7_reachableBlocks, cX7_reachableBlocks, 1, (some .int), 0, 0, oX7_reachableBlocks),
  (yX7_greatestCost, cX7_greatestCost, 1, (some .int), 0, 0, oX7_greatestCost),
  (yX7_leastCost, cX7_leastCost, 1, (some .int), 0, 0, oX7_leastCost),
  (yX7_run, cX7_run, 3, (some .int), 3, 74, oX7_run),
  (yX7_steps, cX7_steps, 1, (some .int), 0, 0, oX7_steps),
  (yX7_remaining, cX7_remaining, 1, (some .int), 0, 0, oX7_remaining),
  (yX7_charges, cX7_charges, 1, (some .int), 0, 0, oX7_charges),
  (yX7_register, cX7_register, 2, (some .int), 1, 21, oX7_register),
  (yX7_stoppedAt, cX7_stoppedAt, 1, (some .int), 0, 0, oX7_stoppedAt),
  (yX7_floatBits, cX7_floatBits, 4, (some .int), 0, 0, oX7_floatBits),
  (yX7_chargeRateBits, cX7_chargeRateBits, 1, (some .int), 1, 23, oX7_chargeRateBits),
  (yX7_neededBudget, cX7_neededBudget, 1, (some .int), 3, 74, oX7_neededBudget),
  (yX7_undo, cX7_undo, 1, (some .int), 6, 136, oX7_undo),
  (yX7_errorCount, cX7_errorCount, 2, (some .int), 2, 41, oX7_errorCount),
  (yX7_mix, cX7_mix, 3, (some .long), 0, 0, oX7_mix),
  (yX7_mixSetup, cX7_mixSetup, 6, (some .long), 1, 22, oX7_mixSetup),
  (yX7_mixFlow, cX7_mixFlow, 6, (some .long), 1, 22, oX7_mixFlow),
  (yX7_mixLatest, cX7_mixLatest, 6, (some .long), 1, 22, oX7_mixLatest),
  (yX7_digest, cX7_digest, 4, (some .long), 2, 47, oX7_digest),
  (yX8_init, cX8_init, 2, none, 1, 20, oX8_init),
  (yX8_within, cX8_within, 3, (some .boolean), 0, 0, oX8_within),
  (yX8_counts, cX8_counts, 2, (some .int), 0, 0, oX8_counts),
  (yX8_isInstruction, cX8_isInstruction, 2, (some .boolean), 1, 22, oX8_isInstruction),
  (yX8_saves, cX8_saves, 2, none, 0, 0, oX8_saves),
  (yX8_undo, cX8_undo, 2, (some .int), 1, 21, oX8_undo),
  (yX8_append, cX8_append, 2, (some .int), 1, 22, oX8_append),
  (yX8_clearText, cX8_clearText, 2, (some .int), 0, 0, oX8_clearText),
  (yX8_here, cX8_here, 1, (some .int), 0, 0, oX8_here),
  (yX8_skips, cX8_skips, 1, none, 1, 20, oX8_skips),
  (yX8_opcodeOf, cX8_opcodeOf, 1, (some .int), 0, 0, oX8_opcodeOf),
  (yX8_passes, cX8_passes, 6, (some .boolean), 2, 40, oX8_passes),
  (yX8_passesInstruction, cX8_passesInstruction, 6, (some .boolean), 3, 65, oX8_passesInstruction),
  (yX8_assemble, cX8_assemble, 2, (some .int), 4, 90, oX8_assemble),
  (yX8_setCost, cX8_setCost, 4, (some .int), 1, 22, oX8_setCost),
  (yX8_opcode, cX8_opcode, 2, (some .int), 2, 43, oX8_opcode),
  (yX8_costAt, cX8_costAt, 2, (some .int), 0, 0, oX8_costAt),
  (yX8_isBranch, cX8_isBranch, 2, (some .boolean), 0, 0, oX8_isBranch),
  (yX8_targetOf, cX8_targetOf, 2, (some .int), 1, 21, oX8_targetOf),
  (yX8_isLeader, cX8_isLeader, 4, (some .boolean), 2, 42, oX8_isLeader),
  (yX8_goesTo, cX8_goesTo, 3, none, 0, 0, oX8_goesTo),
  (yX8_laysFollowing, cX8_laysFollowing, 3, none, 1, 22, oX8_laysFollowing),
  (yX8_comingTo, cX8_comingTo, 4, (some .int), 0, 0, oX8_comingTo),
  (yX8_isJoined, cX8_isJoined, 3, (some .boolean), 1, 23, oX8_isJoined),
  (yX8_headOf, cX8_headOf, 4, (some .int), 0, 0, oX8_headOf),
  (yX8_laysBlocks, cX8_laysBlocks, 3, none, 3, 65, oX8_laysBlocks),
  (yX8_isBlock, cX8_isBlock, 2, (some .boolean), 4, 87, oX8_isBlock),
  (yX8_chainCostOf, cX8_chainCostOf, 4, (some .int), 0, 0, oX8_chainCostOf),
  (yX8_blocks, cX8_blocks, 1, (some .int), 4, 87, oX8_blocks),
  (yX8_blockOf, cX8_blockOf, 2, (some .int), 4, 87, oX8_blockOf),
  (yX8_successors, cX8_successors, 2, (some .int), 5, 108, oX8_successors),
  (yX8_blockCost, cX8_blockCost, 2, (some .int), 5, 108, oX8_blockCost),
  (yX8_chainHead, cX8_chainHead, 2, (some .int), 5, 108, oX8_chainHead),
  (yX8_chainCost, cX8_chainCost, 2, (some .int), 5, 108, oX8_chainCost),
  (yX8_reachableBlocks, cX8_reachableBlocks, 5, (some .int), 4, 87, oX8_reachableBlocks),
  (yX8_waysGrow, cX8_waysGrow, 7, (some .boolean), 0, 0, oX8_waysGrow),
  (yX8_bestWay, cX8_bestWay, 6, (some .int), 4, 87, oX8_bestWay),
  (yX8_greatestCost, cX8_greatestCost, 1, (some .int), 5, 112, oX8_greatestCost),
  (yX8_leastCost, cX8_leastCost, 1, (some .int), 5, 112, oX8_leastCost),
  (yX8_does, cX8_does, 4, (some .int), 0, 0, oX8_does),
  (yX8_runs, cX8_runs, 8, none, 4, 87, oX8_runs),
  (yX8_run, cX8_run, 4, (some .int), 5, 114, oX8_run),
  (yX8_steps, cX8_steps, 1, (some .int), 0, 0, oX8_steps),
  (yX8_remaining, cX8_remaining, 1, (some .int), 0, 0, oX8_remaining),
  (yX8_charges, cX8_charges, 1, (some .int), 0, 0, oX8_charges),
  (yX8_register, cX8_register, 2, (some .int), 1, 22, oX8_register),
  (yX8_stoppedAt, cX8_stoppedAt, 1, (some .int), 0, 0, oX8_stoppedAt),
  (yJxf58ca_isNaN_12338, cJxf58ca_isNaN_12338, 1, (some .boolean), 0, 0, oJxf58ca_isNaN_12338),
  (yJxf58ca_floatToIntBits_5c35a, cJxf58ca_floatToIntBits_5c35a, 1, (some .int), 1, 26, oJxf58ca_floatToIntBits_5c35a),
  (yX8_chargeRateBits, cX8_chargeRateBits, 1, (some .int), 2, 46, oX8_chargeRateBits),
  (yX8_neededBudget, cX8_neededBudget, 1, (some .int), 5, 114, oX8_neededBudget),
  (yX8_errorCount, cX8_errorCount, 2, (some .int), 1, 22, oX8_errorCount),
  (yX8_mix, cX8_mix, 2, none, 0, 0, oX8_mix),
  (yX8_mixBlocks, cX8_mixBlocks, 2, none, 4, 87, oX8_mixBlocks),
  (yX8_mixRun, cX8_mixRun, 2, none, 1, 21, oX8_mixRun),
  (yX8_digest, cX8_digest, 2, (some .long), 6, 132, oX8_digest),
  (yL_law, cL_law, 4, (some .boolean), 7, 157, oL_law)]
end
section
/-! the machine M over the tables: its words, its worlds, and what a world says of the heap -/
def mRow (i : Nat) : MRow := METHS.getD i (⟨"", "", ""⟩, ⟨#[]⟩, 0, none, 0, 0, [])
def mName (i : Nat) : MethodName := (mRow i).1
def mCode (i : Nat) : ByteArray := (mRow i).2.1
def mMax (i : Nat) : Nat := (mRow i).2.2.1
def mRet (i : Nat) : Option FieldType := (mRow i).2.2.2.1
def mFr (i : Nat) : Nat := (mRow i).2.2.2.2.1
def mLo (i : Nat) : Nat := (mRow i).2.2.2.2.2.1
def mOps (i : Nat) : List (Nat × MOp) := (mRow i).2.2.2.2.2.2
def fetch (i pc : Nat) : Option MOp := ((mOps i).find? (fun q => q.1 == pc)).map (fun q => q.2)
def wk (wi : Nat) (w : Cond) : Bool := decide (lw_tbl[wi]? = some w) && goodWord w
theorem wk_mem {wi : Nat} {w : Cond} (h : wk wi w = true) : w ∈ GW := by
  simp only [wk, Bool.and_eq_true, decide_eq_true_eq] at h
  exact List.mem_filter.mpr ⟨List.mem_of_getElem? h.1, h.2⟩
def ilen : Instr → Nat
  | .aload _ => 2
  | .iload _ => 2
  | .istore _ => 2
  | .astore _ => 2
  | .bipush _ => 2
  | .ldc _ => 2
  | .newarray _ => 2
  | .getfield _ => 3
  | .putfield _ => 3
  | .goto _ => 3
  | .if_icmp _ _ => 3
  | .ifCond _ _ => 3
  | .ifnonnull _ => 3
  | .iinc _ _ => 3
  | .invokevirtual _ => 3
  | .invokespecial _ => 3
  | .invokestatic _ => 3
  | .new _ => 3
  | .anewarray _ => 3
  | .sipush _ => 3
  | .ldc2_w _ => 3
  | _ => 1
def NESTS : List (Nat × MethodName) := [(9, yX6_init), (28, yX2_init), (35, yX4_init), (49, yX1_init)]
abbrev objY : MethodName := ⟨"java/lang/Object", "<init>", "()V"⟩
abbrev rawY : MethodName := ⟨"java/lang/Float", "floatToRawIntBits", "(F)I"⟩
def okName (y : MethodName) (n : Nat) : Bool := decide (y.cls ≠ "java/lang/invoke/MethodHandle") && decide (y.cls ≠ "java/lang/invoke/VarHandle") && decide ((parseMethodDescriptor y.desc).map (fun d => d.parameters.length) = some n)
def okCall (i a b : Nat) : Bool := okName (mName a) b && Nat.ble (mFr a + 1) (mFr i) && Nat.ble (8 + (mMax a + 11) + mLo a) (mLo i)
/-- what is checked of a row beside its bytes -/
def okAt (i pc : Nat) (ins : Instr) (a b : Nat) (ws : List Nat) (cv : Value) : Bool :=
  match ins, ws with
  | .getfield idx, [w1] => (match CL[a]? with
    | some C => Nat.blt b C.2.2 && wk w1 (.fieldLink (mName i).cls idx (C.2.1 b).1 (C.2.1 b).2.1 (C.2.1 b).2.2.1)
    | none => false)
  | .putfield idx, [w1] => (match CL[a]? with
    | some C => Nat.blt b C.2.2 && wk w1 (.fieldLink (mName i).cls idx (C.2.1 b).1 (C.2.1 b).2.1 (C.2.1 b).2.2.1) && (!(C.2.1 b).2.2.2 || (decide ((mName i).name = "<init>") && decide ((C.2.1 b).1 = (mName i).cls)))
    | none => false)
  | .getfield _, _ => false
  | .putfield _, _ => false
  | .goto off, _ => decide ((pc : Int) + off = (a : Int))
  | .if_icmp _ off, _ => decide ((pc : Int) + off = (a : Int))
  | .ifCond _ off, _ => decide ((pc : Int) + off = (a : Int))
  | .ifnonnull off, _ => decide ((pc : Int) + off = (a : Int))
  | .invokevirtual idx, [w1, w2, w3, w4] => okCall i a b && wk w1 (.methodLink (mName i).cls idx (mName a)) && wk w2 (.instanceMethod (mName a)) && wk w3 (.selects (mName a).cls (mName a) (mName a)) && wk w4 (.initialized (mName a).cls)
  | .invokevirtual _, _ => false
  | .invokestatic idx, [w1, w2, w3] => okCall i a b && wk w1 (.methodLink (mName i).cls idx (mName a)) && wk w2 (.static (mName a)) && wk w3 (.initialized (mName a).cls)
  | .invokestatic idx, [w1, w2, w3, w4] => Nat.ble 1 (mFr i) && Nat.ble 26 (mLo i) && ((decide (cv = .int 3) && wk w1 (.methodLink (mName i).cls idx arraycopyName) && wk w2 (.native arraycopyName) && wk w3 (.static arraycopyName) && wk w4 (.initialized "java/lang/System")) || (decide (cv = .int 4) && wk w1 (.methodLink (mName i).cls idx rawY) && wk w2 (.native rawY) && wk w3 (.static rawY) && wk w4 (.initialized "java/lang/Float")))
  | .invokestatic _, _ => false
  | .invokespecial idx, [w1, w2, w3] => decide (cv = .null) && okCall i a b && decide ((mName a).name = "<init>") && decide (mRet a = none) && wk w1 (.methodLink (mName i).cls idx (mName a)) && wk w2 (.instanceMethod (mName a)) && wk w3 (.initialized (mName a).cls)
  | .invokespecial idx, [w1, w2] => (decide (cv = .int 2) && Nat.ble 1 (mFr i) && Nat.ble 20 (mLo i) && wk w1 (.methodLink (mName i).cls idx objY) && wk w2 (.instanceMethod objY)) || (decide (cv = .int 1) && okCall i a b && decide ((mName a).name = "<init>") && decide (mRet a = none) && decide ((mName i).cls = RX7) && decide ((idx, mName a) ∈ NESTS) && wk w1 (.instanceMethod (mName a)) && wk w2 (.initialized (mName a).cls))
  | .invokespecial _, _ => false
  | .new idx, [w1, w2, w3] => (match CL[a]? with
    | some C => wk w1 (.classLink (mName i).cls idx C.1) && wk w2 (.instantiable C.1 C.2.2) && wk w3 (.initialized C.1)
    | none => false)
  | .new _, _ => false
  | .newarray t, [w1] => (decide (a = 0 ∧ t = .int) && wk w1 (.arrayClass .int)) || (decide (a = 1 ∧ t = .boolean) && wk w1 (.arrayClass .boolean))
  | .newarray _, _ => false
  | .anewarray idx, [w1] => decide (a = 5) && wk w1 (.classLink (mName i).cls idx RX5)
  | .anewarray _, _ => false
  | .ldc idx, [w1] => (match cv with
    | .int v => wk w1 (.constant (mName i).cls idx v)
    | .float v => wk w1 (.constantFloat (mName i).cls idx v)
    | _ => false)
  | .ldc _, _ => false
  | .ldc2_w idx, [w1] => (match cv with
    | .long v => wk w1 (.constantLong (mName i).cls idx v)
    | _ => false)
  | .ldc2_w _, _ => false
  | _, _ => true
def isSw : Instr → Bool
  | .tableswitch _ _ _ _ => true
  | _ => false
def okOp (i pc : Nat) (q : MOp) : Bool := match q with
  | (ins, nx, a, b, ws, cv) => decide (decode (mCode i) pc = .ok (ins, nx - pc)) && (isSw ins || decide (nx = pc + ilen ins)) && okAt i pc ins a b ws cv
def okM (i : Nat) : Bool := (mOps i).all (fun q => okOp i q.1 q.2)
end
section
/-! every row of the tables is as the bytes and the words say -/
set_option maxRecDepth 100000 in
theorem chk_0 : ∀ j, j < 12 → okM (0 + j) = true := by decide +kernel
set_option maxRecDepth 100000 in
theorem chk_12 : ∀ j, j < 12 → okM (12 + j) = true := by decide +kernel
set_option maxRecDepth 100000 in
theorem chk_24 : ∀ j, j < 12 → okM (24 + j) = true := by decide +kernel
set_option maxRecDepth 100000 in
theorem chk_36 : ∀ j, j < 12 → okM (36 + j) = true := by decide +kernel
set_option maxRecDepth 100000 in
theorem chk_48 : ∀ j, j < 12 → okM (48 + j) = true := by decide +kernel
set_option maxRecDepth 100000 in
theorem chk_60 : ∀ j, j < 12 → okM (60 + j) = true := by decide +kernel
set_option maxRecDepth 100000 in
theorem chk_72 : ∀ j, j < 12 → okM (72 + j) = true := by decide +kernel
set_option maxRecDepth 100000 in
theorem chk_84 : ∀ j, j < 12 → okM (84 + j) = true := by decide +kernel
set_option maxRecDepth 100000 in
theorem chk_96 : ∀ j, j < 12 → okM (96 + j) = true := by decide +kernel
set_option maxRecDepth 100000 in
theorem chk_108 : ∀ j, j < 12 → okM (108 + j) = true := by decide +kernel
set_option maxRecDepth 100000 in
theorem chk_120 : ∀ j, j < 12 → okM (120 + j) = true := by decide +kernel
set_option maxRecDepth 100000 in
theorem chk_132 : ∀ j, j < 12 → okM (132 + j) = true := by decide +kernel
set_option maxRecDepth 100000 in
theorem chk_144 : ∀ j, j < 11 → okM (144 + j) = true := by decide +kernel
theorem chk_at (i : Nat) : okM i = true := by
  by_cases h0 : i < 12
  · have h := chk_0 (i - 0) (by omega)
    rwa [show 0 + (i - 0) = i by omega] at h
  by_cases h12 : i < 24
  · have h := chk_12 (i - 12) (by omega)
    rwa [show 12 + (i - 12) = i by omega] at h
  by_cases h24 : i < 36
  · have h := chk_24 (i - 24) (by omega)
    rwa [show 24 + (i - 24) = i by omega] at h
  by_cases h36 : i < 48
  · have h := chk_36 (i - 36) (by omega)
    rwa [show 36 + (i - 36) = i by omega] at h
  by_cases h48 : i < 60
  · have h := chk_48 (i - 48) (by omega)
    rwa [show 48 + (i - 48) = i by omega] at h
  by_cases h60 : i < 72
  · have h := chk_60 (i - 60) (by omega)
    rwa [show 60 + (i - 60) = i by omega] at h
  by_cases h72 : i < 84
  · have h := chk_72 (i - 72) (by omega)
    rwa [show 72 + (i - 72) = i by omega] at h
  by_cases h84 : i < 96
  · have h := chk_84 (i - 84) (by omega)
    rwa [show 84 + (i - 84) = i by omega] at h
  by_cases h96 : i < 108
  · have h := chk_96 (i - 96) (by omega)
    rwa [show 96 + (i - 96) = i by omega] at h
  by_cases h108 : i < 120
  · have h := chk_108 (i - 108) (by omega)
    rwa [show 108 + (i - 108) = i by omega] at h
  by_cases h120 : i < 132
  · have h := chk_120 (i - 120) (by omega)
    rwa [show 120 + (i - 120) = i by omega] at h
  by_cases h132 : i < 144
  · have h := chk_132 (i - 132) (by omega)
    rwa [show 132 + (i - 132) = i by omega] at h
  by_cases h144 : i < 155
  · have h := chk_144 (i - 144) (by omega)
    rwa [show 144 + (i - 144) = i by omega] at h
  have hn : mOps i = [] := by
    have h2 : METHS[i]? = none := List.getElem?_eq_none (by show 155 ≤ i; omega)
    simp [mOps, mRow, List.getD, h2]
  simp [okM, hn]
def CODEIX : List Nat := [422, 422, 341, 337, 345, 352, 359, 356, 362, 366, 370, 349, 333, 253, 574, 578, 422, 583, 587, 595, 599, 591, 570, 139, 404, 407, 401, 414, 411, 425, 429, 418, 441, 437, 433, 453, 449, 445, 460, 457, 464, 398, 106, 233, 378, 386, 382, 374, 640, 194, 476, 472, 482, 486, 495, 503, 506, 499, 491, 514, 510, 468, 85, 321, 77, 317, 314, 310, 325, 394, 329, 520, 524, 529, 533, 537, 542, 546, 550, 554, 558, 562, 566, 603, 607, 611, 615, 620, 627, 624, 632, 636, 644, 652, 657, 661, 665, 648, 670, 780, 773, 823, 811, 769, 777, 784, 796, 792, 803, 807, 800, 788, 815, 819, 847, 843, 839, 835, 855, 851, 863, 859, 867, 831, 879, 895, 827, 871, 875, 883, 887, 891, 899, 911, 907, 903, 915, 927, 923, 919, 931, 935, 939, 943, 947, 957, 954, 951, 965, 969, 978, 983, 990, 973]
set_option maxRecDepth 100000 in
theorem cix : ∀ i, i < 154 → lw_tbl[(CODEIX.getD i 0)]? = some (Cond.code (mName i) (mCode i) (mMax i) (mRet i)) := by
  intro i hi
  match i, hi with
  | 0, _ => rfl
  | 1, _ => rfl
  | 2, _ => rfl
  | 3, _ => rfl
  | 4, _ => rfl
  | 5, _ => rfl
  | 6, _ => rfl
  | 7, _ => rfl
  | 8, _ => rfl
  | 9, _ => rfl
  | 10, _ => rfl
  | 11, _ => rfl
  | 12, _ => rfl
  | 13, _ => rfl
  | 14, _ => rfl
  | 15, _ => rfl
  | 16, _ => rfl
  | 17, _ => rfl
  | 18, _ => rfl
  | 19, _ => rfl
  | 20, _ => rfl
  | 21, _ => rfl
  | 22, _ => rfl
  | 23, _ => rfl
  | 24, _ => rfl
  | 25, _ => rfl
  | 26, _ => rfl
  | 27, _ => rfl
  | 28, _ => rfl
  | 29, _ => rfl
  | 30, _ => rfl
  | 31, _ => rfl
  | 32, _ => rfl
  | 33, _ => rfl
  | 34, _ => rfl
  | 35, _ => rfl
  | 36, _ => rfl
  | 37, _ => rfl
  | 38, _ => rfl
  | 39, _ => rfl
  | 40, _ => rfl
  | 41, _ => rfl
  | 42, _ => rfl
  | 43, _ => rfl
  | 44, _ => rfl
  | 45, _ => rfl
  | 46, _ => rfl
  | 47, _ => rfl
  | 48, _ => rfl
  | 49, _ => rfl
  | 50, _ => rfl
  | 51, _ => rfl
  | 52, _ => rfl
  | 53, _ => rfl
  | 54, _ => rfl
  | 55, _ => rfl
  | 56, _ => rfl
  | 57, _ => rfl
  | 58, _ => rfl
  | 59, _ => rfl
  | 60, _ => rfl
  | 61, _ => rfl
  | 62, _ => rfl
  | 63, _ => rfl
  | 64, _ => rfl
  | 65, _ => rfl
  | 66, _ => rfl
  | 67, _ => rfl
  | 68, _ => rfl
  | 69, _ => rfl
  | 70, _ => rfl
  | 71, _ => rfl
  | 72, _ => rfl
  | 73, _ => rfl
  | 74, _ => rfl
  | 75, _ => rfl
  | 76, _ => rfl
  | 77, _ => rfl
  | 78, _ => rfl
  | 79, _ => rfl
  | 80, _ => rfl
  | 81, _ => rfl
  | 82, _ => rfl
  | 83, _ => rfl
  | 84, _ => rfl
  | 85, _ => rfl
  | 86, _ => rfl
  | 87, _ => rfl
  | 88, _ => rfl
  | 89, _ => rfl
  | 90, _ => rfl
  | 91, _ => rfl
  | 92, _ => rfl
  | 93, _ => rfl
  | 94, _ => rfl
  | 95, _ => rfl
  | 96, _ => rfl
  | 97, _ => rfl
  | 98, _ => rfl
  | 99, _ => rfl
  | 100, _ => rfl
  | 101, _ => rfl
  | 102, _ => rfl
  | 103, _ => rfl
  | 104, _ => rfl
  | 105, _ => rfl
  | 106, _ => rfl
  | 107, _ => rfl
  | 108, _ => rfl
  | 109, _ => rfl
  | 110, _ => rfl
  | 111, _ => rfl
  | 112, _ => rfl
  | 113, _ => rfl
  | 114, _ => rfl
  | 115, _ => rfl
  | 116, _ => rfl
  | 117, _ => rfl
  | 118, _ => rfl
  | 119, _ => rfl
  | 120, _ => rfl
  | 121, _ => rfl
  | 122, _ => rfl
  | 123, _ => rfl
  | 124, _ => rfl
  | 125, _ => rfl
  | 126, _ => rfl
  | 127, _ => rfl
  | 128, _ => rfl
  | 129, _ => rfl
  | 130, _ => rfl
  | 131, _ => rfl
  | 132, _ => rfl
  | 133, _ => rfl
  | 134, _ => rfl
  | 135, _ => rfl
  | 136, _ => rfl
  | 137, _ => rfl
  | 138, _ => rfl
  | 139, _ => rfl
  | 140, _ => rfl
  | 141, _ => rfl
  | 142, _ => rfl
  | 143, _ => rfl
  | 144, _ => rfl
  | 145, _ => rfl
  | 146, _ => rfl
  | 147, _ => rfl
  | 148, _ => rfl
  | 149, _ => rfl
  | 150, _ => rfl
  | 151, _ => rfl
  | 152, _ => rfl
  | 153, _ => rfl
  | j + 154, h => exact absurd h (by omega)
theorem ck {i pc : Nat} {q : MOp} (h : fetch i pc = some q) : okOp i pc q = true := by
  obtain ⟨z, hz, rfl⟩ := Option.map_eq_some_iff.mp h
  have h1 := List.mem_of_find?_eq_some hz
  have h2 := List.find?_some hz
  have h3 := List.all_eq_true.mp (chk_at i) z h1
  have h4 : z.1 = pc := by simpa using h2
  rw [← h4]
  exact h3
theorem ck_dec {i pc : Nat} {ins : Instr} {nx a b : Nat} {ws : List Nat} {cv : Value} (h : fetch i pc = some (ins, nx, a, b, ws, cv)) (hs : isSw ins = false) : decode (mCode i) pc = .ok (ins, ilen ins) ∧ nx = pc + ilen ins ∧ okAt i pc ins a b ws cv = true := by
  have h1 := ck h
  simp only [okOp, Bool.and_eq_true, decide_eq_true_eq, hs, Bool.false_or] at h1
  obtain ⟨⟨h1, h2⟩, h3⟩ := h1
  subst h2
  rw [Nat.add_sub_cancel_left] at h1
  exact ⟨h1, rfl, h3⟩
theorem ck_sw {i pc : Nat} {ins : Instr} {nx a b : Nat} {ws : List Nat} {cv : Value} (h : fetch i pc = some (ins, nx, a, b, ws, cv)) : decode (mCode i) pc = .ok (ins, nx - pc) := by
  have h1 := ck h
  simp only [okOp, Bool.and_eq_true, decide_eq_true_eq] at h1
  exact h1.1.1
theorem code_mem : ∀ i, i < 154 → Cond.code (mName i) (mCode i) (mMax i) (mRet i) ∈ GW := by
  intro i hi
  exact List.mem_filter.mpr ⟨List.mem_of_getElem? (cix i hi), rfl⟩
theorem gw_good : ∀ w ∈ GW, (w.onTables && w.keeps) = true ∨ ∃ ty, w = .arrayClass ty := fun w h => good_of_word (List.mem_filter.mp h).2
theorem gw_in {i j : Nat} (hj : j < 154) : GoodIn (Cond.code (mName i) (mCode i) (mMax i) (mRet i) :: GW) (Cond.code (mName j) (mCode j) (mMax j) (mRet j) :: GW) := by
  intro w hw
  rcases List.mem_cons.mp hw with rfl | h
  · exact ⟨List.mem_cons_of_mem _ (code_mem j hj), Or.inl rfl⟩
  · exact ⟨List.mem_cons_of_mem _ h, gw_good w h⟩
set_option maxRecDepth 100000 in
theorem inX0 : ∀ w ∈ u_ws RX0 TX0 6, w ∈ GW := by
  have h : (u_ws RX0 TX0 6).all (fun w => decide (w ∈ lw_tbl) && goodWord w) = true := by decide +kernel
  intro w hw
  have h1 := List.all_eq_true.mp h w hw
  simp only [Bool.and_eq_true, decide_eq_true_eq] at h1
  exact List.mem_filter.mpr h1
set_option maxRecDepth 100000 in
theorem inX1 : ∀ w ∈ u_ws RX1 TX1 6, w ∈ GW := by
  have h : (u_ws RX1 TX1 6).all (fun w => decide (w ∈ lw_tbl) && goodWord w) = true := by decide +kernel
  intro w hw
  have h1 := List.all_eq_true.mp h w hw
  simp only [Bool.and_eq_true, decide_eq_true_eq] at h1
  exact List.mem_filter.mpr h1
set_option maxRecDepth 100000 in
theorem inX2 : ∀ w ∈ u_ws RX2 TX2 12, w ∈ GW := by
  have h : (u_ws RX2 TX2 12).all (fun w => decide (w ∈ lw_tbl) && goodWord w) = true := by decide +kernel
  intro w hw
  have h1 := List.all_eq_true.mp h w hw
  simp only [Bool.and_eq_true, decide_eq_true_eq] at h1
  exact List.mem_filter.mpr h1
set_option maxRecDepth 100000 in
theorem inX3 : ∀ w ∈ u_ws RX3 TX3 3, w ∈ GW := by
  have h : (u_ws RX3 TX3 3).all (fun w => decide (w ∈ lw_tbl) && goodWord w) = true := by decide +kernel
  intro w hw
  have h1 := List.all_eq_true.mp h w hw
  simp only [Bool.and_eq_true, decide_eq_true_eq] at h1
  exact List.mem_filter.mpr h1
set_option maxRecDepth 100000 in
theorem inX4 : ∀ w ∈ u_ws RX4 TX4 9, w ∈ GW := by
  have h : (u_ws RX4 TX4 9).all (fun w => decide (w ∈ lw_tbl) && goodWord w) = true := by decide +kernel
  intro w hw
  have h1 := List.all_eq_true.mp h w hw
  simp only [Bool.and_eq_true, decide_eq_true_eq] at h1
  exact List.mem_filter.mpr h1
set_option maxRecDepth 100000 in
theorem inX5 : ∀ w ∈ u_ws RX5 TX5 5, w ∈ GW := by
  have h : (u_ws RX5 TX5 5).all (fun w => decide (w ∈ lw_tbl) && goodWord w) = true := by decide +kernel
  intro w hw
  have h1 := List.all_eq_true.mp h w hw
  simp only [Bool.and_eq_true, decide_eq_true_eq] at h1
  exact List.mem_filter.mpr h1
set_option maxRecDepth 100000 in
theorem inX6 : ∀ w ∈ u_ws RX6 TX6 4, w ∈ GW := by
  have h : (u_ws RX6 TX6 4).all (fun w => decide (w ∈ lw_tbl) && goodWord w) = true := by decide +kernel
  intro w hw
  have h1 := List.all_eq_true.mp h w hw
  simp only [Bool.and_eq_true, decide_eq_true_eq] at h1
  exact List.mem_filter.mpr h1
set_option maxRecDepth 100000 in
theorem inX7 : ∀ w ∈ u_ws RX7 TX7 9, w ∈ GW := by
  have h : (u_ws RX7 TX7 9).all (fun w => decide (w ∈ lw_tbl) && goodWord w) = true := by decide +kernel
  intro w hw
  have h1 := List.all_eq_true.mp h w hw
  simp only [Bool.and_eq_true, decide_eq_true_eq] at h1
  exact List.mem_filter.mpr h1
set_option maxRecDepth 100000 in
theorem inX8 : ∀ w ∈ u_ws RX8 TX8 31, w ∈ GW := by
  have h : (u_ws RX8 TX8 31).all (fun w => decide (w ∈ lw_tbl) && goodWord w) = true := by decide +kernel
  intro w hw
  have h1 := List.all_eq_true.mp h w hw
  simp only [Bool.and_eq_true, decide_eq_true_eq] at h1
  exact List.mem_filter.mpr h1
end
section
/-! the worlds of M, what they say of the heap, and the judgement Ok -/
abbrev MCell : Type := Bool × Nat × List Value
abbrev MW : Type := List MCell
def tr (o : Nat × Nat) : Value → Value
  | .int x => .int x
  | .long x => .long x
  | .float x => .float x
  | .double x => .double x
  | .null => .null
  | .ref k => .ref (if k = 1000 then o.2 else o.1 + k)
  | .retAddr x => .retAddr x
def trO (o : Nat × Nat) : Option Value → Option Nat
  | some (.ref k) => some (o.1 + k)
  | _ => none
def trI : Option Value → Int32
  | some (.int x) => x
  | _ => 0
def trC (o : Nat × Nat) (aC : Nat → ClassId) : MCell → va_E
  | (true, 0, fs) => .inl (aC 0, fs.length, .inl (fun j => trI fs[j]?))
  | (true, 1, fs) => .inl (aC 1, fs.length, .inl (fun j => trI fs[j]?))
  | (true, _, fs) => .inl (aC 2, fs.length, .inr (.inr (.inr (.inr (fun j => trO o fs[j]?)))))
  | (false, ci, fs) => .inr (ci, fs.map (tr o))
def trW (o : Nat × Nat) (aC : Nat → ClassId) (w : MW) : va_W := w.mapIdx (fun k c => (o.1 + k, trC o aC c))
def wsz (w : MW) : Nat := (w.map (fun c => c.2.2.length)).sum
theorem tr_cat (o : Nat × Nat) (v : Value) : (tr o v).category = v.category := by cases v <;> rfl
theorem trW_get {o : Nat × Nat} {aC : Nat → ClassId} {w : MW} {k : Nat} {c : MCell} (h : w[k]? = some c) : (trW o aC w)[k]? = some (o.1 + k, trC o aC c) := by
  simp [trW, List.getElem?_mapIdx, h]
theorem trW_of {o : Nat × Nat} {aC : Nat → ClassId} {w : MW} {k : Nat} {q : Nat × va_E} (h : (trW o aC w)[k]? = some q) : k < w.length ∧ q.1 = o.1 + k := by
  simp only [trW, List.getElem?_mapIdx, Option.map_eq_some_iff] at h
  obtain ⟨c, h1, h2⟩ := h
  exact ⟨(List.getElem?_eq_some_iff.mp h1).1, by rw [← h2]⟩
theorem trW_set (o : Nat × Nat) (aC : Nat → ClassId) (w : MW) (k : Nat) (c : MCell) : trW o aC (w.set k c) = (trW o aC w).set k (o.1 + k, trC o aC c) := by
  apply List.ext_getElem?
  intro j
  simp only [trW, List.getElem?_mapIdx, List.getElem?_set, List.length_mapIdx]
  by_cases hk : k = j
  · subst hk
    by_cases hl : k < w.length
    · simp [hl]
    · simp [hl]
  · simp [hk]
theorem trW_app (o : Nat × Nat) (aC : Nat → ClassId) (w : MW) (c : MCell) : trW o aC (w ++ [c]) = trW o aC w ++ [(o.1 + w.length, trC o aC c)] := by
  simp [trW, List.mapIdx_append]
def Up (o : Nat × Nat) : Nat → Prop := fun q => o.1 ≤ q
theorem trW_D (o : Nat × Nat) (aC : Nat → ClassId) (w : MW) : va_D (Up o) (trW o aC w) := by
  refine ⟨fun i j p q hp hq he => ?_, fun k q hq => ?_⟩
  · have h1 := (trW_of hp).2
    have h2 := (trW_of hq).2
    rw [h1, h2] at he
    omega
  · show o.1 ≤ q.1
    rw [(trW_of hq).2]
    omega
theorem wsz_set {w : MW} {k : Nat} {c c' : MCell} (h : w[k]? = some c) (hl : c'.2.2.length = c.2.2.length) : wsz (w.set k c') = wsz w := by
  unfold wsz
  rw [List.map_set, hl]
  congr 1
  apply List.ext_getElem?
  intro j
  rw [List.getElem?_set]
  by_cases hk : k = j
  · subst hk
    have hlt : k < w.length := (List.getElem?_eq_some_iff.mp h).1
    simp [hlt, h]
    rw [List.getElem?_eq_getElem hlt] at h
    rw [Option.some.inj h]
  · simp [hk]
theorem wsz_app (w : MW) (c : MCell) : wsz (w ++ [c]) = wsz w + c.2.2.length := by simp [wsz]
abbrev TYS (aC : Nat → ClassId) : List (ClassId × FieldType) := [(aC 0, .int), (aC 1, .boolean), (aC 2, .object RX5)]
def KU (D : va_G) (aC : Nat → ClassId) (U : State) : Prop := va_K D CL (TYS aC) U ∧ va_AO RX5 U ∧ ∀ q ∈ NESTS, va_Nw (.methodLinkNest RX7 q.1 q.2 RX7) U
theorem KU.warm {D : va_G} {aC : Nat → ClassId} {s U : State} (hW : s.WarmedH U.vm) (h : KU D aC s) : KU D aC U := ⟨va_K.moved hW.alike h.1, va_AO.moved hW.alike h.2.1, fun q hq => va_Nw.warmM hW (h.2.2 q hq)⟩
theorem KU.calling {D : va_G} {aC : Nat → ClassId} {U : State} (g : JFrame) (mk : MethodId) (a : Array Value) (h : KU D aC U) : KU D aC (U.calling g mk a) := ⟨va_K.moved (u := U) (U := U.calling g mk a) (Vm.Alike.refl U.vm) h.1, va_AO.moved (u := U) (U := U.calling g mk a) (Vm.Alike.refl U.vm) h.2.1, fun q hq => va_Nw.same (u := U) (U := U.calling g mk a) rfl rfl (h.2.2 q hq)⟩
def Rel (D : va_G) (aC : Nat → ClassId) (o : Nat × Nat) (w : MW) (H : Heap) : Prop := H.size = o.1 + w.length ∧ w.length ≤ 999 ∧ va_P D CL (trW o aC w) H
def lvA (o : Nat × Nat) (lv : List (Option Value)) : List (Nat × Value) := (List.range lv.length).filterMap (fun j => (lv[j]?.join).map (fun v => (j, tr o v)))
theorem lvA_mem {o : Nat × Nat} {lv : List (Option Value)} {j : Nat} {u : Value} : (j, u) ∈ lvA o lv ↔ ∃ v, lv[j]? = some (some v) ∧ u = tr o v := by
  simp only [lvA, List.mem_filterMap, List.mem_range, Option.map_eq_some_iff, Option.join_eq_some_iff]
  constructor
  · rintro ⟨a, ha, v, hv, he⟩
    cases he
    exact ⟨v, hv, rfl⟩
  · rintro ⟨v, hv, rfl⟩
    exact ⟨j, (List.getElem?_eq_some_iff.mp hv).1, v, hv, rfl⟩
theorem lvA_at {o : Nat × Nat} {ls : Array Slot} {n : Nat} {lv : List (Option Value)} (hl : lv_has ls n (lvA o lv)) {j : Nat} {v : Value} (h : lv[j]? = some (some v)) : ls[j]? = some (.val (tr o v)) := hl.2.2 (j, tr o v) (lvA_mem.mpr ⟨v, h, rfl⟩)
/-- a store at j kills no pair: what stands at j - 1 is of one word -/
def stG (lv : List (Option Value)) (j : Nat) : Bool := match j with
  | 0 => true
  | k + 1 => match lv[k]? with
    | some (some v) => decide (v.category = 1)
    | _ => true
theorem stG_of {lv : List (Option Value)} {j k : Nat} {v : Value} (hg : stG lv j = true) (hk : k + 1 = j) (hv : lv[k]? = some (some v)) : v.category = 1 := by
  subst hk
  simpa [stG, hv] using hg
theorem lvA_st1 {o : Nat × Nat} {ls : Array Slot} {n j : Nat} {lv : List (Option Value)} {v : Value} (hg : stG lv j = true) (hl : lv_has ls n ((j, tr o v) :: (lvA o lv).filter (fun q => !(q.1 == j) && !(q.1 + 1 == j && q.2.category == 2)))) : lv_has ls n (lvA o (lv.set j (some v))) := by
  refine ⟨hl.1, hl.2.1, fun q hq => ?_⟩
  obtain ⟨a, u⟩ := q
  obtain ⟨v0, h1, rfl⟩ := lvA_mem.mp hq
  rw [List.getElem?_set] at h1
  by_cases ha : j = a
  · subst ha
    rw [if_pos rfl] at h1
    split at h1
    · cases h1
      exact hl.2.2 _ List.mem_cons_self
    · cases h1
  · rw [if_neg ha] at h1
    refine hl.2.2 _ (List.mem_cons_of_mem _ (List.mem_filter.mpr ⟨lvA_mem.mpr ⟨v0, h1, rfl⟩, ?_⟩))
    have hne : (a == j) = false := by simpa using fun h => ha h.symm
    simp only [hne, Bool.not_false, Bool.true_and, Bool.not_eq_true', Bool.and_eq_false_iff, tr_cat]
    by_cases hk : a + 1 = j
    · right
      rw [stG_of hg hk h1]
      rfl
    · left
      simpa using hk
theorem lvA_st2 {o : Nat × Nat} {ls : Array Slot} {n j : Nat} {lv : List (Option Value)} {v : Value} (hg : stG lv j = true) (hl : lv_has ls n ((j, tr o v) :: (lvA o lv).filter (fun q => !(q.1 == j) && (!(q.1 == j + 1) && !(q.1 + 1 == j && q.2.category == 2))))) : lv_has ls n (lvA o ((lv.set j (some v)).set (j + 1) none)) := by
  refine ⟨hl.1, hl.2.1, fun q hq => ?_⟩
  obtain ⟨a, u⟩ := q
  obtain ⟨v0, h1, rfl⟩ := lvA_mem.mp hq
  rw [List.getElem?_set] at h1
  by_cases ha1 : j + 1 = a
  · rw [if_pos ha1] at h1
    split at h1 <;> cases h1
  · rw [if_neg ha1, List.getElem?_set] at h1
    by_cases ha : j = a
    · subst ha
      rw [if_pos rfl] at h1
      split at h1
      · cases h1
        exact hl.2.2 _ List.mem_cons_self
      · cases h1
    · rw [if_neg ha] at h1
      refine hl.2.2 _ (List.mem_cons_of_mem _ (List.mem_filter.mpr ⟨lvA_mem.mpr ⟨v0, h1, rfl⟩, ?_⟩))
      have hne : (a == j) = false := by simpa using fun h => ha h.symm
      have hne1 : (a == j + 1) = false := by simpa using fun h => ha1 h.symm
      simp only [hne, hne1, Bool.not_false, Bool.true_and, Bool.not_eq_true', Bool.and_eq_false_iff, tr_cat]
      by_cases hk : a + 1 = j
      · right
        rw [stG_of hg hk h1]
        rfl
      · left
        simpa using hk
def argL (vs : List Value) : List (Option Value) := vs.flatMap (fun v => if v.category = 2 then [some v, none] else [some v])
theorem argL_mem (o : Nat × Nat) (vs : List Value) : ∀ (i j : Nat) (v : Value), (argL vs)[j]? = some (some v) → (i + j, tr o v) ∈ lv_args i (vs.map (tr o)) := by
  induction vs with
  | nil => intro i j v h; simp [argL] at h
  | cons x t ih =>
    intro i j v h
    have hc : argL (x :: t) = (if x.category = 2 then [some x, none] else [some x]) ++ argL t := by simp [argL]
    rw [hc] at h
    show _ ∈ (i, tr o x) :: lv_args (if (tr o x).category = 2 then i + 2 else i + 1) (t.map (tr o))
    rw [tr_cat]
    by_cases hx : x.category = 2
    · rw [if_pos hx] at h ⊢
      match j, h with
      | 0, h => simp at h; subst h; exact List.mem_cons_self
      | 1, h => simp at h
      | k + 2, h =>
        have h2 : (argL t)[k]? = some (some v) := by simpa using h
        have := ih (i + 2) k v h2
        rw [show i + (k + 2) = i + 2 + k by omega]
        exact List.mem_cons_of_mem _ this
    · rw [if_neg hx] at h ⊢
      match j, h with
      | 0, h => simp at h; subst h; exact List.mem_cons_self
      | k + 1, h =>
        have h2 : (argL t)[k]? = some (some v) := by simpa using h
        have := ih (i + 1) k v h2
        rw [show i + (k + 1) = i + 1 + k by omega]
        exact List.mem_cons_of_mem _ this
theorem argL_len (o : Nat × Nat) (vs : List Value) : (lg_sl (vs.map (tr o))).length = (argL vs).length := by
  induction vs with
  | nil => rfl
  | cons x t ih =>
    have hc : argL (x :: t) = (if x.category = 2 then [some x, none] else [some x]) ++ argL t := by simp [argL]
    have hd : lg_sl ((x :: t).map (tr o)) = (if (tr o x).category = 2 then [.val (tr o x), .second] else [.val (tr o x)]) ++ lg_sl (t.map (tr o)) := by simp [lg_sl]
    rw [hc, hd, List.length_append, List.length_append, ih, tr_cat]
    split <;> rfl
def Ctx (i : Nat) (p : Program) (R : Room) (s : State) (m : MethodId) (args : Array Value) (meth : Method) (c : Code) (D : va_G) (aC : Nat → ClassId) : Prop :=
  p.tables.exec = Jvm.exec ∧ c.code = mCode i ∧ c.maxLocals = mMax i ∧ meth.sig.returnType = mRet i ∧ s.vm.findClass (mName i).cls = some m.cls ∧ (∀ w ∈ GW, w.before args s = true) ∧ meth.locks = false ∧ meth.name = (mName i).name ∧ KU D aC s ∧ mFr i ≤ R.frames ∧ mLo i ≤ R.locals
def Sc (sc : Option (Nat × (Nat → Int32))) (o : Nat × Nat) (s : State) : Prop := match sc with
  | none => True
  | some (L, xs) => va_X o.2 L xs s s.heap ∧ o.2 < s.heap.size ∧ o.2 < o.1
def RetOk (i pc : Nat) (r : Option Value) : Prop :=
  (∃ (v : Int32) (ty : FieldType), r = some (.int v) ∧ mRet i = some ty ∧ narrow ty (.int v) = .int v ∧ decode (mCode i) pc = .ok (.ireturn, 1)) ∨
  (∃ v : Int64, r = some (.long v) ∧ mRet i = some .long ∧ decode (mCode i) pc = .ok (.lreturn, 1)) ∨
  (r = none ∧ mRet i = none ∧ decode (mCode i) pc = .ok (.return_, 1)) ∨
  (∃ (v : Value) (rt : FieldType), r = some v ∧ (v = .null ∨ ∃ k, v = .ref k) ∧ mRet i = some rt ∧ ((∃ n, rt = .object n) ∨ ∃ t, rt = .array t) ∧ decode (mCode i) pc = .ok (.areturn, 1))
def Cap (R : Room) (s : State) (o : Nat × Nat) (cells slots : Nat) (w : MW) (cap scap : Nat) : Prop := o.1 + w.length = s.heap.size + cells ∧ w.length ≤ cap ∧ wsz w ≤ scap ∧ cells + (cap - w.length) ≤ R.cells ∧ slots + (scap - wsz w) ≤ R.slots
def Kont (i : Nat) (p : Program) (l : Launch) (e : Env) (R : Room) (s : State) (m : MethodId) (args : Array Value) (below : List Frame) (meth : Method) (c : Code) (cells slots : Nat) (Q : State → Prop) (D : va_G) (aC : Nat → ClassId) (o : Nat × Nat) (w : MW) (Φ : Option Value → MW → Prop) : Prop :=
  ∀ (r : Option Value) (w' : MW) (pc' : Nat) (H' : Heap) (locs' : List Loc) (ls' : Array Slot) (cells' slots' : Nat), Φ r w' → RetOk i pc' r → Rel D aC o w' H' → va_S (Up o) s.heap H' locs' → cells' + w.length = cells + w'.length → slots' + wsz w = slots + wsz w' →
    W p l e R s m args below meth c H' locs' cells' slots' Q (F0 m pc' ls' (r.toList.map (tr o)))
/-- from this point of method i, over the world w, M comes to a return with Φ -/
def Ok (sc : Option (Nat × (Nat → Int32))) (i pc : Nat) (lv : List (Option Value)) (st : List Value) (w : MW) (cap scap : Nat) (Φ : Option Value → MW → Prop) : Prop :=
  ∀ (p : Program) (l : Launch) (e : Env) (R : Room) (s : State) (m : MethodId) (args : Array Value) (below : List Frame) (meth : Method) (c : Code) (H : Heap) (locs : List Loc) (cells slots : Nat) (Q : State → Prop) (D : va_G) (aC : Nat → ClassId) (o : Nat × Nat) (ls : Array Slot),
    Ctx i p R s m args meth c D aC → Sc sc o s → o.1 ≤ s.heap.size → Rel D aC o w H → va_S (Up o) s.heap H locs → lv_has ls (mMax i) (lvA o lv) → Cap R s o cells slots w cap scap → Kont i p l e R s m args below meth c cells slots Q D aC o w Φ →
    W p l e R s m args below meth c H locs cells slots Q (F0 m pc ls (st.map (tr o)))
theorem Ok.weaken {sc : Option (Nat × (Nat → Int32))} {i pc : Nat} {lv : List (Option Value)} {st : List Value} {w : MW} {cap scap : Nat} {Φ Ψ : Option Value → MW → Prop} (h : Ok sc i pc lv st w cap scap Φ) (hi : ∀ r w', Φ r w' → Ψ r w') : Ok sc i pc lv st w cap scap Ψ :=
  fun p l e R s m args below meth c H locs cells slots Q D aC o ls C hsc ho hR hS hl hc hk => h p l e R s m args below meth c H locs cells slots Q D aC o ls C hsc ho hR hS hl hc (fun r w' pc' H' locs' ls' cells' slots' hΦ => hk r w' pc' H' locs' ls' cells' slots' (hi r w' hΦ))
def PcM (D : va_G) (aC : Nat → ClassId) (o : Nat × Nat) (w : MW) (vs : List Value) : Array Value → State → Prop := va_Pc (vs.map (tr o)) (fun U => Rel D aC o w U.heap ∧ KU D aC U)
def QcM (D : va_G) (aC : Nat → ClassId) (o : Nat × Nat) (Φ : Option Value → MW → Prop) : Array Value → State → Outcome → State → Prop := fun _ st oc t => ∃ (r : Option Value) (w' : MW), oc = .returned (r.map (tr o)) ∧ Φ r w' ∧ Rel D aC o w' t.heap ∧ va_F (Up o) st t
theorem PcM.blind (D : va_G) (aC : Nat → ClassId) (o : Nat × Nat) (w : MW) (vs : List Value) : FrameBlind (PcM D aC o w vs) := fun a U g mk q => ⟨q.1, q.2.1, KU.calling g mk a q.2.2⟩
abbrev cdW (i : Nat) : List Cond := Cond.code (mName i) (mCode i) (mMax i) (mRet i) :: GW
theorem met_ofW {l : Launch} {y : MethodName} {zs zs' : List Cond} {rm : Room} {Pc : Array Value → State → Prop} {Qc : Array Value → State → Outcome → State → Prop} {mc ms : Nat} {free : Addr → Prop} {cc : ByteArray} {maxL : Nat} {ret : Option FieldType}
    (hy : plainFor y = true) (hw : zs = Cond.code y cc maxL ret :: zs')
    (body : ∀ p e s m args below meth c s₁, BodyLoose p l y (headSpec zs rm) cc maxL ret e s m args below meth c s₁ → c.maxLocals = maxL → Pc args s →
      W p l e (headSpec zs rm).room s m args below meth c s.heap [] 0 0 (MQ below Qc args s mc ms free) (entryFrame m args maxL)) : Met l y zs rm Pc Qc mc ms free := by
  refine MetFree.of_bodySF (code := cc) (maxLocals := maxL) (ret := ret) hy ?_ ?_
  · intro args s m h hn
    have hc := Cond.code_spec hn (atoms_spec (ws := zs) h _ (by rw [hw]; exact List.mem_cons_self))
    obtain ⟨meth, c, h1, h2, h3, h4, h5, h6, -⟩ := hc
    exact ⟨meth, c, h1, h2, h3, h4, h5, h6⟩
  · intro p e s m args below meth c s₁ B hml hP _
    have hh0 : s₁.heap = s.heap := by rw [B.state]; rfl
    obtain ⟨t, a1, oc, b1, b2, b3⟩ := body p e s m args below meth c s₁ B hml hP s₁ hh0 (Stand.of_body B)
    exact ⟨t, oc, a1, b1, b2, b3⟩
theorem met_of {l : Launch} {i : Nat} {vs : List Value} {w : MW} {dc ds : Nat} {Φ : Option Value → MW → Prop} (hpl : plainFor (mName i) = true) (hlen : (argL vs).length ≤ mMax i) (h : Ok none i 0 (argL vs) [] w (w.length + dc) (wsz w + ds) Φ) (hΦ : ∀ r w', Φ r w' → w'.length = w.length + dc ∧ wsz w' = wsz w + ds) (D : va_G) (aC : Nat → ClassId) (o : Nat × Nat) :
    Met l (mName i) (cdW i) ({ frames := mFr i, cells := dc, slots := ds, locals := mLo i }) (PcM D aC o w vs) (QcM D aC o Φ) dc ds (Up o) := by
  refine met_ofW (cc := mCode i) (maxL := mMax i) (ret := mRet i) hpl rfl ?_
  intro p e s m args below meth c s₁ B hml hv
  obtain ⟨rfl, hR, hK⟩ := hv
  have hlocks : meth.locks = false := B.notSynchronized
  have hts := atoms_spec (ws := cdW i) B.pre
  have hl := lv_entry (vs.map (tr o)) (n := mMax i) (by rw [argL_len]; exact hlen)
  rw [lg_entry_eq]
  generalize (lg_sl (vs.map (tr o)) ++ List.replicate (mMax i - (lg_sl (vs.map (tr o))).length) Slot.unset).toArray = ls at hl ⊢
  have hl2 : lv_has ls (mMax i) (lvA o (argL vs)) := by
    refine ⟨hl.1, hl.2.1, fun q hq => ?_⟩
    obtain ⟨a, u⟩ := q
    obtain ⟨v0, h1, rfl⟩ := lvA_mem.mp hq
    have h2 := argL_mem o vs 0 a v0 h1
    rw [Nat.zero_add] at h2
    exact hl.2.2 _ h2
  refine h p l e _ s m _ below meth c s.heap [] 0 0 _ D aC o ls ⟨B.exec, B.bytes, hml, B.returns, findClass_of_methodNamed B.named, fun w hw => hts w (List.mem_cons_of_mem _ hw), hlocks, (name_of_methodNamed B.named B.method).1, hK, Nat.le_refl _, Nat.le_refl _⟩ trivial (by rw [hR.1]; omega) hR va_S.rf hl2 ⟨by rw [hR.1]; rfl, by omega, by omega, ?_, ?_⟩ ?_
  · show 0 + _ ≤ dc
    omega
  · show 0 + _ ≤ ds
    omega
  · intro r w' pc' H' locs' ls' cells' slots' hP hret hR' hS' hc1 hc2
    obtain ⟨e1, e2⟩ := hΦ r w' hP
    have hcc : cells' = dc := by omega
    have hss : slots' = ds := by omega
    subst hcc; subst hss
    have hq : ∀ t : State, t.heap = H' → s.WarmedH t.vm → QcM D aC o Φ (vs.map (tr o)).toArray s (.returned (r.map (tr o))) t := fun t ht _ => ⟨r, w', rfl, hP, by rw [ht]; exact hR', hS'.F ht⟩
    rcases hret with ⟨v, ty, rfl, hty, hn, hd⟩ | ⟨v, rfl, hty, hd⟩ | ⟨rfl, hty, hd⟩ | ⟨v, rt, rfl, hv, hty, hrt, hd⟩
    · exact W.zret B.exec B.bytes (B.returns.trans hty) hn hq hS'.2.2 hd
    · exact W.lret B.exec B.bytes (B.returns.trans hty) hq hS'.2.2 hd
    · exact W.vret B.exec B.bytes (B.returns.trans hty) hq hS'.2.2 hd
    · refine W.aret B.exec B.bytes (B.returns.trans hty) hrt ?_ hq hS'.2.2 hd
      rcases hv with rfl | ⟨k, rfl⟩
      · exact Or.inl rfl
      · exact Or.inr ⟨_, rfl⟩
theorem m_call {p : Program} {l : Launch} {e : Env} {R : Room} {s : State} {m : MethodId} {args : Array Value} {below : List Frame} {meth : Method} {c : Code} {H : Heap} {locs : List Loc} {cells slots mc ms : Nat} {Q : State → Prop} {pc : Nat} {ls : Array Slot} {st0 rest : List Value} {Qa : State → Outcome → State → Prop} {free : Addr → Prop} {A : Nat → Prop}
    (hr : va_Run p l e R s m args below meth c H locs cells slots mc ms (F0 m pc ls st0) rest Qa free) (hS : va_S A s.heap H locs) (hf : ∀ q, free q → A q)
    (kk : ∀ (v : Option Value) (st₀ t : State) (H1 : Heap) (locs1 : List Loc), st₀.heap = H → t.heap = H1 → Qa st₀ (.returned v) t → (∀ x ∈ locs1, A x.base) → W p l e R s m args below meth c H1 locs1 (cells + mc) (slots + ms) Q (F0 m (pc + 3) ls (v.toList ++ rest))) : W p l e R s m args below meth c H locs cells slots Q (F0 m pc ls st0) := by
  intro T hT X
  obtain ⟨v, st₀, t, T', L, h0, X', hL, e1, e2, hq, st⟩ := hr T hT X
  obtain ⟨t2, a1, b1⟩ := kk v st₀ t T'.heap (locs ++ L) h0 e1.symm hq (fun x hx => by
    rcases List.mem_append.mp hx with h | h
    · exact hS.2.2 x h
    · exact hf _ (hL x h)) T' rfl X'
  exact ⟨t2, st t2 a1, b1⟩
theorem w_bd {p : Program} {l : Launch} {e : Env} {R : Room} {s : State} {m : MethodId} {args : Array Value} {below : List Frame} {meth : Method} {c : Code} {H : Heap} {locs : List Loc} {cells slots : Nat} {Q : State → Prop} {g : JFrame} (h : H.size ≤ s.heap.size + cells → W p l e R s m args below meth c H locs cells slots Q g) : W p l e R s m args below meth c H locs cells slots Q g := fun T hT X => h (by rw [← hT]; exact X.heapSize) T hT X
theorem va_S_trans {A : Nat → Prop} {H0 H H1 : Heap} {locs locs1 : List Loc} (h : va_S A H0 H locs) (h1 : va_S A H H1 locs1) : va_S A H0 H1 locs1 := ⟨Nat.le_trans h.1 h1.1, fun q hq ha => (h1.2.1 q (Nat.lt_of_lt_of_le hq h.1) ha).trans (h.2.1 q hq ha), h1.2.2⟩
theorem va_S_self {A : Nat → Prop} {H0 H : Heap} {locs : List Loc} (h : va_S A H0 H locs) : va_S A H H locs := ⟨Nat.le_refl _, fun _ _ _ => rfl, h.2.2⟩
end
section
/-! a rule an instruction: what stands on the stack and in the locals alone -/
section RULES
variable {sc : Option (Nat × (Nat → Int32))} {i pc nx a b : Nat} {ws : List Nat} {cv : Value} {lv : List (Option Value)} {st : List Value} {w : MW} {cap scap : Nat} {Φ : Option Value → MW → Prop}
theorem r_iadd {x y : Int32} (hf : fetch i pc = some (.iadd, nx, a, b, ws, cv))  (h : Ok sc i nx lv (.int (x + y) :: st) w cap scap Φ) : Ok sc i pc lv (.int y :: .int x :: st) w cap scap Φ := by
  intro p l e R s m args below meth c H locs cells slots Q D aC o ls C hsc ho hR hS hl hc hk
  obtain ⟨hd, rfl, -⟩ := ck_dec hf rfl
  exact lv_iadd C.1 C.2.1 hd  (h p l e R s m args below meth c H locs cells slots Q D aC o ls C hsc ho hR hS hl hc hk)
theorem r_isub {x y : Int32} (hf : fetch i pc = some (.isub, nx, a, b, ws, cv))  (h : Ok sc i nx lv (.int (x - y) :: st) w cap scap Φ) : Ok sc i pc lv (.int y :: .int x :: st) w cap scap Φ := by
  intro p l e R s m args below meth c H locs cells slots Q D aC o ls C hsc ho hR hS hl hc hk
  obtain ⟨hd, rfl, -⟩ := ck_dec hf rfl
  exact lv_isub C.1 C.2.1 hd  (h p l e R s m args below meth c H locs cells slots Q D aC o ls C hsc ho hR hS hl hc hk)
theorem r_imul {x y : Int32} (hf : fetch i pc = some (.imul, nx, a, b, ws, cv))  (h : Ok sc i nx lv (.int (x * y) :: st) w cap scap Φ) : Ok sc i pc lv (.int y :: .int x :: st) w cap scap Φ := by
  intro p l e R s m args below meth c H locs cells slots Q D aC o ls C hsc ho hR hS hl hc hk
  obtain ⟨hd, rfl, -⟩ := ck_dec hf rfl
  exact lv_imul C.1 C.2.1 hd  (h p l e R s m args below meth c H locs cells slots Q D aC o ls C hsc ho hR hS hl hc hk)
theorem r_iand {x y : Int32} (hf : fetch i pc = some (.iand, nx, a, b, ws, cv))  (h : Ok sc i nx lv (.int (x &&& y) :: st) w cap scap Φ) : Ok sc i pc lv (.int y :: .int x :: st) w cap scap Φ := by
  intro p l e R s m args below meth c H locs cells slots Q D aC o ls C hsc ho hR hS hl hc hk
  obtain ⟨hd, rfl, -⟩ := ck_dec hf rfl
  exact lv_iand C.1 C.2.1 hd  (h p l e R s m args below meth c H locs cells slots Q D aC o ls C hsc ho hR hS hl hc hk)
theorem r_ior {x y : Int32} (hf : fetch i pc = some (.ior, nx, a, b, ws, cv))  (h : Ok sc i nx lv (.int (x ||| y) :: st) w cap scap Φ) : Ok sc i pc lv (.int y :: .int x :: st) w cap scap Φ := by
  intro p l e R s m args below meth c H locs cells slots Q D aC o ls C hsc ho hR hS hl hc hk
  obtain ⟨hd, rfl, -⟩ := ck_dec hf rfl
  exact lv_ior C.1 C.2.1 hd  (h p l e R s m args below meth c H locs cells slots Q D aC o ls C hsc ho hR hS hl hc hk)
theorem r_ishl {x y : Int32} (hf : fetch i pc = some (.ishl, nx, a, b, ws, cv))  (h : Ok sc i nx lv (.int (x <<< (y &&& 31)) :: st) w cap scap Φ) : Ok sc i pc lv (.int y :: .int x :: st) w cap scap Φ := by
  intro p l e R s m args below meth c H locs cells slots Q D aC o ls C hsc ho hR hS hl hc hk
  obtain ⟨hd, rfl, -⟩ := ck_dec hf rfl
  exact lv_ishl C.1 C.2.1 hd  (h p l e R s m args below meth c H locs cells slots Q D aC o ls C hsc ho hR hS hl hc hk)
theorem r_ishr {x y : Int32} (hf : fetch i pc = some (.ishr, nx, a, b, ws, cv))  (h : Ok sc i nx lv (.int (x >>> (y &&& 31)) :: st) w cap scap Φ) : Ok sc i pc lv (.int y :: .int x :: st) w cap scap Φ := by
  intro p l e R s m args below meth c H locs cells slots Q D aC o ls C hsc ho hR hS hl hc hk
  obtain ⟨hd, rfl, -⟩ := ck_dec hf rfl
  exact lv_ishr C.1 C.2.1 hd  (h p l e R s m args below meth c H locs cells slots Q D aC o ls C hsc ho hR hS hl hc hk)
theorem r_idiv {x y : Int32} (hf : fetch i pc = some (.idiv, nx, a, b, ws, cv)) (hne : ¬ y = 0) (h : Ok sc i nx lv (.int (x / y) :: st) w cap scap Φ) : Ok sc i pc lv (.int y :: .int x :: st) w cap scap Φ := by
  intro p l e R s m args below meth c H locs cells slots Q D aC o ls C hsc ho hR hS hl hc hk
  obtain ⟨hd, rfl, -⟩ := ck_dec hf rfl
  exact lv_idiv C.1 C.2.1 hd hne (h p l e R s m args below meth c H locs cells slots Q D aC o ls C hsc ho hR hS hl hc hk)
theorem r_irem {x y : Int32} (hf : fetch i pc = some (.irem, nx, a, b, ws, cv)) (hne : ¬ y = 0) (h : Ok sc i nx lv (.int (x - x / y * y) :: st) w cap scap Φ) : Ok sc i pc lv (.int y :: .int x :: st) w cap scap Φ := by
  intro p l e R s m args below meth c H locs cells slots Q D aC o ls C hsc ho hR hS hl hc hk
  obtain ⟨hd, rfl, -⟩ := ck_dec hf rfl
  exact lv_irem C.1 C.2.1 hd hne (h p l e R s m args below meth c H locs cells slots Q D aC o ls C hsc ho hR hS hl hc hk)
theorem r_ineg {x : Int32} (hf : fetch i pc = some (.ineg, nx, a, b, ws, cv))  (h : Ok sc i nx lv (.int (-x) :: st) w cap scap Φ) : Ok sc i pc lv (.int x :: st) w cap scap Φ := by
  intro p l e R s m args below meth c H locs cells slots Q D aC o ls C hsc ho hR hS hl hc hk
  obtain ⟨hd, rfl, -⟩ := ck_dec hf rfl
  exact lv_ineg C.1 C.2.1 hd  (h p l e R s m args below meth c H locs cells slots Q D aC o ls C hsc ho hR hS hl hc hk)
theorem r_ladd {x y : Int64} (hf : fetch i pc = some (.ladd, nx, a, b, ws, cv))  (h : Ok sc i nx lv (.long (x + y) :: st) w cap scap Φ) : Ok sc i pc lv (.long y :: .long x :: st) w cap scap Φ := by
  intro p l e R s m args below meth c H locs cells slots Q D aC o ls C hsc ho hR hS hl hc hk
  obtain ⟨hd, rfl, -⟩ := ck_dec hf rfl
  exact lv_ladd C.1 C.2.1 hd  (h p l e R s m args below meth c H locs cells slots Q D aC o ls C hsc ho hR hS hl hc hk)
theorem r_lmul {x y : Int64} (hf : fetch i pc = some (.lmul, nx, a, b, ws, cv))  (h : Ok sc i nx lv (.long (x * y) :: st) w cap scap Φ) : Ok sc i pc lv (.long y :: .long x :: st) w cap scap Φ := by
  intro p l e R s m args below meth c H locs cells slots Q D aC o ls C hsc ho hR hS hl hc hk
  obtain ⟨hd, rfl, -⟩ := ck_dec hf rfl
  exact lv_lmul C.1 C.2.1 hd  (h p l e R s m args below meth c H locs cells slots Q D aC o ls C hsc ho hR hS hl hc hk)
theorem r_lcmp {x y : Int64} (hf : fetch i pc = some (.lcmp, nx, a, b, ws, cv))  (h : Ok sc i nx lv (.int (lg_cmp x y) :: st) w cap scap Φ) : Ok sc i pc lv (.long y :: .long x :: st) w cap scap Φ := by
  intro p l e R s m args below meth c H locs cells slots Q D aC o ls C hsc ho hR hS hl hc hk
  obtain ⟨hd, rfl, -⟩ := ck_dec hf rfl
  exact W.lcmp C.1 C.2.1 hd  (h p l e R s m args below meth c H locs cells slots Q D aC o ls C hsc ho hR hS hl hc hk)
theorem r_i2l {x : Int32} (hf : fetch i pc = some (.i2l, nx, a, b, ws, cv))  (h : Ok sc i nx lv (.long x.toInt64 :: st) w cap scap Φ) : Ok sc i pc lv (.int x :: st) w cap scap Φ := by
  intro p l e R s m args below meth c H locs cells slots Q D aC o ls C hsc ho hR hS hl hc hk
  obtain ⟨hd, rfl, -⟩ := ck_dec hf rfl
  exact lv_i2l C.1 C.2.1 hd rfl (h p l e R s m args below meth c H locs cells slots Q D aC o ls C hsc ho hR hS hl hc hk)
theorem r_i2f {x : Int32} (hf : fetch i pc = some (.i2f, nx, a, b, ws, cv))  (h : Ok sc i nx lv (.float (FP.i2f x) :: st) w cap scap Φ) : Ok sc i pc lv (.int x :: st) w cap scap Φ := by
  intro p l e R s m args below meth c H locs cells slots Q D aC o ls C hsc ho hR hS hl hc hk
  obtain ⟨hd, rfl, -⟩ := ck_dec hf rfl
  exact lv_i2f C.1 C.2.1 hd  (h p l e R s m args below meth c H locs cells slots Q D aC o ls C hsc ho hR hS hl hc hk)
theorem r_f2i {x : UInt32} (hf : fetch i pc = some (.f2i, nx, a, b, ws, cv))  (h : Ok sc i nx lv (.int (FP.f2i x) :: st) w cap scap Φ) : Ok sc i pc lv (.float x :: st) w cap scap Φ := by
  intro p l e R s m args below meth c H locs cells slots Q D aC o ls C hsc ho hR hS hl hc hk
  obtain ⟨hd, rfl, -⟩ := ck_dec hf rfl
  exact lv_f2i C.1 C.2.1 hd  (h p l e R s m args below meth c H locs cells slots Q D aC o ls C hsc ho hR hS hl hc hk)
theorem r_fmul {x y : UInt32} (hf : fetch i pc = some (.fmul, nx, a, b, ws, cv)) (hne : vf_n32 (FP.fmul x y)) (h : Ok sc i nx lv (.float (FP.fmul x y) :: st) w cap scap Φ) : Ok sc i pc lv (.float y :: .float x :: st) w cap scap Φ := by
  intro p l e R s m args below meth c H locs cells slots Q D aC o ls C hsc ho hR hS hl hc hk
  obtain ⟨hd, rfl, -⟩ := ck_dec hf rfl
  exact lv_fmul C.1 C.2.1 hd hne (h p l e R s m args below meth c H locs cells slots Q D aC o ls C hsc ho hR hS hl hc hk)
theorem r_fdiv {x y : UInt32} (hf : fetch i pc = some (.fdiv, nx, a, b, ws, cv)) (hne : vf_n32 (FP.fdiv x y)) (h : Ok sc i nx lv (.float (FP.fdiv x y) :: st) w cap scap Φ) : Ok sc i pc lv (.float y :: .float x :: st) w cap scap Φ := by
  intro p l e R s m args below meth c H locs cells slots Q D aC o ls C hsc ho hR hS hl hc hk
  obtain ⟨hd, rfl, -⟩ := ck_dec hf rfl
  exact lv_fdiv C.1 C.2.1 hd hne (h p l e R s m args below meth c H locs cells slots Q D aC o ls C hsc ho hR hS hl hc hk)
theorem r_fsub {x y : UInt32} (hf : fetch i pc = some (.fsub, nx, a, b, ws, cv)) (hne : vf_n32 (FP.fsub x y)) (h : Ok sc i nx lv (.float (FP.fsub x y) :: st) w cap scap Φ) : Ok sc i pc lv (.float y :: .float x :: st) w cap scap Φ := by
  intro p l e R s m args below meth c H locs cells slots Q D aC o ls C hsc ho hR hS hl hc hk
  obtain ⟨hd, rfl, -⟩ := ck_dec hf rfl
  exact lv_fsub C.1 C.2.1 hd hne (h p l e R s m args below meth c H locs cells slots Q D aC o ls C hsc ho hR hS hl hc hk)
theorem r_fcmp {x y : UInt32} {op : CmpOp} (hf : fetch i pc = some (.fcmp op, nx, a, b, ws, cv))  (h : Ok sc i nx lv (.int (Op.cmpValue (FP.fcmp x y) op) :: st) w cap scap Φ) : Ok sc i pc lv (.float y :: .float x :: st) w cap scap Φ := by
  intro p l e R s m args below meth c H locs cells slots Q D aC o ls C hsc ho hR hS hl hc hk
  obtain ⟨hd, rfl, -⟩ := ck_dec hf rfl
  exact lv_fcmp C.1 C.2.1 hd  (h p l e R s m args below meth c H locs cells slots Q D aC o ls C hsc ho hR hS hl hc hk)
theorem r_iconst {n : Int} (hf : fetch i pc = some (.iconst n, nx, a, b, ws, cv))  (h : Ok sc i nx lv (.int (Int32.ofInt n) :: st) w cap scap Φ) : Ok sc i pc lv (st) w cap scap Φ := by
  intro p l e R s m args below meth c H locs cells slots Q D aC o ls C hsc ho hR hS hl hc hk
  obtain ⟨hd, rfl, -⟩ := ck_dec hf rfl
  exact lv_iconst C.1 C.2.1 hd rfl (h p l e R s m args below meth c H locs cells slots Q D aC o ls C hsc ho hR hS hl hc hk)
theorem r_bipush {n : Int} {v : Int32} (hf : fetch i pc = some (.bipush n, nx, a, b, ws, cv)) (hv : (Int8.ofInt n).toInt32 = v) (h : Ok sc i nx lv (.int v :: st) w cap scap Φ) : Ok sc i pc lv (st) w cap scap Φ := by
  intro p l e R s m args below meth c H locs cells slots Q D aC o ls C hsc ho hR hS hl hc hk
  obtain ⟨hd, rfl, -⟩ := ck_dec hf rfl
  exact lv_bipush C.1 C.2.1 hd hv (h p l e R s m args below meth c H locs cells slots Q D aC o ls C hsc ho hR hS hl hc hk)
theorem r_sipush {n : Int} {v : Int32} (hf : fetch i pc = some (.sipush n, nx, a, b, ws, cv)) (hv : (Int16.ofInt n).toInt32 = v) (h : Ok sc i nx lv (.int v :: st) w cap scap Φ) : Ok sc i pc lv (st) w cap scap Φ := by
  intro p l e R s m args below meth c H locs cells slots Q D aC o ls C hsc ho hR hS hl hc hk
  obtain ⟨hd, rfl, -⟩ := ck_dec hf rfl
  exact lv_sipush C.1 C.2.1 hd hv (h p l e R s m args below meth c H locs cells slots Q D aC o ls C hsc ho hR hS hl hc hk)
theorem r_fconst0  (hf : fetch i pc = some (.fconst 0, nx, a, b, ws, cv))  (h : Ok sc i nx lv (.float FP.fconst0 :: st) w cap scap Φ) : Ok sc i pc lv (st) w cap scap Φ := by
  intro p l e R s m args below meth c H locs cells slots Q D aC o ls C hsc ho hR hS hl hc hk
  obtain ⟨hd, rfl, -⟩ := ck_dec hf rfl
  exact lv_fconst0 C.1 C.2.1 hd  (h p l e R s m args below meth c H locs cells slots Q D aC o ls C hsc ho hR hS hl hc hk)
theorem r_fconst1  (hf : fetch i pc = some (.fconst 1, nx, a, b, ws, cv))  (h : Ok sc i nx lv (.float FP.fconst1 :: st) w cap scap Φ) : Ok sc i pc lv (st) w cap scap Φ := by
  intro p l e R s m args below meth c H locs cells slots Q D aC o ls C hsc ho hR hS hl hc hk
  obtain ⟨hd, rfl, -⟩ := ck_dec hf rfl
  exact lv_fconst1 C.1 C.2.1 hd  (h p l e R s m args below meth c H locs cells slots Q D aC o ls C hsc ho hR hS hl hc hk)
theorem r_fconst2  (hf : fetch i pc = some (.fconst 2, nx, a, b, ws, cv))  (h : Ok sc i nx lv (.float FP.fconst2 :: st) w cap scap Φ) : Ok sc i pc lv (st) w cap scap Φ := by
  intro p l e R s m args below meth c H locs cells slots Q D aC o ls C hsc ho hR hS hl hc hk
  obtain ⟨hd, rfl, -⟩ := ck_dec hf rfl
  exact lv_fconst2 C.1 C.2.1 hd  (h p l e R s m args below meth c H locs cells slots Q D aC o ls C hsc ho hR hS hl hc hk)
theorem r_null  (hf : fetch i pc = some (.aconst_null, nx, a, b, ws, cv))  (h : Ok sc i nx lv (.null :: st) w cap scap Φ) : Ok sc i pc lv (st) w cap scap Φ := by
  intro p l e R s m args below meth c H locs cells slots Q D aC o ls C hsc ho hR hS hl hc hk
  obtain ⟨hd, rfl, -⟩ := ck_dec hf rfl
  exact lv_null C.1 C.2.1 hd  (h p l e R s m args below meth c H locs cells slots Q D aC o ls C hsc ho hR hS hl hc hk)
theorem r_dup {v : Value} (hf : fetch i pc = some (.dup, nx, a, b, ws, cv)) (hv : v.category = 1) (h : Ok sc i nx lv (v :: v :: st) w cap scap Φ) : Ok sc i pc lv (v :: st) w cap scap Φ := by
  intro p l e R s m args below meth c H locs cells slots Q D aC o ls C hsc ho hR hS hl hc hk
  obtain ⟨hd, rfl, -⟩ := ck_dec hf rfl
  exact lv_dup C.1 C.2.1 hd ((tr_cat o v).trans hv) (h p l e R s m args below meth c H locs cells slots Q D aC o ls C hsc ho hR hS hl hc hk)
theorem r_dup2 {v u : Value} (hf : fetch i pc = some (.dup2, nx, a, b, ws, cv)) (hv : v.category = 1) (hu : u.category = 1) (h : Ok sc i nx lv (v :: u :: v :: u :: st) w cap scap Φ) : Ok sc i pc lv (v :: u :: st) w cap scap Φ := by
  intro p l e R s m args below meth c H locs cells slots Q D aC o ls C hsc ho hR hS hl hc hk
  obtain ⟨hd, rfl, -⟩ := ck_dec hf rfl
  exact lv_dup2_11 C.1 C.2.1 hd ((tr_cat o v).trans hv) ((tr_cat o u).trans hu) (h p l e R s m args below meth c H locs cells slots Q D aC o ls C hsc ho hR hS hl hc hk)
theorem r_iload_n {k : Fin 4} {x : Int32} (hf : fetch i pc = some (.iload_n k, nx, a, b, ws, cv)) (hv : lv[(k : Nat)]? = some (some (.int x))) (h : Ok sc i nx lv (.int x :: st) w cap scap Φ) : Ok sc i pc lv (st) w cap scap Φ := by
  intro p l e R s m args below meth c H locs cells slots Q D aC o ls C hsc ho hR hS hl hc hk
  obtain ⟨hd, rfl, -⟩ := ck_dec hf rfl
  exact lv_iload_n C.1 C.2.1 hd rfl (lvA_at hl hv) (h p l e R s m args below meth c H locs cells slots Q D aC o ls C hsc ho hR hS hl hc hk)
theorem r_iload {k : Nat} {x : Int32} (hf : fetch i pc = some (.iload k, nx, a, b, ws, cv)) (hv : lv[k]? = some (some (.int x))) (h : Ok sc i nx lv (.int x :: st) w cap scap Φ) : Ok sc i pc lv (st) w cap scap Φ := by
  intro p l e R s m args below meth c H locs cells slots Q D aC o ls C hsc ho hR hS hl hc hk
  obtain ⟨hd, rfl, -⟩ := ck_dec hf rfl
  exact lv_iload C.1 C.2.1 hd (lvA_at hl hv) (h p l e R s m args below meth c H locs cells slots Q D aC o ls C hsc ho hR hS hl hc hk)
theorem r_lload_n {k : Fin 4} {x : Int64} (hf : fetch i pc = some (.lload_n k, nx, a, b, ws, cv)) (hv : lv[(k : Nat)]? = some (some (.long x))) (h : Ok sc i nx lv (.long x :: st) w cap scap Φ) : Ok sc i pc lv (st) w cap scap Φ := by
  intro p l e R s m args below meth c H locs cells slots Q D aC o ls C hsc ho hR hS hl hc hk
  obtain ⟨hd, rfl, -⟩ := ck_dec hf rfl
  exact lv_lload_n C.1 C.2.1 hd rfl (lvA_at hl hv) (h p l e R s m args below meth c H locs cells slots Q D aC o ls C hsc ho hR hS hl hc hk)
theorem r_fload_n {k : Fin 4} {x : UInt32} (hf : fetch i pc = some (.fload_n k, nx, a, b, ws, cv)) (hv : lv[(k : Nat)]? = some (some (.float x))) (h : Ok sc i nx lv (.float x :: st) w cap scap Φ) : Ok sc i pc lv (st) w cap scap Φ := by
  intro p l e R s m args below meth c H locs cells slots Q D aC o ls C hsc ho hR hS hl hc hk
  obtain ⟨hd, rfl, -⟩ := ck_dec hf rfl
  exact lv_fload_n C.1 C.2.1 hd rfl (lvA_at hl hv) (h p l e R s m args below meth c H locs cells slots Q D aC o ls C hsc ho hR hS hl hc hk)
theorem r_aload_n {k : Fin 4} {x : Nat} (hf : fetch i pc = some (.aload_n k, nx, a, b, ws, cv)) (hv : lv[(k : Nat)]? = some (some (.ref x))) (h : Ok sc i nx lv (.ref x :: st) w cap scap Φ) : Ok sc i pc lv (st) w cap scap Φ := by
  intro p l e R s m args below meth c H locs cells slots Q D aC o ls C hsc ho hR hS hl hc hk
  obtain ⟨hd, rfl, -⟩ := ck_dec hf rfl
  exact lv_aload_n C.1 C.2.1 hd rfl (lvA_at hl hv) (h p l e R s m args below meth c H locs cells slots Q D aC o ls C hsc ho hR hS hl hc hk)
theorem r_aload {k : Nat} {x : Nat} (hf : fetch i pc = some (.aload k, nx, a, b, ws, cv)) (hv : lv[k]? = some (some (.ref x))) (h : Ok sc i nx lv (.ref x :: st) w cap scap Φ) : Ok sc i pc lv (st) w cap scap Φ := by
  intro p l e R s m args below meth c H locs cells slots Q D aC o ls C hsc ho hR hS hl hc hk
  obtain ⟨hd, rfl, -⟩ := ck_dec hf rfl
  exact lv_aload C.1 C.2.1 hd (lvA_at hl hv) (h p l e R s m args below meth c H locs cells slots Q D aC o ls C hsc ho hR hS hl hc hk)
theorem r_aload_nN {k : Fin 4} (hf : fetch i pc = some (.aload_n k, nx, a, b, ws, cv)) (hv : lv[(k : Nat)]? = some (some .null)) (h : Ok sc i nx lv (.null :: st) w cap scap Φ) : Ok sc i pc lv (st) w cap scap Φ := by
  intro p l e R s m args below meth c H locs cells slots Q D aC o ls C hsc ho hR hS hl hc hk
  obtain ⟨hd, rfl, -⟩ := ck_dec hf rfl
  exact lv_aload_nN C.1 C.2.1 hd rfl (lvA_at hl hv) (h p l e R s m args below meth c H locs cells slots Q D aC o ls C hsc ho hR hS hl hc hk)
theorem r_istore_n {k : Fin 4} {x : Int32} (hf : fetch i pc = some (.istore_n k, nx, a, b, ws, cv)) (hn : (k : Nat) < mMax i) (hg : stG lv (k : Nat) = true) (h : Ok sc i nx (lv.set (k : Nat) (some (.int x))) st w cap scap Φ) : Ok sc i pc lv (.int x :: st) w cap scap Φ := by
  intro p l e R s m args below meth c H locs cells slots Q D aC o ls C hsc ho hR hS hl hc hk
  obtain ⟨hd, rfl, -⟩ := ck_dec hf rfl
  exact lv_istore_n C.1 C.2.1 hd rfl hl hn rfl (fun ls' hl' => h p l e R s m args below meth c H locs cells slots Q D aC o ls' C hsc ho hR hS (lvA_st1 (v := .int x) hg hl') hc hk)
theorem r_istore {k : Nat} {x : Int32} (hf : fetch i pc = some (.istore k, nx, a, b, ws, cv)) (hn : k < mMax i) (hg : stG lv k = true) (h : Ok sc i nx (lv.set k (some (.int x))) st w cap scap Φ) : Ok sc i pc lv (.int x :: st) w cap scap Φ := by
  intro p l e R s m args below meth c H locs cells slots Q D aC o ls C hsc ho hR hS hl hc hk
  obtain ⟨hd, rfl, -⟩ := ck_dec hf rfl
  exact lv_istore C.1 C.2.1 hd  hl hn rfl (fun ls' hl' => h p l e R s m args below meth c H locs cells slots Q D aC o ls' C hsc ho hR hS (lvA_st1 (v := .int x) hg hl') hc hk)
theorem r_astore_n {k : Fin 4} {x : Nat} (hf : fetch i pc = some (.astore_n k, nx, a, b, ws, cv)) (hn : (k : Nat) < mMax i) (hg : stG lv (k : Nat) = true) (h : Ok sc i nx (lv.set (k : Nat) (some (.ref x))) st w cap scap Φ) : Ok sc i pc lv (.ref x :: st) w cap scap Φ := by
  intro p l e R s m args below meth c H locs cells slots Q D aC o ls C hsc ho hR hS hl hc hk
  obtain ⟨hd, rfl, -⟩ := ck_dec hf rfl
  exact lv_astore_n C.1 C.2.1 hd rfl hl hn rfl (fun ls' hl' => h p l e R s m args below meth c H locs cells slots Q D aC o ls' C hsc ho hR hS (lvA_st1 (v := .ref x) hg hl') hc hk)
theorem r_astore_nN {k : Fin 4} (hf : fetch i pc = some (.astore_n k, nx, a, b, ws, cv)) (hn : (k : Nat) < mMax i) (hg : stG lv (k : Nat) = true) (h : Ok sc i nx (lv.set (k : Nat) (some (.null))) st w cap scap Φ) : Ok sc i pc lv (.null :: st) w cap scap Φ := by
  intro p l e R s m args below meth c H locs cells slots Q D aC o ls C hsc ho hR hS hl hc hk
  obtain ⟨hd, rfl, -⟩ := ck_dec hf rfl
  exact lv_astore_nN C.1 C.2.1 hd rfl hl hn rfl (fun ls' hl' => h p l e R s m args below meth c H locs cells slots Q D aC o ls' C hsc ho hR hS (lvA_st1 (v := .null) hg hl') hc hk)
theorem r_astore {k : Nat} {x : Nat} (hf : fetch i pc = some (.astore k, nx, a, b, ws, cv)) (hn : k < mMax i) (hg : stG lv k = true) (h : Ok sc i nx (lv.set k (some (.ref x))) st w cap scap Φ) : Ok sc i pc lv (.ref x :: st) w cap scap Φ := by
  intro p l e R s m args below meth c H locs cells slots Q D aC o ls C hsc ho hR hS hl hc hk
  obtain ⟨hd, rfl, -⟩ := ck_dec hf rfl
  exact lv_astore C.1 C.2.1 hd  hl hn rfl (fun ls' hl' => h p l e R s m args below meth c H locs cells slots Q D aC o ls' C hsc ho hR hS (lvA_st1 (v := .ref x) hg hl') hc hk)
theorem r_fstore_n {k : Fin 4} {x : UInt32} (hf : fetch i pc = some (.fstore_n k, nx, a, b, ws, cv)) (hn : (k : Nat) < mMax i) (hg : stG lv (k : Nat) = true) (h : Ok sc i nx (lv.set (k : Nat) (some (.float x))) st w cap scap Φ) : Ok sc i pc lv (.float x :: st) w cap scap Φ := by
  intro p l e R s m args below meth c H locs cells slots Q D aC o ls C hsc ho hR hS hl hc hk
  obtain ⟨hd, rfl, -⟩ := ck_dec hf rfl
  exact lv_fstore_n C.1 C.2.1 hd rfl hl hn rfl (fun ls' hl' => h p l e R s m args below meth c H locs cells slots Q D aC o ls' C hsc ho hR hS (lvA_st1 (v := .float x) hg hl') hc hk)
theorem r_lstore_n {k : Fin 4} {x : Int64} (hf : fetch i pc = some (.lstore_n k, nx, a, b, ws, cv)) (hn : (k : Nat) + 1 < mMax i) (hg : stG lv (k : Nat) = true) (h : Ok sc i nx ((lv.set (k : Nat) (some (.long x))).set ((k : Nat) + 1) none) st w cap scap Φ) : Ok sc i pc lv (.long x :: st) w cap scap Φ := by
  intro p l e R s m args below meth c H locs cells slots Q D aC o ls C hsc ho hR hS hl hc hk
  obtain ⟨hd, rfl, -⟩ := ck_dec hf rfl
  exact lv_lstore_n C.1 C.2.1 hd rfl hl hn rfl (fun ls' hl' => h p l e R s m args below meth c H locs cells slots Q D aC o ls' C hsc ho hR hS (lvA_st2 (v := .long x) hg hl') hc hk)
theorem r_iinc {k : Nat} {n : Int} {x : Int32} (hf : fetch i pc = some (.iinc k n, nx, a, b, ws, cv)) (hv : lv[k]? = some (some (.int x))) (hn : k < mMax i) (hg : stG lv k = true) (h : Ok sc i nx (lv.set k (some (.int (x + Int32.ofInt n)))) st w cap scap Φ) : Ok sc i pc lv st w cap scap Φ := by
  intro p l e R s m args below meth c H locs cells slots Q D aC o ls C hsc ho hR hS hl hc hk
  obtain ⟨hd, rfl, -⟩ := ck_dec hf rfl
  obtain ⟨q, hq⟩ := List.getElem?_of_mem (lvA_mem (o := o).mpr ⟨_, hv, rfl⟩)
  exact lv_iinc C.1 C.2.1 hd hl hq rfl hn rfl (fun ls' hl' => h p l e R s m args below meth c H locs cells slots Q D aC o ls' C hsc ho hR hS (lvA_st1 (v := .int (x + Int32.ofInt n)) hg hl') hc hk)
theorem r_goto {off : Int} (hf : fetch i pc = some (.goto off, nx, a, b, ws, cv)) (h : Ok sc i a lv st w cap scap Φ) : Ok sc i pc lv st w cap scap Φ := by
  intro p l e R s m args below meth c H locs cells slots Q D aC o ls C hsc ho hR hS hl hc hk
  obtain ⟨hd, rfl, ht⟩ := ck_dec hf rfl
  exact lv_goto C.1 C.2.1 hd (of_decide_eq_true ht) (h p l e R s m args below meth c H locs cells slots Q D aC o ls C hsc ho hR hS hl hc hk)
theorem r_icmp_eq {x y : Int32} {off : Int} (hf : fetch i pc = some (.if_icmp .eq off, nx, a, b, ws, cv)) (ht : x = y → Ok sc i a lv st w cap scap Φ) (hn : ¬ x = y → Ok sc i nx lv st w cap scap Φ) : Ok sc i pc lv (.int y :: .int x :: st) w cap scap Φ := by
  intro p l e R s m args below meth c H locs cells slots Q D aC o ls C hsc ho hR hS hl hc hk
  obtain ⟨hd, rfl, hg⟩ := ck_dec hf rfl
  exact lv_icmp_eq C.1 C.2.1 hd (of_decide_eq_true hg) (fun q => ht q p l e R s m args below meth c H locs cells slots Q D aC o ls C hsc ho hR hS hl hc hk) (fun q => hn q p l e R s m args below meth c H locs cells slots Q D aC o ls C hsc ho hR hS hl hc hk)
theorem r_if_eq {x : Int32} {off : Int} (hf : fetch i pc = some (.ifCond .eq off, nx, a, b, ws, cv)) (ht : x = 0 → Ok sc i a lv st w cap scap Φ) (hn : ¬ x = 0 → Ok sc i nx lv st w cap scap Φ) : Ok sc i pc lv (.int x :: st) w cap scap Φ := by
  intro p l e R s m args below meth c H locs cells slots Q D aC o ls C hsc ho hR hS hl hc hk
  obtain ⟨hd, rfl, hg⟩ := ck_dec hf rfl
  exact lv_if_eq C.1 C.2.1 hd (of_decide_eq_true hg) (fun q => ht q p l e R s m args below meth c H locs cells slots Q D aC o ls C hsc ho hR hS hl hc hk) (fun q => hn q p l e R s m args below meth c H locs cells slots Q D aC o ls C hsc ho hR hS hl hc hk)
theorem r_icmp_ne {x y : Int32} {off : Int} (hf : fetch i pc = some (.if_icmp .ne off, nx, a, b, ws, cv)) (ht : ¬ x = y → Ok sc i a lv st w cap scap Φ) (hn : x = y → Ok sc i nx lv st w cap scap Φ) : Ok sc i pc lv (.int y :: .int x :: st) w cap scap Φ := by
  intro p l e R s m args below meth c H locs cells slots Q D aC o ls C hsc ho hR hS hl hc hk
  obtain ⟨hd, rfl, hg⟩ := ck_dec hf rfl
  exact lv_icmp_ne C.1 C.2.1 hd (of_decide_eq_true hg) (fun q => ht q p l e R s m args below meth c H locs cells slots Q D aC o ls C hsc ho hR hS hl hc hk) (fun q => hn q p l e R s m args below meth c H locs cells slots Q D aC o ls C hsc ho hR hS hl hc hk)
theorem r_if_ne {x : Int32} {off : Int} (hf : fetch i pc = some (.ifCond .ne off, nx, a, b, ws, cv)) (ht : ¬ x = 0 → Ok sc i a lv st w cap scap Φ) (hn : x = 0 → Ok sc i nx lv st w cap scap Φ) : Ok sc i pc lv (.int x :: st) w cap scap Φ := by
  intro p l e R s m args below meth c H locs cells slots Q D aC o ls C hsc ho hR hS hl hc hk
  obtain ⟨hd, rfl, hg⟩ := ck_dec hf rfl
  exact lv_if_ne C.1 C.2.1 hd (of_decide_eq_true hg) (fun q => ht q p l e R s m args below meth c H locs cells slots Q D aC o ls C hsc ho hR hS hl hc hk) (fun q => hn q p l e R s m args below meth c H locs cells slots Q D aC o ls C hsc ho hR hS hl hc hk)
theorem r_icmp_lt {x y : Int32} {off : Int} (hf : fetch i pc = some (.if_icmp .lt off, nx, a, b, ws, cv)) (ht : x < y → Ok sc i a lv st w cap scap Φ) (hn : ¬ x < y → Ok sc i nx lv st w cap scap Φ) : Ok sc i pc lv (.int y :: .int x :: st) w cap scap Φ := by
  intro p l e R s m args below meth c H locs cells slots Q D aC o ls C hsc ho hR hS hl hc hk
  obtain ⟨hd, rfl, hg⟩ := ck_dec hf rfl
  exact lv_icmp_lt C.1 C.2.1 hd (of_decide_eq_true hg) (fun q => ht q p l e R s m args below meth c H locs cells slots Q D aC o ls C hsc ho hR hS hl hc hk) (fun q => hn q p l e R s m args below meth c H locs cells slots Q D aC o ls C hsc ho hR hS hl hc hk)
theorem r_if_lt {x : Int32} {off : Int} (hf : fetch i pc = some (.ifCond .lt off, nx, a, b, ws, cv)) (ht : x < 0 → Ok sc i a lv st w cap scap Φ) (hn : ¬ x < 0 → Ok sc i nx lv st w cap scap Φ) : Ok sc i pc lv (.int x :: st) w cap scap Φ := by
  intro p l e R s m args below meth c H locs cells slots Q D aC o ls C hsc ho hR hS hl hc hk
  obtain ⟨hd, rfl, hg⟩ := ck_dec hf rfl
  exact lv_if_lt C.1 C.2.1 hd (of_decide_eq_true hg) (fun q => ht q p l e R s m args below meth c H locs cells slots Q D aC o ls C hsc ho hR hS hl hc hk) (fun q => hn q p l e R s m args below meth c H locs cells slots Q D aC o ls C hsc ho hR hS hl hc hk)
theorem r_icmp_ge {x y : Int32} {off : Int} (hf : fetch i pc = some (.if_icmp .ge off, nx, a, b, ws, cv)) (ht : y ≤ x → Ok sc i a lv st w cap scap Φ) (hn : ¬ y ≤ x → Ok sc i nx lv st w cap scap Φ) : Ok sc i pc lv (.int y :: .int x :: st) w cap scap Φ := by
  intro p l e R s m args below meth c H locs cells slots Q D aC o ls C hsc ho hR hS hl hc hk
  obtain ⟨hd, rfl, hg⟩ := ck_dec hf rfl
  exact lv_icmp_ge C.1 C.2.1 hd (of_decide_eq_true hg) (fun q => ht q p l e R s m args below meth c H locs cells slots Q D aC o ls C hsc ho hR hS hl hc hk) (fun q => hn q p l e R s m args below meth c H locs cells slots Q D aC o ls C hsc ho hR hS hl hc hk)
theorem r_if_ge {x : Int32} {off : Int} (hf : fetch i pc = some (.ifCond .ge off, nx, a, b, ws, cv)) (ht : 0 ≤ x → Ok sc i a lv st w cap scap Φ) (hn : ¬ 0 ≤ x → Ok sc i nx lv st w cap scap Φ) : Ok sc i pc lv (.int x :: st) w cap scap Φ := by
  intro p l e R s m args below meth c H locs cells slots Q D aC o ls C hsc ho hR hS hl hc hk
  obtain ⟨hd, rfl, hg⟩ := ck_dec hf rfl
  exact lv_if_ge C.1 C.2.1 hd (of_decide_eq_true hg) (fun q => ht q p l e R s m args below meth c H locs cells slots Q D aC o ls C hsc ho hR hS hl hc hk) (fun q => hn q p l e R s m args below meth c H locs cells slots Q D aC o ls C hsc ho hR hS hl hc hk)
theorem r_icmp_gt {x y : Int32} {off : Int} (hf : fetch i pc = some (.if_icmp .gt off, nx, a, b, ws, cv)) (ht : y < x → Ok sc i a lv st w cap scap Φ) (hn : ¬ y < x → Ok sc i nx lv st w cap scap Φ) : Ok sc i pc lv (.int y :: .int x :: st) w cap scap Φ := by
  intro p l e R s m args below meth c H locs cells slots Q D aC o ls C hsc ho hR hS hl hc hk
  obtain ⟨hd, rfl, hg⟩ := ck_dec hf rfl
  exact lv_icmp_gt C.1 C.2.1 hd (of_decide_eq_true hg) (fun q => ht q p l e R s m args below meth c H locs cells slots Q D aC o ls C hsc ho hR hS hl hc hk) (fun q => hn q p l e R s m args below meth c H locs cells slots Q D aC o ls C hsc ho hR hS hl hc hk)
theorem r_if_gt {x : Int32} {off : Int} (hf : fetch i pc = some (.ifCond .gt off, nx, a, b, ws, cv)) (ht : 0 < x → Ok sc i a lv st w cap scap Φ) (hn : ¬ 0 < x → Ok sc i nx lv st w cap scap Φ) : Ok sc i pc lv (.int x :: st) w cap scap Φ := by
  intro p l e R s m args below meth c H locs cells slots Q D aC o ls C hsc ho hR hS hl hc hk
  obtain ⟨hd, rfl, hg⟩ := ck_dec hf rfl
  exact lv_if_gt C.1 C.2.1 hd (of_decide_eq_true hg) (fun q => ht q p l e R s m args below meth c H locs cells slots Q D aC o ls C hsc ho hR hS hl hc hk) (fun q => hn q p l e R s m args below meth c H locs cells slots Q D aC o ls C hsc ho hR hS hl hc hk)
theorem r_icmp_le {x y : Int32} {off : Int} (hf : fetch i pc = some (.if_icmp .le off, nx, a, b, ws, cv)) (ht : x ≤ y → Ok sc i a lv st w cap scap Φ) (hn : ¬ x ≤ y → Ok sc i nx lv st w cap scap Φ) : Ok sc i pc lv (.int y :: .int x :: st) w cap scap Φ := by
  intro p l e R s m args below meth c H locs cells slots Q D aC o ls C hsc ho hR hS hl hc hk
  obtain ⟨hd, rfl, hg⟩ := ck_dec hf rfl
  exact lv_icmp_le C.1 C.2.1 hd (of_decide_eq_true hg) (fun q => ht q p l e R s m args below meth c H locs cells slots Q D aC o ls C hsc ho hR hS hl hc hk) (fun q => hn q p l e R s m args below meth c H locs cells slots Q D aC o ls C hsc ho hR hS hl hc hk)
theorem r_if_le {x : Int32} {off : Int} (hf : fetch i pc = some (.ifCond .le off, nx, a, b, ws, cv)) (ht : x ≤ 0 → Ok sc i a lv st w cap scap Φ) (hn : ¬ x ≤ 0 → Ok sc i nx lv st w cap scap Φ) : Ok sc i pc lv (.int x :: st) w cap scap Φ := by
  intro p l e R s m args below meth c H locs cells slots Q D aC o ls C hsc ho hR hS hl hc hk
  obtain ⟨hd, rfl, hg⟩ := ck_dec hf rfl
  exact lv_if_le C.1 C.2.1 hd (of_decide_eq_true hg) (fun q => ht q p l e R s m args below meth c H locs cells slots Q D aC o ls C hsc ho hR hS hl hc hk) (fun q => hn q p l e R s m args below meth c H locs cells slots Q D aC o ls C hsc ho hR hS hl hc hk)
theorem r_ifnonnull {x : Nat} {off : Int} (hf : fetch i pc = some (.ifnonnull off, nx, a, b, ws, cv)) (h : Ok sc i a lv st w cap scap Φ) : Ok sc i pc lv (.ref x :: st) w cap scap Φ := by
  intro p l e R s m args below meth c H locs cells slots Q D aC o ls C hsc ho hR hS hl hc hk
  obtain ⟨hd, rfl, hg⟩ := ck_dec hf rfl
  exact lv_ifnonnull C.1 C.2.1 hd (of_decide_eq_true hg) (h p l e R s m args below meth c H locs cells slots Q D aC o ls C hsc ho hR hS hl hc hk)
theorem r_ifnonnullN {off : Int} (hf : fetch i pc = some (.ifnonnull off, nx, a, b, ws, cv)) (h : Ok sc i nx lv st w cap scap Φ) : Ok sc i pc lv (.null :: st) w cap scap Φ := by
  intro p l e R s m args below meth c H locs cells slots Q D aC o ls C hsc ho hR hS hl hc hk
  obtain ⟨hd, rfl, hg⟩ := ck_dec hf rfl
  exact lv_ifnonnullN C.1 C.2.1 hd (h p l e R s m args below meth c H locs cells slots Q D aC o ls C hsc ho hR hS hl hc hk)
theorem r_swOut {dflt lo hi : Int} {offs : Array Int} {x : Int32} {tgt : Nat} (hf : fetch i pc = some (.tableswitch dflt lo hi offs, nx, a, b, ws, cv)) (hx : x.toInt < lo ∨ hi < x.toInt) (ht : (pc : Int) + dflt = (tgt : Int)) (h : Ok sc i tgt lv st w cap scap Φ) : Ok sc i pc lv (.int x :: st) w cap scap Φ := by
  intro p l e R s m args below meth c H locs cells slots Q D aC o ls C hsc ho hR hS hl hc hk
  exact lv_tableOut C.1 C.2.1 (ck_sw hf) hx ht (h p l e R s m args below meth c H locs cells slots Q D aC o ls C hsc ho hR hS hl hc hk)
theorem r_swIn {dflt lo hi off : Int} {offs : Array Int} {x : Int32} {tgt : Nat} (hf : fetch i pc = some (.tableswitch dflt lo hi offs, nx, a, b, ws, cv)) (h1 : ¬ x.toInt < lo) (h2 : ¬ hi < x.toInt) (h3 : offs[(x.toInt - lo).toNat]? = some off) (ht : (pc : Int) + off = (tgt : Int)) (h : Ok sc i tgt lv st w cap scap Φ) : Ok sc i pc lv (.int x :: st) w cap scap Φ := by
  intro p l e R s m args below meth c H locs cells slots Q D aC o ls C hsc ho hR hS hl hc hk
  exact lv_tableIn C.1 C.2.1 (ck_sw hf) h1 h2 h3 ht (h p l e R s m args below meth c H locs cells slots Q D aC o ls C hsc ho hR hS hl hc hk)
theorem r_ldc {v : Int32} {idx w1 : Nat} (hf : fetch i pc = some (.ldc idx, nx, a, b, [w1], .int v)) (h : Ok sc i nx lv (.int v :: st) w cap scap Φ) : Ok sc i pc lv st w cap scap Φ := by
  intro p l e R s m args below meth c H locs cells slots Q D aC o ls C hsc ho hR hS hl hc hk
  obtain ⟨hd, rfl, hg⟩ := ck_dec hf rfl
  exact lv_ldc C.1 C.2.1 C.2.2.2.2.1 (C.2.2.2.2.2.1 _ (wk_mem hg)) hd (h p l e R s m args below meth c H locs cells slots Q D aC o ls C hsc ho hR hS hl hc hk)
theorem r_ldcf {v : UInt32} {idx w1 : Nat} (hf : fetch i pc = some (.ldc idx, nx, a, b, [w1], .float v)) (h : Ok sc i nx lv (.float v :: st) w cap scap Φ) : Ok sc i pc lv st w cap scap Φ := by
  intro p l e R s m args below meth c H locs cells slots Q D aC o ls C hsc ho hR hS hl hc hk
  obtain ⟨hd, rfl, hg⟩ := ck_dec hf rfl
  exact lv_ldcf C.1 C.2.1 C.2.2.2.2.1 (C.2.2.2.2.2.1 _ (wk_mem hg)) hd (h p l e R s m args below meth c H locs cells slots Q D aC o ls C hsc ho hR hS hl hc hk)
theorem r_ldc2 {v : Int64} {idx w1 : Nat} (hf : fetch i pc = some (.ldc2_w idx, nx, a, b, [w1], .long v)) (h : Ok sc i nx lv (.long v :: st) w cap scap Φ) : Ok sc i pc lv st w cap scap Φ := by
  intro p l e R s m args below meth c H locs cells slots Q D aC o ls C hsc ho hR hS hl hc hk
  obtain ⟨hd, rfl, hg⟩ := ck_dec hf rfl
  exact lv_ldc2 C.1 C.2.1 C.2.2.2.2.1 (C.2.2.2.2.2.1 _ (wk_mem hg)) hd (h p l e R s m args below meth c H locs cells slots Q D aC o ls C hsc ho hR hS hl hc hk)
theorem r_iret {x : Int32} {ty : FieldType} (hf : fetch i pc = some (.ireturn, nx, a, b, ws, cv)) (hty : mRet i = some ty) (hn : narrow ty (.int x) = .int x) (hΦ : Φ (some (.int x)) w) : Ok sc i pc lv [.int x] w cap scap Φ := by
  intro p l e R s m args below meth c H locs cells slots Q D aC o ls C hsc ho hR hS hl hc hk
  obtain ⟨hd, -, -⟩ := ck_dec hf rfl
  exact hk _ w pc H locs ls cells slots hΦ (Or.inl ⟨x, ty, rfl, hty, hn, hd⟩) hR hS rfl rfl
theorem r_lret {x : Int64} (hf : fetch i pc = some (.lreturn, nx, a, b, ws, cv)) (hty : mRet i = some .long) (hΦ : Φ (some (.long x)) w) : Ok sc i pc lv [.long x] w cap scap Φ := by
  intro p l e R s m args below meth c H locs cells slots Q D aC o ls C hsc ho hR hS hl hc hk
  obtain ⟨hd, -, -⟩ := ck_dec hf rfl
  exact hk _ w pc H locs ls cells slots hΦ (Or.inr (Or.inl ⟨x, rfl, hty, hd⟩)) hR hS rfl rfl
theorem r_vret (hf : fetch i pc = some (.return_, nx, a, b, ws, cv)) (hty : mRet i = none) (hΦ : Φ none w) : Ok sc i pc lv [] w cap scap Φ := by
  intro p l e R s m args below meth c H locs cells slots Q D aC o ls C hsc ho hR hS hl hc hk
  obtain ⟨hd, -, -⟩ := ck_dec hf rfl
  exact hk _ w pc H locs ls cells slots hΦ (Or.inr (Or.inr (Or.inl ⟨rfl, hty, hd⟩))) hR hS rfl rfl
theorem r_aret {v : Value} {rt : FieldType} (hf : fetch i pc = some (.areturn, nx, a, b, ws, cv)) (hty : mRet i = some rt) (hrt : (∃ n, rt = .object n) ∨ ∃ t, rt = .array t) (hv : v = .null ∨ ∃ k, v = .ref k) (hΦ : Φ (some v) w) : Ok sc i pc lv [v] w cap scap Φ := by
  intro p l e R s m args below meth c H locs cells slots Q D aC o ls C hsc ho hR hS hl hc hk
  obtain ⟨hd, -, -⟩ := ck_dec hf rfl
  exact hk _ w pc H locs ls cells slots hΦ (Or.inr (Or.inr (Or.inr ⟨v, rt, rfl, hv, hty, hrt, hd⟩))) hR hS rfl rfl
end RULES
end
section
/-! a rule an instruction: what reads or writes the world -/
def tyOf (a : Nat) : Nat → FieldType := match a with
  | 0 => tyX0
  | 1 => tyX1
  | 2 => tyX2
  | 3 => tyX3
  | 4 => tyX4
  | 5 => tyX5
  | 6 => tyX6
  | 7 => tyX7
  | _ => tyX8
theorem CL_in {a : Nat} {q : vw_C} (h : CL[a]? = some q) : ∀ w ∈ u_ws q.1 q.2.1 q.2.2, w ∈ GW := by
  match a, h with
  | 0, h => cases h; exact inX0
  | 1, h => cases h; exact inX1
  | 2, h => cases h; exact inX2
  | 3, h => cases h; exact inX3
  | 4, h => cases h; exact inX4
  | 5, h => cases h; exact inX5
  | 6, h => cases h; exact inX6
  | 7, h => cases h; exact inX7
  | 8, h => cases h; exact inX8
  | n + 9, h => simp [CL] at h
theorem CL_ty {a : Nat} {q : vw_C} (h : CL[a]? = some q) : ∀ k, k < q.2.2 → parseFieldDescriptor (q.2.1 k).2.2.1 = some (tyOf a k) := by
  match a, h with
  | 0, h => cases h; exact tyX0_ok
  | 1, h => cases h; exact tyX1_ok
  | 2, h => cases h; exact tyX2_ok
  | 3, h => cases h; exact tyX3_ok
  | 4, h => cases h; exact tyX4_ok
  | 5, h => cases h; exact tyX5_ok
  | 6, h => cases h; exact tyX6_ok
  | 7, h => cases h; exact tyX7_ok
  | 8, h => cases h; exact tyX8_ok
  | n + 9, h => simp [CL] at h
theorem CL_nm {a : Nat} {q : vw_C} (h : CL[a]? = some q) : ∀ a, a < q.2.2 → ∀ b, b < q.2.2 → a ≠ b → (q.2.1 a).2.1 ≠ (q.2.1 b).2.1 := by
  match a, h with
  | 0, h => cases h; exact nmX0
  | 1, h => cases h; exact nmX1
  | 2, h => cases h; exact nmX2
  | 3, h => cases h; exact nmX3
  | 4, h => cases h; exact nmX4
  | 5, h => cases h; exact nmX5
  | 6, h => cases h; exact nmX6
  | 7, h => cases h; exact nmX7
  | 8, h => cases h; exact nmX8
  | n + 9, h => simp [CL] at h
def fitV : FieldType → Value → Bool
  | .int, .int _ => true
  | .long, .long _ => true
  | .object _, .ref _ => true
  | .array _, .ref _ => true
  | _, _ => false
theorem fitV_ok {ty : FieldType} {v : Value} (h : fitV ty v = true) (o : Nat × Nat) : narrow ty (tr o v) = tr o v ∧ fits ty (tr o v) = true := by
  cases ty <;> cases v <;> first | exact ⟨rfl, rfl⟩ | (simp [fitV] at h; done)
theorem ok_getf {i pc idx a b w1 : Nat} {cv : Value} (h : okAt i pc (.getfield idx) a b [w1] cv = true) : ∃ q, CL[a]? = some q ∧ b < q.2.2 ∧ Cond.fieldLink (mName i).cls idx (q.2.1 b).1 (q.2.1 b).2.1 (q.2.1 b).2.2.1 ∈ GW := by
  have h2 : (match CL[a]? with
    | some C => Nat.blt b C.2.2 && wk w1 (.fieldLink (mName i).cls idx (C.2.1 b).1 (C.2.1 b).2.1 (C.2.1 b).2.2.1)
    | none => false) = true := h
  generalize CL[a]? = z at h2 ⊢
  cases z with
  | none => cases h2
  | some q =>
    simp only [Bool.and_eq_true] at h2
    exact ⟨q, rfl, Nat.le_of_ble_eq_true h2.1, wk_mem h2.2⟩
theorem ok_putf {i pc idx a b w1 : Nat} {cv : Value} (h : okAt i pc (.putfield idx) a b [w1] cv = true) : ∃ q, CL[a]? = some q ∧ b < q.2.2 ∧ Cond.fieldLink (mName i).cls idx (q.2.1 b).1 (q.2.1 b).2.1 (q.2.1 b).2.2.1 ∈ GW ∧ ((q.2.1 b).2.2.2 = false ∨ ((q.2.1 b).2.2.2 = true ∧ (mName i).name = "<init>" ∧ (q.2.1 b).1 = (mName i).cls)) := by
  have h2 : (match CL[a]? with
    | some C => Nat.blt b C.2.2 && wk w1 (.fieldLink (mName i).cls idx (C.2.1 b).1 (C.2.1 b).2.1 (C.2.1 b).2.2.1) && (!(C.2.1 b).2.2.2 || (decide ((mName i).name = "<init>") && decide ((C.2.1 b).1 = (mName i).cls)))
    | none => false) = true := h
  generalize CL[a]? = z at h2 ⊢
  cases z with
  | none => cases h2
  | some q =>
    simp only [Bool.and_eq_true, Bool.or_eq_true, decide_eq_true_eq] at h2
    refine ⟨q, rfl, Nat.le_of_ble_eq_true h2.1.1, wk_mem h2.1.2, ?_⟩
    by_cases hb : (q.2.1 b).2.2.2 = true
    · right
      rcases h2.2 with h3 | h3
      · rw [hb] at h3; cases h3
      · exact ⟨hb, h3⟩
    · left
      simpa using hb
theorem tr_ref {o : Nat × Nat} {w : MW} {k : Nat} {c : MCell} (hl : w.length ≤ 999) (h : w[k]? = some c) : tr o (.ref k) = .ref (o.1 + k) := by
  have h1 := (List.getElem?_eq_some_iff.mp h).1
  have h2 : k ≠ 1000 := by omega
  simp [tr, h2]
theorem trI_upd {fs : List Value} {j : Nat} {y : Int32} (hj : j < fs.length) : (fun q => trI (fs.set j (.int y))[q]?) = upd (fun q => trI fs[q]?) j y := by
  funext q
  simp only [upd, List.getElem?_set]
  by_cases hq : j = q
  · subst hq
    simp [hj, trI]
  · rw [if_neg hq, if_neg (fun h => hq h.symm)]
theorem trO_upd {o : Nat × Nat} {fs : List Value} {j y : Nat} (hj : j < fs.length) : (fun q => trO o (fs.set j (.ref y))[q]?) = va_up (fun q => trO o fs[q]?) j (some (o.1 + y)) := by
  funext q
  simp only [va_up, List.getElem?_set]
  by_cases hq : j = q
  · subst hq
    simp [hj, trO]
  · rw [if_neg hq, if_neg (fun h => hq h.symm)]
theorem vp_lt {x : Int32} {n : Nat} (h : vp_in x n) : x.toNatClampNeg < n := Nat.not_le.mp fun q => h (Or.inr q)
/-- the world has changed at one cell, of the same length -/
theorem ok_set {sc : Option (Nat × (Nat → Int32))} {i nx : Nat} {lv : List (Option Value)} {st : List Value} {w : MW} {cap scap : Nat} {Φ : Option Value → MW → Prop} {k : Nat} {c0 c1 : MCell} (hw : w[k]? = some c0) (hlen : c1.2.2.length = c0.2.2.length) (h : Ok sc i nx lv st (w.set k c1) cap scap Φ)
    {p : Program} {l : Launch} {e : Env} {R : Room} {s : State} {m : MethodId} {args : Array Value} {below : List Frame} {meth : Method} {c : Code} {H H1 : Heap} {locs locs1 : List Loc} {cells slots : Nat} {Q : State → Prop} {D : va_G} {aC : Nat → ClassId} {o : Nat × Nat} {ls : Array Slot}
    (C : Ctx i p R s m args meth c D aC) (hsc : Sc sc o s) (ho : o.1 ≤ s.heap.size) (hR : Rel D aC o w H) (hS : va_S (Up o) s.heap H locs) (hl : lv_has ls (mMax i) (lvA o lv)) (hc : Cap R s o cells slots w cap scap) (hk : Kont i p l e R s m args below meth c cells slots Q D aC o w Φ)
    (hP1 : va_P D CL ((trW o aC w).set k (o.1 + k, trC o aC c1)) H1) (hS1 : va_S (Up o) H H1 locs1) : W p l e R s m args below meth c H1 locs1 cells slots Q (F0 m nx ls (st.map (tr o))) := by
  refine w_bd (fun hsz => ?_)
  have z1 : wsz (w.set k c1) = wsz w := wsz_set hw hlen
  have z2 : (w.set k c1).length = w.length := List.length_set
  have z3 : H1.size = o.1 + (w.set k c1).length := by
    have a1 := hS1.1
    have a2 := hR.1
    have a3 := hc.1
    rw [z2]
    omega
  refine h p l e R s m args below meth c H1 locs1 cells slots Q D aC o ls C hsc ho ⟨z3, by rw [z2]; exact hR.2.1, by rw [trW_set]; exact hP1⟩ (va_S_trans hS hS1) hl ?_ ?_
  · unfold Cap
    rw [z1, z2]
    exact hc
  · intro r w' pc' H' locs' ls' cells' slots' q1 q2 q3 q4 q5 q6
    rw [z2] at q5
    rw [z1] at q6
    exact hk r w' pc' H' locs' ls' cells' slots' q1 q2 q3 q4 q5 q6
section WORLD
variable {sc : Option (Nat × (Nat → Int32))} {i pc nx a b : Nat} {ws : List Nat} {cv : Value} {lv : List (Option Value)} {st : List Value} {w : MW} {cap scap : Nat} {Φ : Option Value → MW → Prop}
theorem r_getf {idx w1 k : Nat} {fs : List Value} {v : Value} (hf : fetch i pc = some (.getfield idx, nx, a, b, [w1], cv)) (hw : w[k]? = some (false, a, fs)) (hv : fs[b]? = some v) (h : Ok sc i nx lv (v :: st) w cap scap Φ) : Ok sc i pc lv (.ref k :: st) w cap scap Φ := by
  intro p l e R s m args below meth c H locs cells slots Q D aC o ls C hsc ho hR hS hl hc hk
  obtain ⟨hd, rfl, hg⟩ := ck_dec hf rfl
  obtain ⟨⟨Cn, T, N⟩, hq, hb, hm⟩ := ok_getf hg
  show W p l e R s m args below meth c H locs cells slots Q (F0 m pc ls (tr o (.ref k) :: st.map (tr o)))
  rw [tr_ref hR.2.1 hw]
  exact va_get (v := tr o v) C.1 C.2.1 C.2.2.2.2.2.1 (CL_in hq) C.2.2.2.2.1 C.2.2.2.2.2.2.2.2.1.1 hR.2.2 k (trW_get hw) hq b hb (C.2.2.2.2.2.1 _ hm) (fun _ h9 => h9) (by rw [List.getElem?_map, hv]; rfl) hd (h p l e R s m args below meth c H locs cells slots Q D aC o ls C hsc ho hR hS hl hc hk)
theorem r_putf {idx w1 k : Nat} {fs : List Value} {v : Value} (hf : fetch i pc = some (.putfield idx, nx, a, b, [w1], cv)) (hw : w[k]? = some (false, a, fs)) (hfit : fitV (tyOf a b) v = true) (hbl : b < fs.length) (h : Ok sc i nx lv st (w.set k (false, a, fs.set b v)) cap scap Φ) : Ok sc i pc lv (v :: .ref k :: st) w cap scap Φ := by
  intro p l e R s m args below meth c H locs cells slots Q D aC o ls C hsc ho hR hS hl hc hk
  obtain ⟨hd, rfl, hg⟩ := ck_dec hf rfl
  obtain ⟨⟨Cn, T, N⟩, hq, hb, hm, hfin⟩ := ok_putf hg
  show W p l e R s m args below meth c H locs cells slots Q (F0 m pc ls (tr o v :: tr o (.ref k) :: st.map (tr o)))
  rw [tr_ref hR.2.1 hw]
  obtain ⟨f1, f2⟩ := fitV_ok hfit o
  have go : ∀ (H1 : Heap) (locs1 : List Loc), va_P D CL ((trW o aC w).set k (o.1 + k, .inr (a, (fs.map (tr o)).set b (tr o v)))) H1 → va_D (Up o) ((trW o aC w).set k (o.1 + k, .inr (a, (fs.map (tr o)).set b (tr o v)))) → va_S (Up o) H H1 locs1 → W p l e R s m args below meth c H1 locs1 cells slots Q (F0 m (pc + 3) ls (st.map (tr o))) := fun H1 locs1 hP1 _ hS1 => by
    refine ok_set (c1 := (false, a, fs.set b v)) hw (by simp) h C hsc ho hR hS hl hc hk ?_ hS1
    show va_P D CL ((trW o aC w).set k (o.1 + k, .inr (a, (fs.set b v).map (tr o)))) H1
    rw [List.map_set]
    exact hP1
  rcases hfin with hfin | ⟨hfin, hin, hdc⟩
  · exact va_put C.1 C.2.1 C.2.2.2.2.2.1 (CL_in hq) (tyOf a) (CL_ty hq) (CL_nm hq) C.2.2.2.2.1 C.2.2.2.2.2.2.2.2.1.1 hR.2.2 (trW_D o aC w) (va_S_self hS) k (trW_get hw) hq b hb (C.2.2.2.2.2.1 _ hm) (fun _ h9 => h9) hfin (CL_ty hq b hb) f1 f2 (by simpa using hbl) hd go
  · exact va_putF C.1 C.2.1 C.2.2.2.2.2.1 (CL_in hq) (tyOf a) (CL_ty hq) (CL_nm hq) C.2.2.2.2.1 C.2.2.2.2.2.2.2.2.1.1 hR.2.2 (trW_D o aC w) (va_S_self hS) k (trW_get hw) hq b hb (C.2.2.2.2.2.1 _ hm) (fun _ h9 => h9) hfin (C.2.2.2.2.2.2.2.1.trans hin) hdc (CL_ty hq b hb) f1 f2 (by simpa using hbl) hd go
theorem r_iald {k : Nat} {fs : List Value} {x y : Int32} (hf : fetch i pc = some (.iaload, nx, a, b, ws, cv)) (hw : w[k]? = some (true, 0, fs)) (hx : vp_in x fs.length) (hv : fs[x.toNatClampNeg]? = some (.int y)) (h : Ok sc i nx lv (.int y :: st) w cap scap Φ) : Ok sc i pc lv (.int x :: .ref k :: st) w cap scap Φ := by
  intro p l e R s m args below meth c H locs cells slots Q D aC o ls C hsc ho hR hS hl hc hk
  obtain ⟨hd, rfl, -⟩ := ck_dec hf rfl
  show W p l e R s m args below meth c H locs cells slots Q (F0 m pc ls (.int x :: tr o (.ref k) :: st.map (tr o)))
  rw [tr_ref hR.2.1 hw]
  refine va_iald C.1 C.2.1 C.2.2.2.2.2.2.2.2.1.1 hR.2.2 k 0 (trW_get hw) rfl hx hd ?_
  have he : trI fs[x.toNatClampNeg]? = y := by rw [hv]; rfl
  show W p l e R s m args below meth c H locs cells slots Q (F0 m (pc + 1) ls (.int (trI fs[x.toNatClampNeg]?) :: st.map (tr o)))
  rw [he]
  exact h p l e R s m args below meth c H locs cells slots Q D aC o ls C hsc ho hR hS hl hc hk
theorem r_zald {k : Nat} {fs : List Value} {x y : Int32} (hf : fetch i pc = some (.baload, nx, a, b, ws, cv)) (hw : w[k]? = some (true, 1, fs)) (hx : vp_in x fs.length) (hv : fs[x.toNatClampNeg]? = some (.int y)) (h : Ok sc i nx lv (.int y :: st) w cap scap Φ) : Ok sc i pc lv (.int x :: .ref k :: st) w cap scap Φ := by
  intro p l e R s m args below meth c H locs cells slots Q D aC o ls C hsc ho hR hS hl hc hk
  obtain ⟨hd, rfl, -⟩ := ck_dec hf rfl
  show W p l e R s m args below meth c H locs cells slots Q (F0 m pc ls (.int x :: tr o (.ref k) :: st.map (tr o)))
  rw [tr_ref hR.2.1 hw]
  refine va_zald C.1 C.2.1 C.2.2.2.2.2.2.2.2.1.1 hR.2.2 k 1 (trW_get hw) rfl hx hd ?_
  have he : trI fs[x.toNatClampNeg]? = y := by rw [hv]; rfl
  show W p l e R s m args below meth c H locs cells slots Q (F0 m (pc + 1) ls (.int (trI fs[x.toNatClampNeg]?) :: st.map (tr o)))
  rw [he]
  exact h p l e R s m args below meth c H locs cells slots Q D aC o ls C hsc ho hR hS hl hc hk
theorem r_iast {k : Nat} {fs : List Value} {x y : Int32} (hf : fetch i pc = some (.iastore, nx, a, b, ws, cv)) (hw : w[k]? = some (true, 0, fs)) (hx : vp_in x fs.length)  (h : Ok sc i nx lv st (w.set k (true, 0, fs.set x.toNatClampNeg (.int y))) cap scap Φ) : Ok sc i pc lv (.int y :: .int x :: .ref k :: st) w cap scap Φ := by
  intro p l e R s m args below meth c H locs cells slots Q D aC o ls C hsc ho hR hS hl hc hk
  obtain ⟨hd, rfl, -⟩ := ck_dec hf rfl
  show W p l e R s m args below meth c H locs cells slots Q (F0 m pc ls (.int y :: .int x :: tr o (.ref k) :: st.map (tr o)))
  rw [tr_ref hR.2.1 hw]
  refine va_iast C.1 C.2.1 C.2.2.2.2.2.2.2.2.1.1 hR.2.2 (trW_D o aC w) (va_S_self hS) k 0 (trW_get hw) rfl hx hd (fun H1 locs1 hP1 _ hS1 => ?_)
  refine ok_set (c1 := (true, 0, fs.set x.toNatClampNeg (.int y))) hw (by simp) h C hsc ho hR hS hl hc hk ?_ hS1
  show va_P D CL ((trW o aC w).set k (o.1 + k, .inl (aC 0, (fs.set x.toNatClampNeg (.int y)).length, .inl (fun q => trI (fs.set x.toNatClampNeg (.int y))[q]?)))) H1
  rw [trI_upd (vp_lt hx), List.length_set]
  skip
  exact hP1
theorem r_zast {k : Nat} {fs : List Value} {x y : Int32} (hf : fetch i pc = some (.bastore, nx, a, b, ws, cv)) (hw : w[k]? = some (true, 1, fs)) (hx : vp_in x fs.length) (hb : vp_nar .boolean y = y) (h : Ok sc i nx lv st (w.set k (true, 1, fs.set x.toNatClampNeg (.int y))) cap scap Φ) : Ok sc i pc lv (.int y :: .int x :: .ref k :: st) w cap scap Φ := by
  intro p l e R s m args below meth c H locs cells slots Q D aC o ls C hsc ho hR hS hl hc hk
  obtain ⟨hd, rfl, -⟩ := ck_dec hf rfl
  show W p l e R s m args below meth c H locs cells slots Q (F0 m pc ls (.int y :: .int x :: tr o (.ref k) :: st.map (tr o)))
  rw [tr_ref hR.2.1 hw]
  refine va_zast C.1 C.2.1 C.2.2.2.2.2.2.2.2.1.1 hR.2.2 (trW_D o aC w) (va_S_self hS) k 1 (trW_get hw) rfl hx hd (fun H1 locs1 hP1 _ hS1 => ?_)
  refine ok_set (c1 := (true, 1, fs.set x.toNatClampNeg (.int y))) hw (by simp) h C hsc ho hR hS hl hc hk ?_ hS1
  show va_P D CL ((trW o aC w).set k (o.1 + k, .inl (aC 1, (fs.set x.toNatClampNeg (.int y)).length, .inl (fun q => trI (fs.set x.toNatClampNeg (.int y))[q]?)))) H1
  rw [trI_upd (vp_lt hx), List.length_set]
  rw [hb] at hP1
  exact hP1
theorem r_alen {k : Nat} {fs : List Value} (hf : fetch i pc = some (.arraylength, nx, a, b, ws, cv)) (hw : w[k]? = some (true, 0, fs)) (h : Ok sc i nx lv (.int (Int32.ofNat fs.length) :: st) w cap scap Φ) : Ok sc i pc lv (.ref k :: st) w cap scap Φ := by
  intro p l e R s m args below meth c H locs cells slots Q D aC o ls C hsc ho hR hS hl hc hk
  obtain ⟨hd, rfl, -⟩ := ck_dec hf rfl
  show W p l e R s m args below meth c H locs cells slots Q (F0 m pc ls (tr o (.ref k) :: st.map (tr o)))
  rw [tr_ref hR.2.1 hw]
  exact va_alen C.1 C.2.1 C.2.2.2.2.2.2.2.2.1.1 hR.2.2 k 0 (trW_get hw) rfl rfl hd (h p l e R s m args below meth c H locs cells slots Q D aC o ls C hsc ho hR hS hl hc hk)
theorem r_aald {k y : Nat} {fs : List Value} {x : Int32} (hf : fetch i pc = some (.aaload, nx, a, b, ws, cv)) (hw : w[k]? = some (true, 2, fs)) (hx : vp_in x fs.length) (hv : fs[x.toNatClampNeg]? = some (.ref y)) (hy : y ≠ 1000) (h : Ok sc i nx lv (.ref y :: st) w cap scap Φ) : Ok sc i pc lv (.int x :: .ref k :: st) w cap scap Φ := by
  intro p l e R s m args below meth c H locs cells slots Q D aC o ls C hsc ho hR hS hl hc hk
  obtain ⟨hd, rfl, -⟩ := ck_dec hf rfl
  show W p l e R s m args below meth c H locs cells slots Q (F0 m pc ls (.int x :: tr o (.ref k) :: st.map (tr o)))
  rw [tr_ref hR.2.1 hw]
  refine va_aldq C.1 C.2.1 C.2.2.2.2.2.2.2.2.1.1 hR.2.2 k 2 (trW_get hw) rfl hx hd ?_
  have he : va_rf (trO o fs[x.toNatClampNeg]?) = tr o (.ref y) := by rw [hv]; simp [trO, va_rf, tr, hy]
  show W p l e R s m args below meth c H locs cells slots Q (F0 m (pc + 1) ls (va_rf (trO o fs[x.toNatClampNeg]?) :: st.map (tr o)))
  rw [he]
  exact h p l e R s m args below meth c H locs cells slots Q D aC o ls C hsc ho hR hS hl hc hk
theorem r_aast {k y : Nat} {fs vs : List Value} {x : Int32} (hf : fetch i pc = some (.aastore, nx, a, b, ws, cv)) (hw : w[k]? = some (true, 2, fs)) (hx : vp_in x fs.length) (hy : w[y]? = some (false, 5, vs)) (h : Ok sc i nx lv st (w.set k (true, 2, fs.set x.toNatClampNeg (.ref y))) cap scap Φ) : Ok sc i pc lv (.ref y :: .int x :: .ref k :: st) w cap scap Φ := by
  intro p l e R s m args below meth c H locs cells slots Q D aC o ls C hsc ho hR hS hl hc hk
  obtain ⟨hd, rfl, -⟩ := ck_dec hf rfl
  show W p l e R s m args below meth c H locs cells slots Q (F0 m pc ls (tr o (.ref y) :: .int x :: tr o (.ref k) :: st.map (tr o)))
  rw [tr_ref hR.2.1 hw, tr_ref hR.2.1 hy]
  refine va_astq (r := (RX5, TX5, 5)) C.1 C.2.1 C.2.2.2.2.2.2.2.2.1.1 hR.2.2 (trW_D o aC w) (va_S_self hS) k 2 y 5 (trW_get hw) rfl (trW_get hy) rfl hx hd (fun H1 locs1 hP1 _ hS1 => ?_)
  refine ok_set (c1 := (true, 2, fs.set x.toNatClampNeg (.ref y))) hw (by simp) h C hsc ho hR hS hl hc hk ?_ hS1
  show va_P D CL ((trW o aC w).set k (o.1 + k, .inl (aC 2, (fs.set x.toNatClampNeg (.ref y)).length, .inr (.inr (.inr (.inr (fun q => trO o (fs.set x.toNatClampNeg (.ref y))[q]?))))))) H1
  rw [trO_upd (vp_lt hx), List.length_set]
  exact hP1
theorem ok_nat {w1 w2 w3 w4 idx : Nat} (h : okAt i pc (.invokestatic idx) a b [w1, w2, w3, w4] cv = true) : 1 ≤ mFr i ∧ 26 ≤ mLo i ∧ ((cv = .int 3 ∧ Cond.methodLink (mName i).cls idx arraycopyName ∈ GW ∧ Cond.native arraycopyName ∈ GW ∧ Cond.static arraycopyName ∈ GW ∧ Cond.initialized "java/lang/System" ∈ GW) ∨ (cv = .int 4 ∧ Cond.methodLink (mName i).cls idx rawY ∈ GW ∧ Cond.native rawY ∈ GW ∧ Cond.static rawY ∈ GW ∧ Cond.initialized "java/lang/Float" ∈ GW)) := by
  have h2 : (Nat.ble 1 (mFr i) && Nat.ble 26 (mLo i) && ((decide (cv = .int 3) && wk w1 (.methodLink (mName i).cls idx arraycopyName) && wk w2 (.native arraycopyName) && wk w3 (.static arraycopyName) && wk w4 (.initialized "java/lang/System")) || (decide (cv = .int 4) && wk w1 (.methodLink (mName i).cls idx rawY) && wk w2 (.native rawY) && wk w3 (.static rawY) && wk w4 (.initialized "java/lang/Float")))) = true := h
  simp only [Bool.and_eq_true, Bool.or_eq_true, decide_eq_true_eq] at h2
  obtain ⟨⟨h3, h4⟩, h5⟩ := h2
  refine ⟨Nat.le_of_ble_eq_true h3, Nat.le_of_ble_eq_true h4, ?_⟩
  rcases h5 with ⟨⟨⟨⟨q0, q1⟩, q2⟩, q3⟩, q4⟩ | ⟨⟨⟨⟨q0, q1⟩, q2⟩, q3⟩, q4⟩
  · exact Or.inl ⟨q0, wk_mem q1, wk_mem q2, wk_mem q3, wk_mem q4⟩
  · exact Or.inr ⟨q0, wk_mem q1, wk_mem q2, wk_mem q3, wk_mem q4⟩
theorem trI_cpy {f g : List Value} {n : Nat} (hf : n ≤ f.length) (hg : n ≤ g.length) : (fun q => trI (f.take n ++ g.drop n)[q]?) = va_cpy (fun q => trI f[q]?) (fun q => trI g[q]?) 0 0 n := by
  funext q
  simp only [va_cpy, List.getElem?_append, List.length_take, Nat.min_eq_left hf]
  by_cases hq : q < n
  · rw [if_pos hq, if_pos ⟨Nat.zero_le _, by omega⟩, List.getElem?_take, if_pos hq]
    simp
  · rw [if_neg hq, if_neg (by omega), List.getElem?_drop, show n + (q - n) = q by omega]
theorem rest_sum (o : Nat × Nat) (st : List Value) : ((st.map (tr o)).map fun v => v.category).sum = (st.map fun v => v.category).sum := by
  rw [List.map_map]
  congr 1
  apply List.map_congr_left
  intro v _
  exact tr_cat o v
theorem r_copy {w1 w2 w3 w4 idx k0 k1 n : Nat} {fs gs : List Value} {x : Int32} (hf : fetch i pc = some (.invokestatic idx, nx, a, b, [w1, w2, w3, w4], .int 3)) (hw0 : w[k0]? = some (true, 0, fs)) (hw1 : w[k1]? = some (true, 0, gs)) (hx0 : ¬ x < 0) (hx : x.toNatClampNeg = n) (hn0 : n ≤ fs.length) (hn1 : n ≤ gs.length) (hrest : (st.map fun v => v.category).sum ≤ 8) (h : Ok sc i nx lv st (w.set k1 (true, 0, fs.take n ++ gs.drop n)) cap scap Φ) : Ok sc i pc lv (.int x :: .int 0 :: .ref k1 :: .int 0 :: .ref k0 :: st) w cap scap Φ := by
  intro p l e R s m args below meth c H locs cells slots Q D aC o ls C hsc ho hR hS hl hc hk
  obtain ⟨hd, rfl, hg⟩ := ck_dec hf rfl
  obtain ⟨g1, g2, ⟨-, g3, g4, g5, g6⟩ | ⟨g0, -⟩⟩ := ok_nat hg
  · show W p l e R s m args below meth c H locs cells slots Q (F0 m pc ls (.int x :: .int 0 :: tr o (.ref k1) :: .int 0 :: tr o (.ref k0) :: st.map (tr o)))
    rw [tr_ref hR.2.1 hw0, tr_ref hR.2.1 hw1]
    refine va_copyi C.1 C.2.1 (C.2.2.1.trans hl.1.symm) C.2.2.2.2.1 (C.2.2.2.2.2.1 _ g3) (C.2.2.2.2.2.1 _ g4) (C.2.2.2.2.2.1 _ g5) (C.2.2.2.2.2.1 _ g6) C.2.2.2.2.2.2.2.2.1.1 hR.2.2 (trW_D o aC w) (va_S_self hS) k0 k1 0 0 (trW_get hw0) (trW_get hw1) rfl rfl rfl (by decide) (by decide) hx0 (by rw [hx]; show 0 + n ≤ _; omega) (by rw [hx]; show 0 + n ≤ _; omega) (fun _ _ => rfl) (Nat.le_trans g1 C.2.2.2.2.2.2.2.2.2.1) ?_ hd (fun H1 locs1 hP1 _ hS1 => ?_)
    · rw [rest_sum]
      have e9 : nativeFrameWords "java/lang/System" "arraycopy" 5 = 7 := by decide
      have e8 := C.2.2.2.2.2.2.2.2.2.2
      omega
    · refine ok_set (c1 := (true, 0, fs.take n ++ gs.drop n)) hw1 (by simp; omega) h C hsc ho hR hS hl hc hk ?_ hS1
      show va_P D CL ((trW o aC w).set k1 (o.1 + k1, .inl (aC 0, (fs.take n ++ gs.drop n).length, .inl (fun q => trI (fs.take n ++ gs.drop n)[q]?)))) H1
      rw [trI_cpy hn0 hn1, show (fs.take n ++ gs.drop n).length = gs.length by simp; omega]
      rw [hx] at hP1
      exact hP1
  · cases g0
theorem r_raw {w1 w2 w3 w4 idx : Nat} {x : UInt32} (hf : fetch i pc = some (.invokestatic idx, nx, a, b, [w1, w2, w3, w4], .int 4)) (hrest : (st.map fun v => v.category).sum ≤ 8) (h : Ok sc i nx lv (.int x.toInt32 :: st) w cap scap Φ) : Ok sc i pc lv (.float x :: st) w cap scap Φ := by
  intro p l e R s m args below meth c H locs cells slots Q D aC o ls C hsc ho hR hS hl hc hk
  obtain ⟨hd, rfl, hg⟩ := ck_dec hf rfl
  obtain ⟨g1, g2, ⟨g0, -⟩ | ⟨-, g3, g4, g5, g6⟩⟩ := ok_nat hg
  · cases g0
  · refine vn_f2i C.1 C.2.1 (C.2.2.1.trans hl.1.symm) C.2.2.2.2.1 (C.2.2.2.2.2.1 _ g3) (C.2.2.2.2.2.1 _ g4) (C.2.2.2.2.2.1 _ g5) (C.2.2.2.2.2.1 _ g6) (Nat.le_trans g1 C.2.2.2.2.2.2.2.2.2.1) ?_ hd (h p l e R s m args below meth c H locs cells slots Q D aC o ls C hsc ho hR hS hl hc hk)
    rw [rest_sum]
    have e8 := C.2.2.2.2.2.2.2.2.2.2
    omega
end WORLD
end
section
/-! new cells, and calls -/
section MAKE
variable {sc : Option (Nat × (Nat → Int32))} {i pc nx a b : Nat} {ws : List Nat} {cv : Value} {lv : List (Option Value)} {st : List Value} {w : MW} {cap scap : Nat} {Φ : Option Value → MW → Prop}
theorem ok_app {c1 : MCell} {q : Nat} (h : Ok sc i nx lv (.ref w.length :: st) (w ++ [c1]) cap scap Φ) {p : Program} {l : Launch} {e : Env} {R : Room} {s : State} {m : MethodId} {args : Array Value} {below : List Frame} {meth : Method} {c : Code} {H H1 : Heap} {locs locs1 : List Loc} {cells slots : Nat} {Q : State → Prop} {D : va_G} {aC : Nat → ClassId} {o : Nat × Nat} {ls : Array Slot}
    (C : Ctx i p R s m args meth c D aC) (hsc : Sc sc o s) (ho : o.1 ≤ s.heap.size) (hR : Rel D aC o w H) (hS : va_S (Up o) s.heap H locs) (hl : lv_has ls (mMax i) (lvA o lv)) (hc : Cap R s o cells slots w cap scap) (hk : Kont i p l e R s m args below meth c cells slots Q D aC o w Φ)
    (hP1 : va_P D CL (trW o aC w ++ [(q, trC o aC c1)]) H1) (hD1 : va_D (Up o) (trW o aC w ++ [(q, trC o aC c1)])) (hS1 : va_S (Up o) H H1 locs1) (h999 : w.length < 999) (hcap : w.length + 1 ≤ cap) (hsl : wsz w + c1.2.2.length ≤ scap) :
    W p l e R s m args below meth c H1 locs1 (cells + 1) (slots + c1.2.2.length) Q (F0 m nx ls (.ref q :: st.map (tr o))) := by
  refine w_bd (fun hsz => ?_)
  have hlen : (trW o aC w).length = w.length := by simp [trW]
  have hlast : (trW o aC w ++ [(q, trC o aC c1)])[w.length]? = some (q, trC o aC c1) := by
    rw [← hlen]
    simp
  have q1 : q < H1.size := (hP1 _ _ hlast).lt
  have q2 : o.1 ≤ q := hD1.2 _ _ hlast
  have a2 := hR.1
  have a3 := hc.1
  have q3 : q = o.1 + w.length := by
    rcases Nat.lt_or_ge q (o.1 + w.length) with h1 | h1
    · exfalso
      have hlt : q - o.1 < w.length := by omega
      have h2 : (trW o aC w ++ [(q, trC o aC c1)])[q - o.1]? = some (o.1 + (q - o.1), trC o aC (w[q - o.1])) := by
        rw [List.getElem?_append_left (by rw [hlen]; exact hlt)]
        exact trW_get (List.getElem?_eq_getElem hlt)
      have h3 := hD1.1 _ _ _ _ h2 hlast (by show o.1 + (q - o.1) = q; omega)
      omega
    · omega
  have z2 : (w ++ [c1]).length = w.length + 1 := by simp
  have z1 : wsz (w ++ [c1]) = wsz w + c1.2.2.length := wsz_app w c1
  have htr : tr o (.ref w.length) = .ref q := by
    have : w.length ≠ 1000 := by omega
    simp [tr, this, q3]
  have hgoal := h p l e R s m args below meth c H1 locs1 (cells + 1) (slots + c1.2.2.length) Q D aC o ls C hsc ho ⟨by rw [z2]; omega, by rw [z2]; omega, by rw [trW_app, ← q3]; exact hP1⟩ (va_S_trans hS hS1) hl ?_ ?_
  · rw [← htr]
    exact hgoal
  · obtain ⟨b1, b2, b3, b4, b5⟩ := hc
    refine ⟨?_, ?_, ?_, ?_, ?_⟩ <;> (try rw [z1]) <;> (try rw [z2]) <;> omega
  · intro r w' pc' H' locs' ls' cells' slots' p1 p2 p3 p4 p5 p6
    rw [z2] at p5
    rw [z1] at p6
    exact hk r w' pc' H' locs' ls' cells' slots' p1 p2 p3 p4 (by omega) (by omega)
def dfl (a : Nat) : List Value := match CL[a]? with
  | some q => (List.range q.2.2).map (fun k => defaultValue (tyOf a k))
  | none => []
theorem dfl_eq {q : vw_C} (h : CL[a]? = some q) : dfl a = (List.range q.2.2).map (fun k => defaultValue (tyOf a k)) := by
  unfold dfl
  rw [h]
theorem tr_dfl (o : Nat × Nat) (t : FieldType) : tr o (defaultValue t) = defaultValue t := by cases t <;> rfl
theorem ok_mk {idx w1 w2 w3 : Nat} (h : okAt i pc (.new idx) a b [w1, w2, w3] cv = true) : ∃ q, CL[a]? = some q ∧ Cond.classLink (mName i).cls idx q.1 ∈ GW ∧ Cond.instantiable q.1 q.2.2 ∈ GW ∧ Cond.initialized q.1 ∈ GW := by
  have h2 : (match CL[a]? with
    | some C => wk w1 (.classLink (mName i).cls idx C.1) && wk w2 (.instantiable C.1 C.2.2) && wk w3 (.initialized C.1)
    | none => false) = true := h
  generalize CL[a]? = z at h2 ⊢
  cases z with
  | none => cases h2
  | some q =>
    simp only [Bool.and_eq_true] at h2
    exact ⟨q, rfl, wk_mem h2.1.1, wk_mem h2.1.2, wk_mem h2.2⟩
theorem r_new {idx w1 w2 w3 : Nat} (hf : fetch i pc = some (.new idx, nx, a, b, [w1, w2, w3], cv)) (h999 : w.length < 999) (hcap : w.length + 1 ≤ cap) (hsl : wsz w + (dfl a).length ≤ scap) (h : Ok sc i nx lv (.ref w.length :: st) (w ++ [(false, a, dfl a)]) cap scap Φ) : Ok sc i pc lv st w cap scap Φ := by
  intro p l e R s m args below meth c H locs cells slots Q D aC o ls C hsc ho hR hS hl hc hk
  obtain ⟨hd, rfl, hg⟩ := ck_dec hf rfl
  obtain ⟨⟨Cn, T, N⟩, hq, g1, g2, g3⟩ := ok_mk hg
  have hN : (dfl a).length = N := by rw [dfl_eq hq]; simp
  have hmap : (dfl a).map (tr o) = dfl a := by
    rw [dfl_eq hq, List.map_map]
    apply List.map_congr_left
    intro k _
    exact tr_dfl o _
  have b1 := hc
  obtain ⟨b1, b2, b3, b4, b5⟩ := b1
  refine va_new (ci := a) (fs := (dfl a).map (tr o)) C.1 C.2.1 C.2.2.2.2.2.1 (CL_in hq) (tyOf a) (CL_ty hq) C.2.2.2.2.1 (C.2.2.2.2.2.1 _ g1) (C.2.2.2.2.2.1 _ g2) (C.2.2.2.2.2.1 _ g3) C.2.2.2.2.2.2.2.2.1.1 hR.2.2 (trW_D o aC w) (va_S_self hS) (fun q hq => by show o.1 ≤ q; have := hR.1; omega) hq ?_ (by omega) (by show slots + N ≤ _; omega) hd (fun q H1 hP1 hD1 hS1 => ?_)
  · intro j hj
    have hj' : j < N := hj
    rw [hmap]
    unfold vp_V
    rw [dfl_eq hq, List.getD_eq_getElem?_getD, List.getElem?_map, List.getElem?_range hj]
    rfl
  · have := ok_app (c1 := (false, a, dfl a)) h C hsc ho hR hS hl hc hk hP1 hD1 hS1 h999 hcap hsl
    rw [← hN]
    exact this
theorem ok_na {t : ArrayType} {w1 : Nat} (h : okAt i pc (.newarray t) a b [w1] cv = true) : (a = 0 ∧ t = .int ∧ Cond.arrayClass .int ∈ GW) ∨ (a = 1 ∧ t = .boolean ∧ Cond.arrayClass .boolean ∈ GW) := by
  have h2 : ((decide (a = 0 ∧ t = .int) && wk w1 (.arrayClass .int)) || (decide (a = 1 ∧ t = .boolean) && wk w1 (.arrayClass .boolean))) = true := h
  simp only [Bool.and_eq_true, Bool.or_eq_true, decide_eq_true_eq] at h2
  rcases h2 with ⟨⟨q0, q1⟩, q2⟩ | ⟨⟨q0, q1⟩, q2⟩
  · exact Or.inl ⟨q0, q1, wk_mem q2⟩
  · exact Or.inr ⟨q0, q1, wk_mem q2⟩
theorem trI_rep (N : Nat) : (fun j : Nat => trI (List.replicate N (Value.int 0))[j]?) = (fun _ => (0 : Int32)) := by
  funext j
  rw [List.getElem?_replicate]
  split <;> rfl
theorem arr_uniq {D : va_G} {aC : Nat → ClassId} {s : State} {cA : ClassId} {tys : List (ClassId × FieldType)} {t : Nat} {ty : FieldType} (hK : va_K D CL (TYS aC) s) (ht : (TYS aC)[t]? = some (aC t, ty)) (hty : ty = .int ∨ ty = .boolean) (h1 : va_K D CL (tys ++ [(cA, ty)]) s) : cA = aC t := by
  have e1 := (h1.2 tys.length (cA, ty) (by simp)).2
  have e2 := (hK.2 t _ ht).2
  rcases hty with rfl | rfl
  · have e1' : s.vm.findClass ("[" ++ FieldType.int.toString) = some cA := e1
    have e2' : s.vm.findClass ("[" ++ FieldType.int.toString) = some (aC t) := e2
    exact Option.some.inj (e1'.symm.trans e2')
  · have e1' : s.vm.findClass ("[" ++ FieldType.boolean.toString) = some cA := e1
    have e2' : s.vm.findClass ("[" ++ FieldType.boolean.toString) = some (aC t) := e2
    exact Option.some.inj (e1'.symm.trans e2')
theorem r_newa {t : ArrayType} {w1 N : Nat} {x : Int32} (hf : fetch i pc = some (.newarray t, nx, a, b, [w1], cv)) (hx0 : ¬ x < 0) (hx : x.toNatClampNeg = N) (hN : N ≤ 1000) (h999 : w.length < 999) (hcap : w.length + 1 ≤ cap) (hsl : wsz w + N ≤ scap) (h : Ok sc i nx lv (.ref w.length :: st) (w ++ [(true, a, List.replicate N (.int 0))]) cap scap Φ) : Ok sc i pc lv (.int x :: st) w cap scap Φ := by
  intro p l e R s m args below meth c H locs cells slots Q D aC o ls C hsc ho hR hS hl hc hk
  obtain ⟨hd, rfl, hg⟩ := ck_dec hf rfl
  have b1 := hc
  obtain ⟨b1, b2, b3, b4, b5⟩ := b1
  have hA : ∀ q, H.size ≤ q → Up o q := fun q hq => by show o.1 ≤ q; have := hR.1; omega
  rcases ok_na hg with ⟨rfl, rfl, g1⟩ | ⟨rfl, rfl, g1⟩
  · refine va_newa (atype := .int) (ty := .int) (N' := N) (a0 := (N, .inl (fun _ => 0))) C.1 C.2.1 (C.2.2.2.2.2.1 _ g1) rfl C.2.2.2.2.2.2.2.2.1.1 hR.2.2 (trW_D o aC w) (va_S_self hS) hA (fun _ => rfl) hx0 hx (by show N * 4 ≤ _; omega) (by omega) (by omega) hd (fun q cA H1 hK1 hP1 hD1 hS1 => ?_)
    have e1 := arr_uniq (t := 0) C.2.2.2.2.2.2.2.2.1.1 rfl (Or.inl rfl) hK1
    subst e1
    have := ok_app (c1 := (true, 0, List.replicate N (.int 0))) (q := q) (H1 := H1) h C hsc ho hR hS hl hc hk (by show va_P D CL (trW o aC w ++ [(q, .inl (aC 0, (List.replicate N (Value.int 0)).length, .inl (fun j => trI (List.replicate N (Value.int 0))[j]?)))]) H1; rw [trI_rep, List.length_replicate]; exact hP1) (by show va_D (Up o) (trW o aC w ++ [(q, .inl (aC 0, (List.replicate N (Value.int 0)).length, .inl (fun j => trI (List.replicate N (Value.int 0))[j]?)))]); rw [trI_rep, List.length_replicate]; exact hD1) hS1 h999 hcap (by simpa using hsl)
    rw [show (List.replicate N (Value.int 0)).length = N from List.length_replicate] at this
    exact this
  · refine va_newa (atype := .boolean) (ty := .boolean) (N' := N) (a0 := (N, .inl (fun _ => 0))) C.1 C.2.1 (C.2.2.2.2.2.1 _ g1) rfl C.2.2.2.2.2.2.2.2.1.1 hR.2.2 (trW_D o aC w) (va_S_self hS) hA (fun _ => rfl) hx0 hx (by show N * 1 ≤ _; omega) (by omega) (by omega) hd (fun q cA H1 hK1 hP1 hD1 hS1 => ?_)
    have e1 := arr_uniq (t := 1) C.2.2.2.2.2.2.2.2.1.1 rfl (Or.inr rfl) hK1
    subst e1
    have := ok_app (c1 := (true, 1, List.replicate N (.int 0))) (q := q) (H1 := H1) h C hsc ho hR hS hl hc hk (by show va_P D CL (trW o aC w ++ [(q, .inl (aC 1, (List.replicate N (Value.int 0)).length, .inl (fun j => trI (List.replicate N (Value.int 0))[j]?)))]) H1; rw [trI_rep, List.length_replicate]; exact hP1) (by show va_D (Up o) (trW o aC w ++ [(q, .inl (aC 1, (List.replicate N (Value.int 0)).length, .inl (fun j => trI (List.replicate N (Value.int 0))[j]?)))]); rw [trI_rep, List.length_replicate]; exact hD1) hS1 h999 hcap (by simpa using hsl)
    rw [show (List.replicate N (Value.int 0)).length = N from List.length_replicate] at this
    exact this
theorem trO_rep (o : Nat × Nat) (N : Nat) : (fun j : Nat => trO o (List.replicate N Value.null)[j]?) = (fun _ => (none : Option Nat)) := by
  funext j
  rw [List.getElem?_replicate]
  split <;> rfl
theorem r_anew {idx w1 N : Nat} {x : Int32} (hf : fetch i pc = some (.anewarray idx, nx, a, b, [w1], cv)) (hx0 : ¬ x < 0) (hx : x.toNatClampNeg = N) (hN : N ≤ 1000) (h999 : w.length < 999) (hcap : w.length + 1 ≤ cap) (hsl : wsz w + N ≤ scap) (h : Ok sc i nx lv (.ref w.length :: st) (w ++ [(true, 2, List.replicate N .null)]) cap scap Φ) : Ok sc i pc lv (.int x :: st) w cap scap Φ := by
  intro p l e R s m args below meth c H locs cells slots Q D aC o ls C hsc ho hR hS hl hc hk
  obtain ⟨hd, rfl, hg⟩ := ck_dec hf rfl
  have hg2 : (decide (a = 5) && wk w1 (.classLink (mName i).cls idx RX5)) = true := hg
  simp only [Bool.and_eq_true] at hg2
  have g1 := wk_mem hg2.2
  have b1 := hc
  obtain ⟨b1, b2, b3, b4, b5⟩ := b1
  have hA : ∀ q, H.size ≤ q → Up o q := fun q hq => by show o.1 ≤ q; have := hR.1; omega
  refine va_newq (N' := N) C.1 C.2.1 C.2.2.2.2.1 (C.2.2.2.2.2.1 _ g1) C.2.2.2.2.2.2.2.2.1.2.1 C.2.2.2.2.2.2.2.2.1.1 hR.2.2 (trW_D o aC w) (va_S_self hS) hA hx0 hx (by omega) (by omega) (by omega) hd (fun q cA H1 hK1 hP1 hD1 hS1 => ?_)
  have e1 : cA = aC 2 := by
    obtain ⟨k1, m1, -, -, -, f1⟩ := (hK1.2 (TYS aC).length (cA, .object RX5) (by simp)).2
    obtain ⟨k2, m2, -, -, -, f2⟩ := (C.2.2.2.2.2.2.2.2.1.1.2 2 (aC 2, .object RX5) rfl).2
    exact Option.some.inj (f1.symm.trans f2)
  subst e1
  have := ok_app (c1 := (true, 2, List.replicate N .null)) (q := q) (H1 := H1) h C hsc ho hR hS hl hc hk (by show va_P D CL (trW o aC w ++ [(q, .inl (aC 2, (List.replicate N Value.null).length, .inr (.inr (.inr (.inr (fun j => trO o (List.replicate N Value.null)[j]?))))))]) H1; rw [trO_rep, List.length_replicate]; exact hP1) (by show va_D (Up o) (trW o aC w ++ [(q, .inl (aC 2, (List.replicate N Value.null).length, .inr (.inr (.inr (.inr (fun j => trO o (List.replicate N Value.null)[j]?))))))]); rw [trO_rep, List.length_replicate]; exact hD1) hS1 h999 hcap (by simpa using hsl)
  rw [show (List.replicate N Value.null).length = N from List.length_replicate] at this
  exact this
end MAKE
section CALLS
variable {sc : Option (Nat × (Nat → Int32))} {i pc nx a b : Nat} {ws : List Nat} {cv : Value} {lv : List (Option Value)} {st : List Value} {w : MW} {cap scap : Nat} {Φ Ψ : Option Value → MW → Prop}
theorem gw_in2 (hj : a < 154) : GoodIn GW (cdW a) := by
  intro z hz
  rcases List.mem_cons.mp hz with rfl | h
  · exact ⟨code_mem a hj, Or.inl rfl⟩
  · exact ⟨h, gw_good z h⟩
def JDKS : List Nat := [38, 56, 145, 146]
theorem cls_all : ∀ a, a < 154 → (mName a).cls ∈ [RX0, RX1, RX2, RX3, RX4, RX5, RX6, RX7, RX8] ∨ a ∈ JDKS := by decide +kernel
theorem pl_all : ∀ z ∈ [RX0, RX1, RX2, RX3, RX4, RX5, RX6, RX7, RX8], plainName z = true := by
  intro z hz
  simp only [List.mem_cons, List.not_mem_nil, or_false] at hz
  rcases hz with rfl | rfl | rfl | rfl | rfl | rfl | rfl | rfl | rfl <;> decide
theorem pl_jdk : ∀ a ∈ JDKS, plainFor (mName a) = true := by decide +kernel
theorem plain_all : ∀ a, a < 154 → plainFor (mName a) = true := fun a ha => (cls_all a ha).elim (fun h => plainFor_of_name (pl_all _ h)) (pl_jdk a)
theorem okCall_of (h : okCall i a b = true) : ((mName a).cls ≠ "java/lang/invoke/MethodHandle" ∧ (mName a).cls ≠ "java/lang/invoke/VarHandle" ∧ (parseMethodDescriptor (mName a).desc).map (fun d => d.parameters.length) = some b) ∧ mFr a + 1 ≤ mFr i ∧ 8 + (mMax a + 11) + mLo a ≤ mLo i := by
  unfold okCall okName at h
  simp only [Bool.and_eq_true, decide_eq_true_eq] at h
  exact ⟨⟨h.1.1.1.1, h.1.1.1.2, h.1.1.2⟩, Nat.le_of_ble_eq_true h.1.2, Nat.le_of_ble_eq_true h.2⟩
theorem r_objI {idx w1 w2 x : Nat} (hf : fetch i pc = some (.invokespecial idx, nx, a, b, [w1, w2], .int 2)) (hrest : (st.map fun v => v.category).sum ≤ 8) (h : Ok sc i nx lv st w cap scap Φ) : Ok sc i pc lv (.ref x :: st) w cap scap Φ := by
  intro p l e R s m args below meth c H locs cells slots Q D aC o ls C hsc ho hR hS hl hc hk
  obtain ⟨hd, rfl, hg⟩ := ck_dec hf rfl
  have hg2 : ((decide (Value.int 2 = .int 2) && Nat.ble 1 (mFr i) && Nat.ble 20 (mLo i) && wk w1 (.methodLink (mName i).cls idx objY) && wk w2 (.instanceMethod objY)) || (decide (Value.int 2 = .int 1) && okCall i a b && decide ((mName a).name = "<init>") && decide (mRet a = none) && decide ((mName i).cls = RX7) && decide ((idx, mName a) ∈ NESTS) && wk w1 (.instanceMethod (mName a)) && wk w2 (.initialized (mName a).cls))) = true := hg
  rw [show decide (Value.int 2 = Value.int 1) = false from by decide] at hg2
  simp only [Bool.false_and, Bool.or_false, Bool.and_eq_true] at hg2
  obtain ⟨⟨⟨⟨-, g1⟩, g2⟩, g3⟩, g4⟩ := hg2
  have g1 := Nat.le_of_ble_eq_true g1
  have g2 := Nat.le_of_ble_eq_true g2
  have e7 := C.2.2.2.2.2.2.2.2.2.1
  have e8 := C.2.2.2.2.2.2.2.2.2.2
  have hcode : (Cond.code objY ⟨#[0xb1]⟩ 1 none) ∈ GW := List.mem_filter.mpr ⟨List.mem_of_getElem? (i := 80) (by rfl), rfl⟩
  refine W.objInit C.1 C.2.1 C.2.2.2.2.1 (C.2.2.2.2.2.1 _ (wk_mem g3)) (C.2.2.2.2.2.1 _ (wk_mem g4)) (C.2.2.2.2.2.1 _ hcode) rfl (by rw [C.2.2.1]; exact hl.1) rfl hd (by omega) ?_ (h p l e R s m args below meth c H locs cells slots Q D aC o ls C hsc ho hR hS hl hc hk)
  have e9 := rest_sum o st
  show 2 * 0 + _ + 12 ≤ _
  rw [e9]
  omega
theorem ok_call {dc ds : Nat} {st0 : List Value} {av : Array Value} (hΨ : ∀ r w', Ψ r w' → w'.length = w.length + dc ∧ wsz w' = wsz w + ds) (hcap : w.length + dc ≤ cap) (hscap : wsz w + ds ≤ scap) (h : ∀ r w', Ψ r w' → Ok sc i (pc + 3) lv (r.toList ++ st) w' cap scap Φ) {p : Program} {l : Launch} {e : Env} {R : Room} {s : State} {m : MethodId} {args : Array Value} {below : List Frame} {meth : Method} {c : Code} {H : Heap} {locs : List Loc} {cells slots : Nat} {Q : State → Prop} {D : va_G} {aC : Nat → ClassId} {o : Nat × Nat} {ls : Array Slot}
    (C : Ctx i p R s m args meth c D aC) (hsc : Sc sc o s) (ho : o.1 ≤ s.heap.size) (hR : Rel D aC o w H) (hS : va_S (Up o) s.heap H locs) (hl : lv_has ls (mMax i) (lvA o lv)) (hc : Cap R s o cells slots w cap scap) (hk : Kont i p l e R s m args below meth c cells slots Q D aC o w Φ)
    (hrun : va_Run p l e R s m args below meth c H locs cells slots dc ds (F0 m pc ls st0) (st.map (tr o)) (QcM D aC o Ψ av) (Up o)) : W p l e R s m args below meth c H locs cells slots Q (F0 m pc ls st0) := by
  refine m_call hrun hS (fun _ h => h) (fun v st₀ t H1 locs1 h0 ht hq hlo => ?_)
  obtain ⟨r, w', hv, hP, hR', hF⟩ := hq
  obtain ⟨e1, e2⟩ := hΨ r w' hP
  have hv2 : v = r.map (tr o) := by cases hv; rfl
  subst hv2
  have hst : (r.map (tr o)).toList ++ st.map (tr o) = (r.toList ++ st).map (tr o) := by cases r <;> simp
  rw [hst]
  rw [ht] at hR'
  obtain ⟨f1, f2⟩ := hF
  rw [h0, ht] at f1 f2
  obtain ⟨b1, b2, b3, b4, b5⟩ := id hc
  refine h r w' hP p l e R s m args below meth c H1 locs1 (cells + dc) (slots + ds) Q D aC o ls C hsc ho hR' ⟨Nat.le_trans hS.1 f1, fun q q1 q2 => (f2 q (Nat.lt_of_lt_of_le q1 hS.1) q2).trans (hS.2.1 q q1 q2), hlo⟩ hl ⟨by omega, by omega, by omega, by omega, by omega⟩ ?_
  intro r2 w2 pc' H' locs' ls' cells' slots' p1 p2 p3 p4 p5 p6
  exact hk r2 w2 pc' H' locs' ls' cells' slots' p1 p2 p3 p4 (by omega) (by omega)
theorem r_callV {idx w1 w2 w3 w4 k ci dc ds : Nat} {fs As : List Value} (hf : fetch i pc = some (.invokevirtual idx, nx, a, b, [w1, w2, w3, w4], cv)) (ha : a < 154) (hw : w[k]? = some (false, ci, fs)) (hci : (CL[ci]?).map (fun q => q.1) = some (mName a).cls) (hn : As.length = b) (hlen : (argL (.ref k :: As)).length ≤ mMax a) (hrest : (st.map fun v => v.category).sum ≤ 8)
    (hM : Ok none a 0 (argL (.ref k :: As)) [] w (w.length + dc) (wsz w + ds) Ψ) (hΨ : ∀ r w', Ψ r w' → w'.length = w.length + dc ∧ wsz w' = wsz w + ds) (hcap : w.length + dc ≤ cap) (hscap : wsz w + ds ≤ scap) (h : ∀ r w', Ψ r w' → Ok sc i nx lv (r.toList ++ st) w' cap scap Φ) : Ok sc i pc lv (As.reverse ++ .ref k :: st) w cap scap Φ := by
  intro p l e R s m args below meth c H locs cells slots Q D aC o ls C hsc ho hR hS hl hc hk
  obtain ⟨hd, rfl, hg⟩ := ck_dec hf rfl
  have hg2 : (okCall i a b && wk w1 (.methodLink (mName i).cls idx (mName a)) && wk w2 (.instanceMethod (mName a)) && wk w3 (.selects (mName a).cls (mName a) (mName a)) && wk w4 (.initialized (mName a).cls)) = true := hg
  simp only [Bool.and_eq_true] at hg2
  obtain ⟨⟨⟨⟨g0, g1⟩, g2⟩, g3⟩, g4⟩ := hg2
  obtain ⟨n1, n2, n3⟩ := okCall_of g0
  have e7 := C.2.2.2.2.2.2.2.2.2.1
  have e8 := C.2.2.2.2.2.2.2.2.2.2
  have hMet := met_of (l := l) (plain_all a ha) hlen hM hΨ D aC o
  obtain ⟨q, hq, hqc⟩ := Option.map_eq_some_iff.mp hci
  have hst0 : (As.reverse ++ .ref k :: st).map (tr o) = (As.map (tr o)).reverse ++ .ref (o.1 + k) :: st.map (tr o) := by
    rw [List.map_append, List.map_cons, tr_ref hR.2.1 hw, List.map_reverse]
  rw [hst0]
  refine ok_call hΨ hcap hscap h C hsc ho hR hS hl hc hk (va_runV (C := (mName a).cls) (As := As.map (tr o)) (rest := st.map (tr o)) ⟨C.1, C.2.1, C.2.2.1, C.2.2.2.2.1, C.2.2.2.2.2.1⟩ hMet ⟨callB_of b C.2.2.2.2.2.1 (gw_in2 ha) rfl rfl rfl (C.2.2.2.2.2.1 _ (wk_mem g4)) (C.2.2.2.2.2.1 _ (wk_mem g1)) n1 ⟨by show mFr a + 1 ≤ _; omega, by show 8 + (mMax a + 11) + mLo a ≤ _; omega⟩, C.2.2.2.2.2.1 _ (wk_mem g2), C.2.2.2.2.2.1 _ (wk_mem g3)⟩ ⟨PcM.blind D aC o w _, ?_, fun U hU hW => ⟨?_, by rw [hU]; exact hR, KU.warm hW C.2.2.2.2.2.2.2.2.1⟩⟩ rfl (by rw [List.length_map]; exact hn) hl.1 rfl (lv_room (by rw [rest_sum]; exact hrest)) hd ⟨by obtain ⟨b1, b2, b3, b4, b5⟩ := hc; omega, by obtain ⟨b1, b2, b3, b4, b5⟩ := hc; omega⟩)
  · obtain ⟨cell, c1, c2, c3⟩ := va_recv C.2.2.2.2.2.2.2.2.1.1 hR.2.2 hq (trW_get hw)
    exact ⟨cell, c1, c2, by rw [← hqc]; exact c3⟩
  · rw [List.map_cons, tr_ref hR.2.1 hw]
theorem r_callS {idx w1 w2 w3 dc ds : Nat} {As : List Value} (hf : fetch i pc = some (.invokestatic idx, nx, a, b, [w1, w2, w3], cv)) (ha : a < 154) (hn : As.length = b) (hlen : (argL As).length ≤ mMax a) (hrest : (st.map fun v => v.category).sum ≤ 8)
    (hM : Ok none a 0 (argL As) [] w (w.length + dc) (wsz w + ds) Ψ) (hΨ : ∀ r w', Ψ r w' → w'.length = w.length + dc ∧ wsz w' = wsz w + ds) (hcap : w.length + dc ≤ cap) (hscap : wsz w + ds ≤ scap) (h : ∀ r w', Ψ r w' → Ok sc i nx lv (r.toList ++ st) w' cap scap Φ) : Ok sc i pc lv (As.reverse ++ st) w cap scap Φ := by
  intro p l e R s m args below meth c H locs cells slots Q D aC o ls C hsc ho hR hS hl hc hk
  obtain ⟨hd, rfl, hg⟩ := ck_dec hf rfl
  have hg2 : (okCall i a b && wk w1 (.methodLink (mName i).cls idx (mName a)) && wk w2 (.static (mName a)) && wk w3 (.initialized (mName a).cls)) = true := hg
  simp only [Bool.and_eq_true] at hg2
  obtain ⟨⟨⟨g0, g1⟩, g2⟩, g3⟩ := hg2
  obtain ⟨n1, n2, n3⟩ := okCall_of g0
  have e7 := C.2.2.2.2.2.2.2.2.2.1
  have e8 := C.2.2.2.2.2.2.2.2.2.2
  have hMet := met_of (l := l) (plain_all a ha) hlen hM hΨ D aC o
  have hst0 : (As.reverse ++ st).map (tr o) = (As.map (tr o)).reverse ++ st.map (tr o) := by
    rw [List.map_append, List.map_reverse]
  rw [hst0]
  exact ok_call hΨ hcap hscap h C hsc ho hR hS hl hc hk (va_runS (As := As.map (tr o)) (rest := st.map (tr o)) ⟨C.1, C.2.1, C.2.2.1, C.2.2.2.2.1, C.2.2.2.2.2.1⟩ hMet ⟨callB_of b C.2.2.2.2.2.1 (gw_in2 ha) rfl rfl rfl (C.2.2.2.2.2.1 _ (wk_mem g3)) (C.2.2.2.2.2.1 _ (wk_mem g1)) n1 ⟨by show mFr a + 1 ≤ _; omega, by show 8 + (mMax a + 11) + mLo a ≤ _; omega⟩, C.2.2.2.2.2.1 _ (wk_mem g2)⟩ ⟨PcM.blind D aC o w _, fun U hU hW => ⟨rfl, by rw [hU]; exact hR, KU.warm hW C.2.2.2.2.2.2.2.2.1⟩⟩ rfl (by rw [List.length_map]; exact hn) hl.1 rfl (lv_room (by rw [rest_sum]; exact hrest)) hd ⟨by obtain ⟨b1, b2, b3, b4, b5⟩ := hc; omega, by obtain ⟨b1, b2, b3, b4, b5⟩ := hc; omega⟩)
theorem r_callI {idx w1 w2 w3 k dc ds : Nat} {c0 : MCell} {As : List Value} (hf : fetch i pc = some (.invokespecial idx, nx, a, b, [w1, w2, w3], cv)) (ha : a < 154) (hw : w[k]? = some c0) (hn : As.length = b) (hlen : (argL (.ref k :: As)).length ≤ mMax a) (hrest : (st.map fun v => v.category).sum ≤ 8)
    (hM : Ok none a 0 (argL (.ref k :: As)) [] w (w.length + dc) (wsz w + ds) Ψ) (hΨ : ∀ r w', Ψ r w' → w'.length = w.length + dc ∧ wsz w' = wsz w + ds) (hcap : w.length + dc ≤ cap) (hscap : wsz w + ds ≤ scap) (h : ∀ r w', Ψ r w' → Ok sc i nx lv (r.toList ++ st) w' cap scap Φ) : Ok sc i pc lv (As.reverse ++ .ref k :: st) w cap scap Φ := by
  intro p l e R s m args below meth c H locs cells slots Q D aC o ls C hsc ho hR hS hl hc hk
  obtain ⟨hd, rfl, hg⟩ := ck_dec hf rfl
  have hg2 : (decide (cv = .null) && okCall i a b && decide ((mName a).name = "<init>") && decide (mRet a = none) && wk w1 (.methodLink (mName i).cls idx (mName a)) && wk w2 (.instanceMethod (mName a)) && wk w3 (.initialized (mName a).cls)) = true := hg
  simp only [Bool.and_eq_true, decide_eq_true_eq] at hg2
  obtain ⟨⟨⟨⟨⟨⟨-, g0⟩, gn⟩, gr⟩, g1⟩, g2⟩, g3⟩ := hg2
  obtain ⟨n1, n2, n3⟩ := okCall_of g0
  have e7 := C.2.2.2.2.2.2.2.2.2.1
  have e8 := C.2.2.2.2.2.2.2.2.2.2
  have hMet := met_of (l := l) (plain_all a ha) hlen hM hΨ D aC o
  have hst0 : (As.reverse ++ .ref k :: st).map (tr o) = (As.map (tr o)).reverse ++ .ref (o.1 + k) :: st.map (tr o) := by
    rw [List.map_append, List.map_cons, tr_ref hR.2.1 hw, List.map_reverse]
  rw [hst0]
  refine ok_call hΨ hcap hscap h C hsc ho hR hS hl hc hk (va_runI (bytes := mCode a) (maxL := mMax a) (As := As.map (tr o)) (rest := st.map (tr o)) ⟨C.1, C.2.1, C.2.2.1, C.2.2.2.2.1, C.2.2.2.2.2.1⟩ hMet ⟨callB_of b C.2.2.2.2.2.1 (gw_in2 ha) (by rw [cdW, gr]) rfl rfl (C.2.2.2.2.2.1 _ (wk_mem g3)) (C.2.2.2.2.2.1 _ (wk_mem g1)) n1 ⟨by show mFr a + 1 ≤ _; omega, by show 8 + (mMax a + 11) + mLo a ≤ _; omega⟩, gn, C.2.2.2.2.2.1 _ (wk_mem g2)⟩ ⟨PcM.blind D aC o w _, fun U hU hW => ⟨?_, by rw [hU]; exact hR, KU.warm hW C.2.2.2.2.2.2.2.2.1⟩⟩ rfl (by rw [List.length_map]; exact hn) hl.1 rfl (lv_room (by rw [rest_sum]; exact hrest)) hd ⟨by obtain ⟨b1, b2, b3, b4, b5⟩ := hc; omega, by obtain ⟨b1, b2, b3, b4, b5⟩ := hc; omega⟩)
  rw [List.map_cons, tr_ref hR.2.1 hw]
theorem r_callIN {idx w1 w2 k dc ds : Nat} {c0 : MCell} {As : List Value} (hf : fetch i pc = some (.invokespecial idx, nx, a, b, [w1, w2], .int 1)) (ha : a < 154) (hw : w[k]? = some c0) (hn : As.length = b) (hlen : (argL (.ref k :: As)).length ≤ mMax a) (hrest : (st.map fun v => v.category).sum ≤ 8)
    (hM : Ok none a 0 (argL (.ref k :: As)) [] w (w.length + dc) (wsz w + ds) Ψ) (hΨ : ∀ r w', Ψ r w' → w'.length = w.length + dc ∧ wsz w' = wsz w + ds) (hcap : w.length + dc ≤ cap) (hscap : wsz w + ds ≤ scap) (h : ∀ r w', Ψ r w' → Ok sc i nx lv (r.toList ++ st) w' cap scap Φ) : Ok sc i pc lv (As.reverse ++ .ref k :: st) w cap scap Φ := by
  intro p l e R s m args below meth c H locs cells slots Q D aC o ls C hsc ho hR hS hl hc hk
  obtain ⟨hd, rfl, hg⟩ := ck_dec hf rfl
  have hg2 : ((decide (Value.int 1 = .int 2) && Nat.ble 1 (mFr i) && Nat.ble 20 (mLo i) && wk w1 (.methodLink (mName i).cls idx objY) && wk w2 (.instanceMethod objY)) || (decide (Value.int 1 = .int 1) && okCall i a b && decide ((mName a).name = "<init>") && decide (mRet a = none) && decide ((mName i).cls = RX7) && decide ((idx, mName a) ∈ NESTS) && wk w1 (.instanceMethod (mName a)) && wk w2 (.initialized (mName a).cls))) = true := hg
  rw [show decide (Value.int 1 = Value.int 2) = false from by decide] at hg2
  simp only [Bool.false_and, Bool.false_or, Bool.and_eq_true, decide_eq_true_eq] at hg2
  obtain ⟨⟨⟨⟨⟨⟨⟨-, g0⟩, gn⟩, gr⟩, gc⟩, gm⟩, g2⟩, g3⟩ := hg2
  obtain ⟨n1, n2, n3⟩ := okCall_of g0
  have e7 := C.2.2.2.2.2.2.2.2.2.1
  have e8 := C.2.2.2.2.2.2.2.2.2.2
  have hMet := met_of (l := l) (plain_all a ha) hlen hM hΨ D aC o
  have hst0 : (As.reverse ++ .ref k :: st).map (tr o) = (As.map (tr o)).reverse ++ .ref (o.1 + k) :: st.map (tr o) := by
    rw [List.map_append, List.map_cons, tr_ref hR.2.1 hw, List.map_reverse]
  rw [hst0]
  have hnest : va_Nw (.methodLinkNest (mName i).cls idx (mName a) RX7) s := by
    rw [gc]
    exact C.2.2.2.2.2.2.2.2.1.2.2 _ gm
  refine ok_call hΨ hcap hscap h C hsc ho hR hS hl hc hk (va_runIN (bytes := mCode a) (maxL := mMax a) (host := RX7) (As := As.map (tr o)) (rest := st.map (tr o)) ⟨C.1, C.2.1, C.2.2.1, C.2.2.2.2.1, C.2.2.2.2.2.1⟩ hMet ⟨va_cnB b C.2.2.2.2.2.1 (gw_in2 ha) (by rw [cdW, gr]) rfl rfl hnest (C.2.2.2.2.2.1 _ (wk_mem g3)) n1 ⟨by show mFr a + 1 ≤ _; omega, by show 8 + (mMax a + 11) + mLo a ≤ _; omega⟩, gn, C.2.2.2.2.2.1 _ (wk_mem g2)⟩ ⟨PcM.blind D aC o w _, fun U hU hW => ⟨?_, by rw [hU]; exact hR, KU.warm hW C.2.2.2.2.2.2.2.2.1⟩⟩ rfl (by rw [List.length_map]; exact hn) hl.1 rfl (lv_room (by rw [rest_sum]; exact hrest)) hd ⟨by obtain ⟨b1, b2, b3, b4, b5⟩ := hc; omega, by obtain ⟨b1, b2, b3, b4, b5⟩ := hc; omega⟩)
  rw [List.map_cons, tr_ref hR.2.1 hw]
end CALLS
end
section
/-! the world behind the constructors: 80 cells; what may change are ints (Z cell place, by labels) and one long (J) -/
abbrev I (x : Int) : Int32 := Int32.ofInt x
abbrev ZW : Type := Nat → Int → Int
abbrev LCell : Type := Bool × Nat × Nat × List (Option Nat)
def LAYC : List LCell := [(false, 7, 0, [some 1, some 3, some 8, some 13, some 24, some 32, some 59, some 61, some 63]),
  (false, 6, 1, [none, some 2, some 4000, some 4000]),
  (true, 0, 2, List.replicate 150 none),
  (false, 5, 4, [none, some 4, some 5, some 6, some 7]),
  (true, 0, 5, List.replicate 24 none),
  (true, 0, 6, List.replicate 24 none),
  (true, 0, 7, List.replicate 24 none),
  (true, 0, 8, List.replicate 8 none),
  (false, 5, 9, [none, some 9, some 10, some 11, some 12]),
  (true, 0, 10, List.replicate 24 none),
  (true, 0, 11, List.replicate 24 none),
  (true, 0, 12, List.replicate 24 none),
  (true, 0, 13, List.replicate 8 none),
  (false, 2, 14, [none, none, some 14, some 15, some 16, some 17, some 18, some 19, some 20, some 21, some 22, some 23]),
  (true, 0, 15, List.replicate 24 none),
  (true, 0, 16, List.replicate 24 none),
  (true, 0, 17, List.replicate 24 none),
  (true, 0, 18, List.replicate 24 none),
  (true, 0, 19, List.replicate 24 none),
  (true, 0, 20, List.replicate 24 none),
  (true, 1, 14, List.replicate 24 (some 4000)),
  (true, 0, 21, List.replicate 24 none),
  (true, 0, 22, List.replicate 24 none),
  (true, 0, 23, List.replicate 24 none),
  (false, 4, 24, [none, none, some 25, some 26, some 27, some 28, some 29, some 30, some 31]),
  (true, 0, 25, List.replicate 24 none),
  (true, 0, 26, List.replicate 24 none),
  (true, 0, 27, List.replicate 24 none),
  (true, 0, 28, List.replicate 24 none),
  (true, 0, 29, List.replicate 24 none),
  (true, 0, 30, List.replicate 24 none),
  (true, 0, 31, List.replicate 24 none),
  (false, 3, 32, [none, none, some 33]),
  (true, 2, 33, [some 34, some 39, some 44, some 49, some 54]),
  (false, 5, 34, [none, some 35, some 36, some 37, some 38]),
  (true, 0, 35, List.replicate 24 none),
  (true, 0, 36, List.replicate 24 none),
  (true, 0, 37, List.replicate 24 none),
  (true, 0, 38, List.replicate 8 none),
  (false, 5, 39, [none, some 40, some 41, some 42, some 43]),
  (true, 0, 40, List.replicate 24 none),
  (true, 0, 41, List.replicate 24 none),
  (true, 0, 42, List.replicate 24 none),
  (true, 0, 43, List.replicate 8 none),
  (false, 5, 44, [none, some 45, some 46, some 47, some 48]),
  (true, 0, 45, List.replicate 24 none),
  (true, 0, 46, List.replicate 24 none),
  (true, 0, 47, List.replicate 24 none),
  (true, 0, 48, List.replicate 8 none),
  (false, 5, 49, [none, some 50, some 51, some 52, some 53]),
  (true, 0, 50, List.replicate 24 none),
  (true, 0, 51, List.replicate 24 none),
  (true, 0, 52, List.replicate 24 none),
  (true, 0, 53, List.replicate 8 none),
  (false, 5, 54, [none, some 55, some 56, some 57, some 58]),
  (true, 0, 55, List.replicate 24 none),
  (true, 0, 56, List.replicate 24 none),
  (true, 0, 57, List.replicate 24 none),
  (true, 0, 58, List.replicate 8 none),
  (false, 1, 59, [none, none, none, none, none, some 60]),
  (true, 0, 60, List.replicate 4 none),
  (false, 1, 61, [none, none, none, none, none, some 62]),
  (true, 0, 62, List.replicate 4 none),
  (true, 0, 63, List.replicate 3 none),
  (false, 8, 64, [some 65, some 66, some 67, none, some 68, some 69, none, none, none, none, some 70, some 71, some 72, some 73, some 74, some 75, some 76, some 77, none, none, none, none, none, some 78, some 79, none, none, none, none, none, some 2000]),
  (true, 0, 65, List.replicate 81 none),
  (true, 0, 66, List.replicate 81 none),
  (true, 0, 67, List.replicate 405 none),
  (true, 0, 68, List.replicate 3 none),
  (true, 0, 69, List.replicate 150 none),
  (true, 0, 70, List.replicate 24 none),
  (true, 0, 71, List.replicate 24 none),
  (true, 0, 72, List.replicate 24 none),
  (true, 1, 73, List.replicate 24 none),
  (true, 0, 74, List.replicate 24 none),
  (true, 0, 75, List.replicate 24 none),
  (true, 0, 76, List.replicate 24 none),
  (true, 0, 77, List.replicate 24 none),
  (true, 0, 78, List.replicate 4 none),
  (true, 0, 79, List.replicate 4 none)]
def layV (Z : ZW) (J : Int64) (k j : Nat) : Option Nat → Value
  | none => .int (I (Z k j))
  | some r => if r = 2000 then .long J else if r = 4000 then .int (I (Z k j)) else .ref r
def layC (Z : ZW) (J : Int64) (k : Nat) (c : LCell) : MCell := (c.1, c.2.1, c.2.2.2.mapIdx (fun j q => layV Z J k j q))
def lay0 (Z : ZW) (J : Int64) : MW := LAYC.mapIdx (fun k c => layC Z J k c)
def up (Z : ZW) (k : Nat) (j v : Int) : ZW := fun k' j' => if k' = k ∧ j' = j then v else Z k' j'
theorem lay0_get {Z : ZW} {J : Int64} {k : Nat} {c : LCell} (h : LAYC[k]? = some c) : (lay0 Z J)[k]? = some (layC Z J k c) := by
  simp [lay0, List.getElem?_mapIdx, h]
theorem lay0_len (Z : ZW) (J : Int64) : (lay0 Z J).length = 80 := by
  unfold lay0
  rw [List.length_mapIdx]
  rfl
theorem wsz_mapIdx (Z : ZW) (J : Int64) (l : List LCell) (f : Nat → Nat) : (((l.mapIdx (fun k c => layC Z J (f k) c)).map (fun c => c.2.2.length)).sum) = ((l.map (fun c => c.2.2.2.length)).sum) := by
  induction l generalizing f with
  | nil => rfl
  | cons x t ih =>
    rw [List.mapIdx_cons, List.map_cons, List.map_cons, List.sum_cons, List.sum_cons, ih (fun k => f (k + 1))]
    simp [layC]
theorem lay0_sz (Z : ZW) (J : Int64) : wsz (lay0 Z J) = 2169 := by
  unfold wsz lay0
  rw [wsz_mapIdx Z J LAYC (fun k => k)]
  decide +kernel
/-- a slot that holds an int -/
def isI (s : Option Nat) : Bool := match s with
  | none => true
  | some r => decide (r = 4000)
theorem layV_I {Z : ZW} {J : Int64} {k j : Nat} {s : Option Nat} (h : isI s = true) : layV Z J k j s = .int (I (Z k j)) := by
  cases s with
  | none => rfl
  | some r =>
    have h1 : r = 4000 := of_decide_eq_true h
    subst h1
    rfl
theorem layV_N {Z Z' : ZW} {J : Int64} {k j : Nat} {s : Option Nat} (h : isI s = false) : layV Z J k j s = layV Z' J k j s := by
  cases s with
  | none => cases h
  | some r =>
    have h1 : r ≠ 4000 := of_decide_eq_false h
    simp [layV, h1]
theorem layC_set {Z : ZW} {J : Int64} {k j : Nat} {v : Int} {t : Bool} {a l : Nat} {ss : List (Option Nat)} {s : Option Nat} (hs : ss[j]? = some s) (hi : isI s = true) : layC (up Z k j v) J k (t, a, l, ss) = (t, a, (layC Z J k (t, a, l, ss)).2.2.set j (.int (I v))) := by
  unfold layC
  dsimp only
  congr 2
  apply List.ext_getElem?
  intro q
  rw [List.getElem?_mapIdx, List.getElem?_set, List.getElem?_mapIdx, List.length_mapIdx]
  by_cases hq : j = q
  · subst hq
    have hlt := (List.getElem?_eq_some_iff.mp hs).1
    rw [if_pos rfl, if_pos hlt, hs]
    simp only [Option.map_some]
    rw [layV_I hi]
    simp [up]
  · rw [if_neg hq]
    cases hz : ss[q]? with
    | none => rfl
    | some s =>
      simp only [Option.map_some]
      congr 1
      cases hb : isI s with
      | true =>
        have : ¬ ((q : Int) = (j : Int)) := by omega
        rw [layV_I hb, layV_I hb]
        simp [up, this]
      | false => exact layV_N hb
theorem layC_other {Z : ZW} {J : Int64} {k k' : Nat} {j v : Int} {c : LCell} (hk : k' ≠ k) : layC (up Z k j v) J k' c = layC Z J k' c := by
  refine Prod.ext rfl (Prod.ext rfl ?_)
  show c.2.2.2.mapIdx _ = c.2.2.2.mapIdx _
  apply List.ext_getElem?
  intro q
  rw [List.getElem?_mapIdx, List.getElem?_mapIdx]
  cases c.2.2.2[q]? with
  | none => rfl
  | some s =>
    simp only [Option.map_some]
    cases hb : isI s with
    | true => rw [layV_I hb, layV_I hb]; simp [up, hk]
    | false => rw [layV_N hb]
theorem lay0_set {Z : ZW} {J : Int64} {k j : Nat} {v : Int} {t : Bool} {a l : Nat} {ss : List (Option Nat)} {s : Option Nat} (hl : LAYC[k]? = some (t, a, l, ss)) (hs : ss[j]? = some s) (hi : isI s = true) : (lay0 Z J).set k (t, a, (layC Z J k (t, a, l, ss)).2.2.set j (.int (I v))) = lay0 (up Z k j v) J := by
  apply List.ext_getElem?
  intro q
  rw [List.getElem?_set, lay0_len]
  by_cases hq : k = q
  · subst hq
    have hlt : k < 80 := (List.getElem?_eq_some_iff.mp hl).1
    rw [if_pos rfl, if_pos hlt, lay0_get hl, layC_set hs hi]
  · rw [if_neg hq]
    unfold lay0
    rw [List.getElem?_mapIdx, List.getElem?_mapIdx]
    cases LAYC[q]? with
    | none => rfl
    | some c => simp only [Option.map_some]; rw [layC_other (fun h => hq h.symm)]
theorem layC_J {Z : ZW} {J x : Int64} {k : Nat} {c : LCell} (h : ∀ z ∈ c.2.2.2, z ≠ some 2000) : layC Z J k c = layC Z x k c := by
  refine Prod.ext rfl (Prod.ext rfl ?_)
  show c.2.2.2.mapIdx _ = c.2.2.2.mapIdx _
  apply List.ext_getElem?
  intro q
  rw [List.getElem?_mapIdx, List.getElem?_mapIdx]
  cases hq : c.2.2.2[q]? with
  | none => rfl
  | some s =>
    have h3 := h s (List.mem_of_getElem? hq)
    cases s with
    | none => rfl
    | some r =>
      have h4 : r ≠ 2000 := fun h => h3 (by rw [h])
      simp [layV, h4]
theorem key_J : ∀ k, k < 80 → k ≠ 64 → ((LAYC.getD k (false, 0, 0, [])).2.2.2.all (fun z => decide (z ≠ some 2000))) = true := by decide +kernel
theorem key_J2 : ∀ j, j < 31 → ((LAYC.getD 64 (false, 0, 0, [])).2.2.2[j]? = some (some 2000) ↔ j = 30) := by decide +kernel
theorem key_J3 : (LAYC.getD 64 (false, 0, 0, [])).2.2.2.length = 31 := by decide +kernel
theorem lay0_J {Z : ZW} {J x : Int64} {t : Bool} {a l : Nat} {ss : List (Option Nat)} (hl : LAYC[64]? = some (t, a, l, ss)) : (lay0 Z J).set 64 (t, a, (layC Z J 64 (t, a, l, ss)).2.2.set 30 (.long x)) = lay0 Z x := by
  have h64 : LAYC.getD 64 (false, 0, 0, []) = (t, a, l, ss) := by rw [List.getD_eq_getElem?_getD, hl]; rfl
  apply List.ext_getElem?
  intro q
  rw [List.getElem?_set, lay0_len]
  by_cases hq : 64 = q
  · subst hq
    rw [if_pos rfl, if_pos (by omega), lay0_get hl]
    congr 1
    refine Prod.ext rfl (Prod.ext rfl ?_)
    show (ss.mapIdx _).set 30 _ = ss.mapIdx _
    have k3 := key_J3
    rw [h64] at k3
    apply List.ext_getElem?
    intro j
    rw [List.getElem?_set, List.length_mapIdx, List.getElem?_mapIdx, List.getElem?_mapIdx]
    by_cases hj : 30 = j
    · subst hj
      have k2 := (key_J2 30 (by omega)).mpr rfl
      rw [h64] at k2
      have k2 : ss[30]? = some (some 2000) := k2
      have k3 : ss.length = 31 := k3
      rw [if_pos rfl, if_pos (by omega), k2]
      rfl
    · rw [if_neg hj]
      cases hz : ss[j]? with
      | none => rfl
      | some s =>
        have hlt : j < ss.length := (List.getElem?_eq_some_iff.mp hz).1
        have k3 : ss.length = 31 := k3
        have k2 := key_J2 j (by omega)
        rw [h64] at k2
        have k2 : ss[j]? = some (some 2000) ↔ j = 30 := k2
        cases s with
        | none => rfl
        | some r =>
          have h4 : r ≠ 2000 := fun h => hj (k2.mp (by rw [hz, h])).symm
          simp [layV, h4]
  · rw [if_neg hq]
    unfold lay0
    rw [List.getElem?_mapIdx, List.getElem?_mapIdx]
    cases hz : LAYC[q]? with
    | none => rfl
    | some c =>
      have hlt : q < 80 := (List.getElem?_eq_some_iff.mp hz).1
      have h1 := key_J q hlt (fun h => hq h.symm)
      have h2 : LAYC.getD q (false, 0, 0, []) = c := by rw [List.getD_eq_getElem?_getD, hz]; rfl
      rw [h2] at h1
      simp only [Option.map_some]
      rw [layC_J (x := x) (fun z hz => by simpa using List.all_eq_true.mp h1 z hz)]
/-- labels: where the int of a place of a cell stands in Z -/
def lbN (k : Nat) : Nat := if 3 ≤ k ∧ k ≤ 19 then k + 1 else if 80 ≤ k then k + 2 else k
def lab (k : Nat) (j : Int) : Nat × Int :=
  if k = 20 then (if 0 ≤ j then (14, 8 + j) else (80, j))
  else if k = 13 ∧ 8 ≤ j then (81, j)
  else if k = 1 ∧ 2 ≤ j then (3, j - 1)
  else (lbN k, j)
theorem lab_inj {k k' : Nat} {j j' : Int} (h : lab k j = lab k' j') : k = k' ∧ j = j' := by
  unfold lab lbN at h
  repeat' split at h
  all_goals (obtain ⟨h1, h2⟩ := Prod.mk.inj h; omega)
def V (Z : ZW) : ZW := fun k j => Z (lab k j).1 (lab k j).2
def lay (Z : ZW) (J : Int64) : MW := lay0 (V Z) J
theorem lay_get {Z : ZW} {J : Int64} {k : Nat} {c : LCell} (h : LAYC[k]? = some c) : (lay Z J)[k]? = some (layC (V Z) J k c) := lay0_get h
theorem lay_len (Z : ZW) (J : Int64) : (lay Z J).length = 80 := lay0_len (V Z) J
theorem lay_sz (Z : ZW) (J : Int64) : wsz (lay Z J) = 2169 := lay0_sz (V Z) J
theorem V_up {Z : ZW} {k c : Nat} {j b v : Int} (h : lab k j = (c, b)) : up (V Z) k j v = V (up Z c b v) := by
  funext k' j'
  show (if k' = k ∧ j' = j then v else Z (lab k' j').1 (lab k' j').2) = (if (lab k' j').1 = c ∧ (lab k' j').2 = b then v else Z (lab k' j').1 (lab k' j').2)
  by_cases hk : k' = k ∧ j' = j
  · rw [if_pos hk, hk.1, hk.2, h, if_pos ⟨rfl, rfl⟩]
  · rw [if_neg hk, if_neg (fun q => hk (lab_inj (by rw [h]; exact Prod.ext q.1 q.2)))]
theorem V_at {Z : ZW} {k c : Nat} {j b : Int} (h : lab k j = (c, b)) : V Z k j = Z c b := by
  unfold V
  rw [h]
theorem lay_set {Z : ZW} {J : Int64} {k j c : Nat} {b v : Int} {t : Bool} {a l : Nat} {ss : List (Option Nat)} {s : Option Nat} (hl : LAYC[k]? = some (t, a, l, ss)) (hs : ss[j]? = some s) (hi : isI s = true) (hb : lab k j = (c, b)) : (lay Z J).set k (t, a, (layC (V Z) J k (t, a, l, ss)).2.2.set j (.int (I v))) = lay (up Z c b v) J := by
  unfold lay
  rw [lay0_set hl hs hi, V_up hb]
theorem lay_J {Z : ZW} {J x : Int64} {t : Bool} {a l : Nat} {ss : List (Option Nat)} (hl : LAYC[64]? = some (t, a, l, ss)) : (lay Z J).set 64 (t, a, (layC (V Z) J 64 (t, a, l, ss)).2.2.set 30 (.long x)) = lay Z x := lay0_J hl
theorem key_lb : ∀ k, k < 80 → k ≠ 20 → (LAYC.getD k (false, 0, 0, [])).2.2.1 = lbN k := by decide +kernel
theorem key_13 : ∀ j : Nat, 8 ≤ j → (LAYC.getD 13 (false, 0, 0, [])).2.2.2[j]? ≠ some none := by
  intro j hj
  by_cases h : j < 12
  · have : ∀ j, j < 12 → 8 ≤ j → (LAYC.getD 13 (false, 0, 0, [])).2.2.2[j]? ≠ some none := by decide +kernel
    exact this j h hj
  · rw [List.getElem?_eq_none (by show 12 ≤ j; omega)]
    intro q; cases q
theorem key_1 : ∀ j : Nat, 2 ≤ j → (LAYC.getD 1 (false, 0, 0, [])).2.2.2[j]? ≠ some none := by
  intro j hj
  by_cases h : j < 4
  · have : ∀ j, j < 4 → 2 ≤ j → (LAYC.getD 1 (false, 0, 0, [])).2.2.2[j]? ≠ some none := by decide +kernel
    exact this j h hj
  · rw [List.getElem?_eq_none (by show 4 ≤ j; omega)]
    intro q; cases q
theorem key_20 : ∀ j : Nat, (LAYC.getD 20 (false, 0, 0, [])).2.2.2[j]? ≠ some none := by
  intro j
  show (List.replicate 24 (some 4000))[j]? ≠ some none
  rw [List.getElem?_replicate]
  split
  · intro q; cases q
  · intro q; cases q
/-- an int that is no special one stands at the label of its cell -/
theorem lab_norm {k j l a : Nat} {t : Bool} {ss : List (Option Nat)} (hl : LAYC[k]? = some (t, a, l, ss)) (hs : ss[j]? = some none) : lab k j = (l, (j : Int)) := by
  have hk : k < 80 := (List.getElem?_eq_some_iff.mp hl).1
  have hg : LAYC.getD k (false, 0, 0, []) = (t, a, l, ss) := by rw [List.getD_eq_getElem?_getD, hl]; rfl
  have n20 : k ≠ 20 := by
    intro e
    subst e
    have := key_20 j
    rw [hg] at this
    exact this hs
  have n13 : ¬ (k = 13 ∧ (8 : Int) ≤ j) := by
    intro e
    obtain ⟨rfl, e2⟩ := e
    have := key_13 j (by omega)
    rw [hg] at this
    exact this hs
  have n1 : ¬ (k = 1 ∧ (2 : Int) ≤ j) := by
    intro e
    obtain ⟨rfl, e2⟩ := e
    have := key_1 j (by omega)
    rw [hg] at this
    exact this hs
  have h1 := key_lb k hk n20
  rw [hg] at h1
  have h1 : l = lbN k := h1
  unfold lab
  rw [if_neg n20, if_neg n13, if_neg n1, h1]
theorem key_ob : ∀ k, k < 80 → (LAYC.getD k (false, 0, 0, [])).1 = true → k ≠ 1 ∧ k ≠ 13 := by decide +kernel
/-- in an array of ints every place, also one that is not there -/
theorem lab_arr {k n l a : Nat} (hn : 0 < n) (hl : LAYC[k]? = some (true, a, l, List.replicate n none)) (j : Int) : lab k j = (l, j) := by
  have hk : k < 80 := (List.getElem?_eq_some_iff.mp hl).1
  have hg : LAYC.getD k (false, 0, 0, []) = (true, a, l, List.replicate n none) := by rw [List.getD_eq_getElem?_getD, hl]; rfl
  have n20 : k ≠ 20 := by
    intro e
    subst e
    have := key_20 0
    rw [hg] at this
    exact this (by show (List.replicate n none)[0]? = some none; rw [List.getElem?_replicate, if_pos hn])
  obtain ⟨n1, n13⟩ := key_ob k hk (by rw [hg])
  have h1 := key_lb k hk n20
  rw [hg] at h1
  have h1 : l = lbN k := h1
  unfold lab
  rw [if_neg n20, if_neg (fun q => n13 q.1), if_neg (fun q => n1 q.1), h1]
theorem I_in {x : Int} {n : Nat} (h0 : 0 ≤ x) (h1 : x < n) (hn : n < 2147483648) : vp_in (I x) n := by
  rw [vp_in_iff, Int32.toInt_ofInt_of_le (by omega) (by omega)]
  exact ⟨h0, h1⟩
theorem I_nat {x : Int} (h0 : 0 ≤ x) (h1 : x < 2147483648) : (I x).toNatClampNeg = x.toNat := by
  show (Int32.ofInt x).toInt.toNat = _
  rw [Int32.toInt_ofInt_of_le (by omega) (by omega)]
theorem I_int {x : Int} (h0 : -2147483648 ≤ x) (h1 : x ≤ 2147483647) : (I x).toInt = x := Int32.toInt_ofInt_of_le (by omega) (by omega)
theorem I_lt {x y : Int} (hx : -2147483648 ≤ x ∧ x ≤ 2147483647) (hy : -2147483648 ≤ y ∧ y ≤ 2147483647) : I x < I y ↔ x < y := by
  rw [Int32.lt_iff_toInt_lt, I_int hx.1 hx.2, I_int hy.1 hy.2]
theorem I_le {x y : Int} (hx : -2147483648 ≤ x ∧ x ≤ 2147483647) (hy : -2147483648 ≤ y ∧ y ≤ 2147483647) : I x ≤ I y ↔ x ≤ y := by
  rw [Int32.le_iff_toInt_le, I_int hx.1 hx.2, I_int hy.1 hy.2]
theorem I_eq {x y : Int} (hx : -2147483648 ≤ x ∧ x ≤ 2147483647) (hy : -2147483648 ≤ y ∧ y ≤ 2147483647) : I x = I y ↔ x = y := by
  constructor
  · intro h
    have := congrArg Int32.toInt h
    rwa [I_int hx.1 hx.2, I_int hy.1 hy.2] at this
  · intro h; rw [h]
theorem I_add (x y : Int) : I x + I y = I (x + y) := (Int32.ofInt_add x y).symm
theorem I_sub (x y : Int) : I x - I y = I (x - y) := (Int32.ofInt_sub x y).symm
theorem I_mul (x y : Int) : I x * I y = I (x * y) := (Int32.ofInt_mul x y).symm
theorem I_neg (x : Int) : -(I x) = I (-x) := (Int32.ofInt_neg x).symm
theorem I_of (x : Int32) : I x.toInt = x := Int32.ofInt_toInt x
theorem I_bi {n : Int} (h : -128 ≤ n ∧ n ≤ 127) : (Int8.ofInt n).toInt32 = I n := by
  apply Int32.toInt_inj.mp
  rw [Int8.toInt_toInt32, Int8.toInt_ofInt_of_le (by omega) (by omega), I_int (by omega) (by omega)]
theorem I_si {n : Int} (h : -32768 ≤ n ∧ n ≤ 32767) : (Int16.ofInt n).toInt32 = I n := by
  apply Int32.toInt_inj.mp
  rw [Int16.toInt_toInt32, Int16.toInt_ofInt_of_le (by omega) (by omega), I_int (by omega) (by omega)]
end
section
/-! rules over the world behind the constructors: every int is I of an Int -/
abbrev ZΦ : Type := Option Value → ZW → Int64 → Prop
def OkZ (sc : Option (Nat × (Nat → Int32))) (i pc : Nat) (lv : List (Option Value)) (st : List Value) (Z : ZW) (J : Int64) (Φ : ZΦ) : Prop := Ok sc i pc lv st (lay Z J) 80 2169 (fun r w' => ∃ Z' J', w' = lay Z' J' ∧ Φ r Z' J')
def padL (a : Nat) (vs : List Value) : List (Option Value) := argL vs ++ List.replicate (mMax a - (argL vs).length) none
/-- method a, called with vs over Z and J, returns with Ψ -/
def Mz (a : Nat) (vs : List Value) (Z : ZW) (J : Int64) (Ψ : ZΦ) : Prop := OkZ none a 0 (padL a vs) [] Z J Ψ
/-- method a, called with vs over Z and J, returns r and leaves Z1 and J1 -/
def D (a : Nat) (vs : List Value) (Z : ZW) (J : Int64) (r : Option Value) (Z1 : ZW) (J1 : Int64) : Prop := Mz a vs Z J (fun r' Z' J' => r' = r ∧ Z' = Z1 ∧ J' = J1)
theorem Ok.pad {sc : Option (Nat × (Nat → Int32))} {i pc n : Nat} {lv : List (Option Value)} {st : List Value} {w : MW} {cap scap : Nat} {Φ : Option Value → MW → Prop} (h : Ok sc i pc (lv ++ List.replicate n none) st w cap scap Φ) : Ok sc i pc lv st w cap scap Φ := by
  intro p l e R s m args below meth c H locs cells slots Q D aC o ls C hsc ho hR hS hl hc hk
  refine h p l e R s m args below meth c H locs cells slots Q D aC o ls C hsc ho hR hS ⟨hl.1, hl.2.1, fun q hq => ?_⟩ hc hk
  obtain ⟨a, u⟩ := q
  obtain ⟨v0, h1, rfl⟩ := lvA_mem.mp hq
  refine hl.2.2 _ (lvA_mem.mpr ⟨v0, ?_, rfl⟩)
  rw [List.getElem?_append] at h1
  split at h1
  · exact h1
  · rw [List.getElem?_replicate] at h1
    split at h1 <;> cases h1
section ZR
variable {sc : Option (Nat × (Nat → Int32))} {i pc nx a b : Nat} {ws : List Nat} {cv : Value} {lv : List (Option Value)} {st : List Value} {Z : ZW} {J : Int64} {Φ : ZΦ}
theorem z_iadd {x y : Int} (hf : fetch i pc = some (.iadd, nx, a, b, ws, cv)) (h : OkZ sc i nx lv (.int (I (x + y)) :: st) Z J Φ) : OkZ sc i pc lv (.int (I y) :: .int (I x) :: st) Z J Φ := r_iadd hf (by rw [I_add]; exact h)
theorem z_isub {x y : Int} (hf : fetch i pc = some (.isub, nx, a, b, ws, cv)) (h : OkZ sc i nx lv (.int (I (x - y)) :: st) Z J Φ) : OkZ sc i pc lv (.int (I y) :: .int (I x) :: st) Z J Φ := r_isub hf (by rw [I_sub]; exact h)
theorem z_imul {x y : Int} (hf : fetch i pc = some (.imul, nx, a, b, ws, cv)) (h : OkZ sc i nx lv (.int (I (x * y)) :: st) Z J Φ) : OkZ sc i pc lv (.int (I y) :: .int (I x) :: st) Z J Φ := r_imul hf (by rw [I_mul]; exact h)
theorem z_ineg {x : Int} (hf : fetch i pc = some (.ineg, nx, a, b, ws, cv)) (h : OkZ sc i nx lv (.int (I (-x)) :: st) Z J Φ) : OkZ sc i pc lv (.int (I x) :: st) Z J Φ := r_ineg hf (by rw [I_neg]; exact h)
theorem z_iand {x y : Int32} {v : Int} (hf : fetch i pc = some (.iand, nx, a, b, ws, cv)) (hv : x &&& y = I v) (h : OkZ sc i nx lv (.int (I v) :: st) Z J Φ) : OkZ sc i pc lv (.int y :: .int x :: st) Z J Φ := r_iand hf (by rw [hv]; exact h)
theorem z_ior {x y : Int32} {v : Int} (hf : fetch i pc = some (.ior, nx, a, b, ws, cv)) (hv : x ||| y = I v) (h : OkZ sc i nx lv (.int (I v) :: st) Z J Φ) : OkZ sc i pc lv (.int y :: .int x :: st) Z J Φ := r_ior hf (by rw [hv]; exact h)
theorem z_ishl {x y : Int32} {v : Int} (hf : fetch i pc = some (.ishl, nx, a, b, ws, cv)) (hv : x <<< (y &&& 31) = I v) (h : OkZ sc i nx lv (.int (I v) :: st) Z J Φ) : OkZ sc i pc lv (.int y :: .int x :: st) Z J Φ := r_ishl hf (by rw [hv]; exact h)
theorem z_ishr {x y : Int32} {v : Int} (hf : fetch i pc = some (.ishr, nx, a, b, ws, cv)) (hv : x >>> (y &&& 31) = I v) (h : OkZ sc i nx lv (.int (I v) :: st) Z J Φ) : OkZ sc i pc lv (.int y :: .int x :: st) Z J Φ := r_ishr hf (by rw [hv]; exact h)
theorem z_idiv {x y : Int32} {v : Int} (hf : fetch i pc = some (.idiv, nx, a, b, ws, cv)) (hne : ¬ y = 0) (hv : x / y = I v) (h : OkZ sc i nx lv (.int (I v) :: st) Z J Φ) : OkZ sc i pc lv (.int y :: .int x :: st) Z J Φ := r_idiv hf hne (by rw [hv]; exact h)
theorem z_irem {x y : Int32} {v : Int} (hf : fetch i pc = some (.irem, nx, a, b, ws, cv)) (hne : ¬ y = 0) (hv : x - x / y * y = I v) (h : OkZ sc i nx lv (.int (I v) :: st) Z J Φ) : OkZ sc i pc lv (.int y :: .int x :: st) Z J Φ := r_irem hf hne (by rw [hv]; exact h)
theorem z_ladd {x y : Int64} (hf : fetch i pc = some (.ladd, nx, a, b, ws, cv)) (h : OkZ sc i nx lv (.long (x + y) :: st) Z J Φ) : OkZ sc i pc lv (.long y :: .long x :: st) Z J Φ := r_ladd hf h
theorem z_lmul {x y : Int64} (hf : fetch i pc = some (.lmul, nx, a, b, ws, cv)) (h : OkZ sc i nx lv (.long (x * y) :: st) Z J Φ) : OkZ sc i pc lv (.long y :: .long x :: st) Z J Φ := r_lmul hf h
theorem z_lcmp {x y : Int64} (hf : fetch i pc = some (.lcmp, nx, a, b, ws, cv)) (h : OkZ sc i nx lv (.int (lg_cmp x y) :: st) Z J Φ) : OkZ sc i pc lv (.long y :: .long x :: st) Z J Φ := r_lcmp hf h
theorem z_i2l {x : Int32} (hf : fetch i pc = some (.i2l, nx, a, b, ws, cv)) (h : OkZ sc i nx lv (.long x.toInt64 :: st) Z J Φ) : OkZ sc i pc lv (.int x :: st) Z J Φ := r_i2l hf h
theorem z_i2f {x : Int32} (hf : fetch i pc = some (.i2f, nx, a, b, ws, cv)) (h : OkZ sc i nx lv (.float (FP.i2f x) :: st) Z J Φ) : OkZ sc i pc lv (.int x :: st) Z J Φ := r_i2f hf h
theorem z_f2i {x : UInt32} (hf : fetch i pc = some (.f2i, nx, a, b, ws, cv)) (h : OkZ sc i nx lv (.int (FP.f2i x) :: st) Z J Φ) : OkZ sc i pc lv (.float x :: st) Z J Φ := r_f2i hf h
theorem z_fmul {x y : UInt32} (hf : fetch i pc = some (.fmul, nx, a, b, ws, cv)) (hne : vf_n32 (FP.fmul x y)) (h : OkZ sc i nx lv (.float (FP.fmul x y) :: st) Z J Φ) : OkZ sc i pc lv (.float y :: .float x :: st) Z J Φ := r_fmul hf hne h
theorem z_fdiv {x y : UInt32} (hf : fetch i pc = some (.fdiv, nx, a, b, ws, cv)) (hne : vf_n32 (FP.fdiv x y)) (h : OkZ sc i nx lv (.float (FP.fdiv x y) :: st) Z J Φ) : OkZ sc i pc lv (.float y :: .float x :: st) Z J Φ := r_fdiv hf hne h
theorem z_fsub {x y : UInt32} (hf : fetch i pc = some (.fsub, nx, a, b, ws, cv)) (hne : vf_n32 (FP.fsub x y)) (h : OkZ sc i nx lv (.float (FP.fsub x y) :: st) Z J Φ) : OkZ sc i pc lv (.float y :: .float x :: st) Z J Φ := r_fsub hf hne h
theorem z_fcmp {x y : UInt32} {op : CmpOp} (hf : fetch i pc = some (.fcmp op, nx, a, b, ws, cv)) (h : OkZ sc i nx lv (.int (Op.cmpValue (FP.fcmp x y) op) :: st) Z J Φ) : OkZ sc i pc lv (.float y :: .float x :: st) Z J Φ := r_fcmp hf h
theorem z_iconst {n : Int} (hf : fetch i pc = some (.iconst n, nx, a, b, ws, cv)) (h : OkZ sc i nx lv (.int (I n) :: st) Z J Φ) : OkZ sc i pc lv (st) Z J Φ := r_iconst hf h
theorem z_bipush {n : Int} (hf : fetch i pc = some (.bipush n, nx, a, b, ws, cv)) (hn : -128 ≤ n ∧ n ≤ 127) (h : OkZ sc i nx lv (.int (I n) :: st) Z J Φ) : OkZ sc i pc lv (st) Z J Φ := r_bipush hf (I_bi hn) h
theorem z_sipush {n : Int} (hf : fetch i pc = some (.sipush n, nx, a, b, ws, cv)) (hn : -32768 ≤ n ∧ n ≤ 32767) (h : OkZ sc i nx lv (.int (I n) :: st) Z J Φ) : OkZ sc i pc lv (st) Z J Φ := r_sipush hf (I_si hn) h
theorem z_fconst0  (hf : fetch i pc = some (.fconst 0, nx, a, b, ws, cv)) (h : OkZ sc i nx lv (.float FP.fconst0 :: st) Z J Φ) : OkZ sc i pc lv (st) Z J Φ := r_fconst0 hf h
theorem z_fconst1  (hf : fetch i pc = some (.fconst 1, nx, a, b, ws, cv)) (h : OkZ sc i nx lv (.float FP.fconst1 :: st) Z J Φ) : OkZ sc i pc lv (st) Z J Φ := r_fconst1 hf h
theorem z_fconst2  (hf : fetch i pc = some (.fconst 2, nx, a, b, ws, cv)) (h : OkZ sc i nx lv (.float FP.fconst2 :: st) Z J Φ) : OkZ sc i pc lv (st) Z J Φ := r_fconst2 hf h
theorem z_null  (hf : fetch i pc = some (.aconst_null, nx, a, b, ws, cv)) (h : OkZ sc i nx lv (.null :: st) Z J Φ) : OkZ sc i pc lv (st) Z J Φ := r_null hf h
theorem z_dup {v : Value} (hf : fetch i pc = some (.dup, nx, a, b, ws, cv)) (hv : v.category = 1) (h : OkZ sc i nx lv (v :: v :: st) Z J Φ) : OkZ sc i pc lv (v :: st) Z J Φ := r_dup hf hv h
theorem z_dup2 {v u : Value} (hf : fetch i pc = some (.dup2, nx, a, b, ws, cv)) (hv : v.category = 1) (hu : u.category = 1) (h : OkZ sc i nx lv (v :: u :: v :: u :: st) Z J Φ) : OkZ sc i pc lv (v :: u :: st) Z J Φ := r_dup2 hf hv hu h
theorem z_iload_n {k : Fin 4} {x : Int32} (hf : fetch i pc = some (.iload_n k, nx, a, b, ws, cv)) (hv : lv[(k : Nat)]? = some (some (.int x))) (h : OkZ sc i nx lv (.int x :: st) Z J Φ) : OkZ sc i pc lv (st) Z J Φ := r_iload_n hf hv h
theorem z_iload {k : Nat} {x : Int32} (hf : fetch i pc = some (.iload k, nx, a, b, ws, cv)) (hv : lv[k]? = some (some (.int x))) (h : OkZ sc i nx lv (.int x :: st) Z J Φ) : OkZ sc i pc lv (st) Z J Φ := r_iload hf hv h
theorem z_lload_n {k : Fin 4} {x : Int64} (hf : fetch i pc = some (.lload_n k, nx, a, b, ws, cv)) (hv : lv[(k : Nat)]? = some (some (.long x))) (h : OkZ sc i nx lv (.long x :: st) Z J Φ) : OkZ sc i pc lv (st) Z J Φ := r_lload_n hf hv h
theorem z_fload_n {k : Fin 4} {x : UInt32} (hf : fetch i pc = some (.fload_n k, nx, a, b, ws, cv)) (hv : lv[(k : Nat)]? = some (some (.float x))) (h : OkZ sc i nx lv (.float x :: st) Z J Φ) : OkZ sc i pc lv (st) Z J Φ := r_fload_n hf hv h
theorem z_aload_n {k : Fin 4} {x : Nat} (hf : fetch i pc = some (.aload_n k, nx, a, b, ws, cv)) (hv : lv[(k : Nat)]? = some (some (.ref x))) (h : OkZ sc i nx lv (.ref x :: st) Z J Φ) : OkZ sc i pc lv (st) Z J Φ := r_aload_n hf hv h
theorem z_aload {k : Nat} {x : Nat} (hf : fetch i pc = some (.aload k, nx, a, b, ws, cv)) (hv : lv[k]? = some (some (.ref x))) (h : OkZ sc i nx lv (.ref x :: st) Z J Φ) : OkZ sc i pc lv (st) Z J Φ := r_aload hf hv h
theorem z_aload_nN {k : Fin 4} (hf : fetch i pc = some (.aload_n k, nx, a, b, ws, cv)) (hv : lv[(k : Nat)]? = some (some .null)) (h : OkZ sc i nx lv (.null :: st) Z J Φ) : OkZ sc i pc lv (st) Z J Φ := r_aload_nN hf hv h
theorem z_istore_n {k : Fin 4} {x : Int32} (hf : fetch i pc = some (.istore_n k, nx, a, b, ws, cv)) (hn : Nat.blt (k : Nat) (mMax i) = true) (hg : stG lv (k : Nat) = true) (h : OkZ sc i nx (lv.set (k : Nat) (some (.int x))) (st) Z J Φ) : OkZ sc i pc lv (.int x :: st) Z J Φ := r_istore_n hf (Nat.le_of_ble_eq_true hn) hg h
theorem z_istore {k : Nat} {x : Int32} (hf : fetch i pc = some (.istore k, nx, a, b, ws, cv)) (hn : Nat.blt k (mMax i) = true) (hg : stG lv k = true) (h : OkZ sc i nx (lv.set k (some (.int x))) (st) Z J Φ) : OkZ sc i pc lv (.int x :: st) Z J Φ := r_istore hf (Nat.le_of_ble_eq_true hn) hg h
theorem z_astore_n {k : Fin 4} {x : Nat} (hf : fetch i pc = some (.astore_n k, nx, a, b, ws, cv)) (hn : Nat.blt (k : Nat) (mMax i) = true) (hg : stG lv (k : Nat) = true) (h : OkZ sc i nx (lv.set (k : Nat) (some (.ref x))) (st) Z J Φ) : OkZ sc i pc lv (.ref x :: st) Z J Φ := r_astore_n hf (Nat.le_of_ble_eq_true hn) hg h
theorem z_astore_nN {k : Fin 4} (hf : fetch i pc = some (.astore_n k, nx, a, b, ws, cv)) (hn : Nat.blt (k : Nat) (mMax i) = true) (hg : stG lv (k : Nat) = true) (h : OkZ sc i nx (lv.set (k : Nat) (some (.null))) (st) Z J Φ) : OkZ sc i pc lv (.null :: st) Z J Φ := r_astore_nN hf (Nat.le_of_ble_eq_true hn) hg h
theorem z_astore {k : Nat} {x : Nat} (hf : fetch i pc = some (.astore k, nx, a, b, ws, cv)) (hn : Nat.blt k (mMax i) = true) (hg : stG lv k = true) (h : OkZ sc i nx (lv.set k (some (.ref x))) (st) Z J Φ) : OkZ sc i pc lv (.ref x :: st) Z J Φ := r_astore hf (Nat.le_of_ble_eq_true hn) hg h
theorem z_fstore_n {k : Fin 4} {x : UInt32} (hf : fetch i pc = some (.fstore_n k, nx, a, b, ws, cv)) (hn : Nat.blt (k : Nat) (mMax i) = true) (hg : stG lv (k : Nat) = true) (h : OkZ sc i nx (lv.set (k : Nat) (some (.float x))) (st) Z J Φ) : OkZ sc i pc lv (.float x :: st) Z J Φ := r_fstore_n hf (Nat.le_of_ble_eq_true hn) hg h
theorem z_lstore_n {k : Fin 4} {x : Int64} (hf : fetch i pc = some (.lstore_n k, nx, a, b, ws, cv)) (hn : Nat.blt ((k : Nat) + 1) (mMax i) = true) (hg : stG lv (k : Nat) = true) (h : OkZ sc i nx ((lv.set (k : Nat) (some (.long x))).set ((k : Nat) + 1) none) (st) Z J Φ) : OkZ sc i pc lv (.long x :: st) Z J Φ := r_lstore_n hf (Nat.le_of_ble_eq_true hn) hg h
theorem z_iinc {k : Nat} {n x : Int} (hf : fetch i pc = some (.iinc k n, nx, a, b, ws, cv)) (hv : lv[k]? = some (some (.int (I x)))) (hn : Nat.blt k (mMax i) = true) (hg : stG lv k = true) (h : OkZ sc i nx (lv.set k (some (.int (I (x + n))))) (st) Z J Φ) : OkZ sc i pc lv (st) Z J Φ := r_iinc hf hv (Nat.le_of_ble_eq_true hn) hg (by rw [I_add]; exact h)
theorem z_goto {off : Int} (hf : fetch i pc = some (.goto off, nx, a, b, ws, cv)) (h : OkZ sc i a lv (st) Z J Φ) : OkZ sc i pc lv (st) Z J Φ := r_goto hf h
theorem z_icmp_eq {x y : Int} {off : Int} (hf : fetch i pc = some (.if_icmp .eq off, nx, a, b, ws, cv)) (hx : -2147483648 ≤ x ∧ x ≤ 2147483647) (hy : -2147483648 ≤ y ∧ y ≤ 2147483647) (ht : x = y → OkZ sc i a lv (st) Z J Φ) (hn : ¬ x = y → OkZ sc i nx lv (st) Z J Φ) : OkZ sc i pc lv (.int (I y) :: .int (I x) :: st) Z J Φ := r_icmp_eq hf (fun q => ht ((I_eq hx hy).mp q)) (fun q => hn (fun z => q ((I_eq hx hy).mpr z)))
theorem z_if_eq {x : Int} {off : Int} (hf : fetch i pc = some (.ifCond .eq off, nx, a, b, ws, cv)) (hx : -2147483648 ≤ x ∧ x ≤ 2147483647) (ht : x = 0 → OkZ sc i a lv (st) Z J Φ) (hn : ¬ x = 0 → OkZ sc i nx lv (st) Z J Φ) : OkZ sc i pc lv (.int (I x) :: st) Z J Φ := r_if_eq hf (fun q => ht ((I_eq (y := 0) hx ⟨by omega, by omega⟩).mp q)) (fun q => hn (fun z => q ((I_eq (y := 0) hx ⟨by omega, by omega⟩).mpr z)))
theorem z_rcmp_eq {x y : Int32} {off : Int} (hf : fetch i pc = some (.if_icmp .eq off, nx, a, b, ws, cv)) (ht : x = y → OkZ sc i a lv (st) Z J Φ) (hn : ¬ x = y → OkZ sc i nx lv (st) Z J Φ) : OkZ sc i pc lv (.int y :: .int x :: st) Z J Φ := r_icmp_eq hf ht hn
theorem z_rif_eq {x : Int32} {off : Int} (hf : fetch i pc = some (.ifCond .eq off, nx, a, b, ws, cv)) (ht : x = 0 → OkZ sc i a lv (st) Z J Φ) (hn : ¬ x = 0 → OkZ sc i nx lv (st) Z J Φ) : OkZ sc i pc lv (.int x :: st) Z J Φ := r_if_eq hf ht hn
theorem z_icmp_ne {x y : Int} {off : Int} (hf : fetch i pc = some (.if_icmp .ne off, nx, a, b, ws, cv)) (hx : -2147483648 ≤ x ∧ x ≤ 2147483647) (hy : -2147483648 ≤ y ∧ y ≤ 2147483647) (ht : ¬ x = y → OkZ sc i a lv (st) Z J Φ) (hn : x = y → OkZ sc i nx lv (st) Z J Φ) : OkZ sc i pc lv (.int (I y) :: .int (I x) :: st) Z J Φ := r_icmp_ne hf (fun q => ht (fun z => q ((I_eq hx hy).mpr z))) (fun q => hn ((I_eq hx hy).mp q))
theorem z_if_ne {x : Int} {off : Int} (hf : fetch i pc = some (.ifCond .ne off, nx, a, b, ws, cv)) (hx : -2147483648 ≤ x ∧ x ≤ 2147483647) (ht : ¬ x = 0 → OkZ sc i a lv (st) Z J Φ) (hn : x = 0 → OkZ sc i nx lv (st) Z J Φ) : OkZ sc i pc lv (.int (I x) :: st) Z J Φ := r_if_ne hf (fun q => ht (fun z => q ((I_eq (y := 0) hx ⟨by omega, by omega⟩).mpr z))) (fun q => hn ((I_eq (y := 0) hx ⟨by omega, by omega⟩).mp q))
theorem z_rcmp_ne {x y : Int32} {off : Int} (hf : fetch i pc = some (.if_icmp .ne off, nx, a, b, ws, cv)) (ht : ¬ x = y → OkZ sc i a lv (st) Z J Φ) (hn : x = y → OkZ sc i nx lv (st) Z J Φ) : OkZ sc i pc lv (.int y :: .int x :: st) Z J Φ := r_icmp_ne hf ht hn
theorem z_rif_ne {x : Int32} {off : Int} (hf : fetch i pc = some (.ifCond .ne off, nx, a, b, ws, cv)) (ht : ¬ x = 0 → OkZ sc i a lv (st) Z J Φ) (hn : x = 0 → OkZ sc i nx lv (st) Z J Φ) : OkZ sc i pc lv (.int x :: st) Z J Φ := r_if_ne hf ht hn
theorem z_icmp_lt {x y : Int} {off : Int} (hf : fetch i pc = some (.if_icmp .lt off, nx, a, b, ws, cv)) (hx : -2147483648 ≤ x ∧ x ≤ 2147483647) (hy : -2147483648 ≤ y ∧ y ≤ 2147483647) (ht : x < y → OkZ sc i a lv (st) Z J Φ) (hn : ¬ x < y → OkZ sc i nx lv (st) Z J Φ) : OkZ sc i pc lv (.int (I y) :: .int (I x) :: st) Z J Φ := r_icmp_lt hf (fun q => ht ((I_lt hx hy).mp q)) (fun q => hn (fun z => q ((I_lt hx hy).mpr z)))
theorem z_if_lt {x : Int} {off : Int} (hf : fetch i pc = some (.ifCond .lt off, nx, a, b, ws, cv)) (hx : -2147483648 ≤ x ∧ x ≤ 2147483647) (ht : x < 0 → OkZ sc i a lv (st) Z J Φ) (hn : ¬ x < 0 → OkZ sc i nx lv (st) Z J Φ) : OkZ sc i pc lv (.int (I x) :: st) Z J Φ := r_if_lt hf (fun q => ht ((I_lt (y := 0) hx ⟨by omega, by omega⟩).mp q)) (fun q => hn (fun z => q ((I_lt (y := 0) hx ⟨by omega, by omega⟩).mpr z)))
theorem z_rcmp_lt {x y : Int32} {off : Int} (hf : fetch i pc = some (.if_icmp .lt off, nx, a, b, ws, cv)) (ht : x < y → OkZ sc i a lv (st) Z J Φ) (hn : ¬ x < y → OkZ sc i nx lv (st) Z J Φ) : OkZ sc i pc lv (.int y :: .int x :: st) Z J Φ := r_icmp_lt hf ht hn
theorem z_rif_lt {x : Int32} {off : Int} (hf : fetch i pc = some (.ifCond .lt off, nx, a, b, ws, cv)) (ht : x < 0 → OkZ sc i a lv (st) Z J Φ) (hn : ¬ x < 0 → OkZ sc i nx lv (st) Z J Φ) : OkZ sc i pc lv (.int x :: st) Z J Φ := r_if_lt hf ht hn
theorem z_icmp_ge {x y : Int} {off : Int} (hf : fetch i pc = some (.if_icmp .ge off, nx, a, b, ws, cv)) (hx : -2147483648 ≤ x ∧ x ≤ 2147483647) (hy : -2147483648 ≤ y ∧ y ≤ 2147483647) (ht : y ≤ x → OkZ sc i a lv (st) Z J Φ) (hn : ¬ y ≤ x → OkZ sc i nx lv (st) Z J Φ) : OkZ sc i pc lv (.int (I y) :: .int (I x) :: st) Z J Φ := r_icmp_ge hf (fun q => ht ((I_le hy hx).mp q)) (fun q => hn (fun z => q ((I_le hy hx).mpr z)))
theorem z_if_ge {x : Int} {off : Int} (hf : fetch i pc = some (.ifCond .ge off, nx, a, b, ws, cv)) (hx : -2147483648 ≤ x ∧ x ≤ 2147483647) (ht : 0 ≤ x → OkZ sc i a lv (st) Z J Φ) (hn : ¬ 0 ≤ x → OkZ sc i nx lv (st) Z J Φ) : OkZ sc i pc lv (.int (I x) :: st) Z J Φ := r_if_ge hf (fun q => ht ((I_le (x := 0) ⟨by omega, by omega⟩ hx).mp q)) (fun q => hn (fun z => q ((I_le (x := 0) ⟨by omega, by omega⟩ hx).mpr z)))
theorem z_rcmp_ge {x y : Int32} {off : Int} (hf : fetch i pc = some (.if_icmp .ge off, nx, a, b, ws, cv)) (ht : y ≤ x → OkZ sc i a lv (st) Z J Φ) (hn : ¬ y ≤ x → OkZ sc i nx lv (st) Z J Φ) : OkZ sc i pc lv (.int y :: .int x :: st) Z J Φ := r_icmp_ge hf ht hn
theorem z_rif_ge {x : Int32} {off : Int} (hf : fetch i pc = some (.ifCond .ge off, nx, a, b, ws, cv)) (ht : 0 ≤ x → OkZ sc i a lv (st) Z J Φ) (hn : ¬ 0 ≤ x → OkZ sc i nx lv (st) Z J Φ) : OkZ sc i pc lv (.int x :: st) Z J Φ := r_if_ge hf ht hn
theorem z_icmp_gt {x y : Int} {off : Int} (hf : fetch i pc = some (.if_icmp .gt off, nx, a, b, ws, cv)) (hx : -2147483648 ≤ x ∧ x ≤ 2147483647) (hy : -2147483648 ≤ y ∧ y ≤ 2147483647) (ht : y < x → OkZ sc i a lv (st) Z J Φ) (hn : ¬ y < x → OkZ sc i nx lv (st) Z J Φ) : OkZ sc i pc lv (.int (I y) :: .int (I x) :: st) Z J Φ := r_icmp_gt hf (fun q => ht ((I_lt hy hx).mp q)) (fun q => hn (fun z => q ((I_lt hy hx).mpr z)))
theorem z_if_gt {x : Int} {off : Int} (hf : fetch i pc = some (.ifCond .gt off, nx, a, b, ws, cv)) (hx : -2147483648 ≤ x ∧ x ≤ 2147483647) (ht : 0 < x → OkZ sc i a lv (st) Z J Φ) (hn : ¬ 0 < x → OkZ sc i nx lv (st) Z J Φ) : OkZ sc i pc lv (.int (I x) :: st) Z J Φ := r_if_gt hf (fun q => ht ((I_lt (x := 0) ⟨by omega, by omega⟩ hx).mp q)) (fun q => hn (fun z => q ((I_lt (x := 0) ⟨by omega, by omega⟩ hx).mpr z)))
theorem z_rcmp_gt {x y : Int32} {off : Int} (hf : fetch i pc = some (.if_icmp .gt off, nx, a, b, ws, cv)) (ht : y < x → OkZ sc i a lv (st) Z J Φ) (hn : ¬ y < x → OkZ sc i nx lv (st) Z J Φ) : OkZ sc i pc lv (.int y :: .int x :: st) Z J Φ := r_icmp_gt hf ht hn
theorem z_rif_gt {x : Int32} {off : Int} (hf : fetch i pc = some (.ifCond .gt off, nx, a, b, ws, cv)) (ht : 0 < x → OkZ sc i a lv (st) Z J Φ) (hn : ¬ 0 < x → OkZ sc i nx lv (st) Z J Φ) : OkZ sc i pc lv (.int x :: st) Z J Φ := r_if_gt hf ht hn
theorem z_icmp_le {x y : Int} {off : Int} (hf : fetch i pc = some (.if_icmp .le off, nx, a, b, ws, cv)) (hx : -2147483648 ≤ x ∧ x ≤ 2147483647) (hy : -2147483648 ≤ y ∧ y ≤ 2147483647) (ht : x ≤ y → OkZ sc i a lv (st) Z J Φ) (hn : ¬ x ≤ y → OkZ sc i nx lv (st) Z J Φ) : OkZ sc i pc lv (.int (I y) :: .int (I x) :: st) Z J Φ := r_icmp_le hf (fun q => ht ((I_le hx hy).mp q)) (fun q => hn (fun z => q ((I_le hx hy).mpr z)))
theorem z_if_le {x : Int} {off : Int} (hf : fetch i pc = some (.ifCond .le off, nx, a, b, ws, cv)) (hx : -2147483648 ≤ x ∧ x ≤ 2147483647) (ht : x ≤ 0 → OkZ sc i a lv (st) Z J Φ) (hn : ¬ x ≤ 0 → OkZ sc i nx lv (st) Z J Φ) : OkZ sc i pc lv (.int (I x) :: st) Z J Φ := r_if_le hf (fun q => ht ((I_le (y := 0) hx ⟨by omega, by omega⟩).mp q)) (fun q => hn (fun z => q ((I_le (y := 0) hx ⟨by omega, by omega⟩).mpr z)))
theorem z_rcmp_le {x y : Int32} {off : Int} (hf : fetch i pc = some (.if_icmp .le off, nx, a, b, ws, cv)) (ht : x ≤ y → OkZ sc i a lv (st) Z J Φ) (hn : ¬ x ≤ y → OkZ sc i nx lv (st) Z J Φ) : OkZ sc i pc lv (.int y :: .int x :: st) Z J Φ := r_icmp_le hf ht hn
theorem z_rif_le {x : Int32} {off : Int} (hf : fetch i pc = some (.ifCond .le off, nx, a, b, ws, cv)) (ht : x ≤ 0 → OkZ sc i a lv (st) Z J Φ) (hn : ¬ x ≤ 0 → OkZ sc i nx lv (st) Z J Φ) : OkZ sc i pc lv (.int x :: st) Z J Φ := r_if_le hf ht hn
theorem z_ifb_eq {c : Bool} {off : Int} (hf : fetch i pc = some (.ifCond .eq off, nx, a, b, ws, cv)) (ht : c = false → OkZ sc i a lv (st) Z J Φ) (hn : c = true → OkZ sc i nx lv (st) Z J Φ) : OkZ sc i pc lv (.int (I (if c then 1 else 0)) :: st) Z J Φ := by
  cases c
  · exact z_if_eq hf ⟨by decide, by decide⟩ (fun _ => ht rfl) (fun q => absurd rfl q)
  · exact z_if_eq hf ⟨by decide, by decide⟩ (fun q => absurd q (by decide)) (fun _ => hn rfl)
theorem z_ifb_ne {c : Bool} {off : Int} (hf : fetch i pc = some (.ifCond .ne off, nx, a, b, ws, cv)) (ht : c = true → OkZ sc i a lv (st) Z J Φ) (hn : c = false → OkZ sc i nx lv (st) Z J Φ) : OkZ sc i pc lv (.int (I (if c then 1 else 0)) :: st) Z J Φ := by
  cases c
  · exact z_if_ne hf ⟨by decide, by decide⟩ (fun q => absurd rfl q) (fun _ => hn rfl)
  · exact z_if_ne hf ⟨by decide, by decide⟩ (fun _ => ht rfl) (fun q => absurd q (by decide))
theorem z_ifnonnull {x : Nat} {off : Int} (hf : fetch i pc = some (.ifnonnull off, nx, a, b, ws, cv)) (h : OkZ sc i a lv (st) Z J Φ) : OkZ sc i pc lv (.ref x :: st) Z J Φ := r_ifnonnull hf h
theorem z_ifnonnullN {off : Int} (hf : fetch i pc = some (.ifnonnull off, nx, a, b, ws, cv)) (h : OkZ sc i nx lv (st) Z J Φ) : OkZ sc i pc lv (.null :: st) Z J Φ := r_ifnonnullN hf h
theorem z_swOut {dflt lo hi : Int} {offs : Array Int} {x : Int} {tgt : Nat} (hf : fetch i pc = some (.tableswitch dflt lo hi offs, nx, a, b, ws, cv)) (hx : -2147483648 ≤ x ∧ x ≤ 2147483647) (hq : x < lo ∨ hi < x) (ht : (pc : Int) + dflt = (tgt : Int)) (h : OkZ sc i tgt lv (st) Z J Φ) : OkZ sc i pc lv (.int (I x) :: st) Z J Φ := r_swOut hf (by rw [I_int hx.1 hx.2]; exact hq) ht h
theorem z_swIn {dflt lo hi off : Int} {offs : Array Int} {x : Int} {tgt : Nat} (hf : fetch i pc = some (.tableswitch dflt lo hi offs, nx, a, b, ws, cv)) (hx : -2147483648 ≤ x ∧ x ≤ 2147483647) (h1 : ¬ x < lo) (h2 : ¬ hi < x) (h3 : offs[(x - lo).toNat]? = some off) (ht : (pc : Int) + off = (tgt : Int)) (h : OkZ sc i tgt lv (st) Z J Φ) : OkZ sc i pc lv (.int (I x) :: st) Z J Φ := r_swIn hf (by rw [I_int hx.1 hx.2]; exact h1) (by rw [I_int hx.1 hx.2]; exact h2) (by rw [I_int hx.1 hx.2]; exact h3) ht h
theorem z_ldc {v : Int32} {idx w1 : Nat} (hf : fetch i pc = some (.ldc idx, nx, a, b, [w1], .int v)) (h : OkZ sc i nx lv (.int v :: st) Z J Φ) : OkZ sc i pc lv (st) Z J Φ := r_ldc hf h
theorem z_ldcf {v : UInt32} {idx w1 : Nat} (hf : fetch i pc = some (.ldc idx, nx, a, b, [w1], .float v)) (h : OkZ sc i nx lv (.float v :: st) Z J Φ) : OkZ sc i pc lv (st) Z J Φ := r_ldcf hf h
theorem z_ldc2 {v : Int64} {idx w1 : Nat} (hf : fetch i pc = some (.ldc2_w idx, nx, a, b, [w1], .long v)) (h : OkZ sc i nx lv (.long v :: st) Z J Φ) : OkZ sc i pc lv (st) Z J Φ := r_ldc2 hf h
theorem z_iret {x : Int32} (hf : fetch i pc = some (.ireturn, nx, a, b, ws, cv)) (hty : mRet i = some .int) (hΦ : Φ (some (.int x)) Z J) : OkZ sc i pc lv [.int x] Z J Φ := r_iret hf hty rfl ⟨Z, J, rfl, hΦ⟩
theorem z_bret {c : Bool} (hf : fetch i pc = some (.ireturn, nx, a, b, ws, cv)) (hty : mRet i = some .boolean) (hΦ : Φ (some (.int (I (if c then 1 else 0)))) Z J) : OkZ sc i pc lv [.int (I (if c then 1 else 0))] Z J Φ := r_iret hf hty (by cases c <;> decide) ⟨Z, J, rfl, hΦ⟩
theorem z_bret1 (hf : fetch i pc = some (.ireturn, nx, a, b, ws, cv)) (hty : mRet i = some .boolean) (hΦ : Φ (some (.int (I 1))) Z J) : OkZ sc i pc lv [.int (I 1)] Z J Φ := r_iret hf hty (by decide) ⟨Z, J, rfl, hΦ⟩
theorem z_bret0 (hf : fetch i pc = some (.ireturn, nx, a, b, ws, cv)) (hty : mRet i = some .boolean) (hΦ : Φ (some (.int (I 0))) Z J) : OkZ sc i pc lv [.int (I 0)] Z J Φ := r_iret hf hty (by decide) ⟨Z, J, rfl, hΦ⟩
theorem z_lret {x : Int64} (hf : fetch i pc = some (.lreturn, nx, a, b, ws, cv)) (hty : mRet i = some .long) (hΦ : Φ (some (.long x)) Z J) : OkZ sc i pc lv [.long x] Z J Φ := r_lret hf hty ⟨Z, J, rfl, hΦ⟩
theorem z_vret (hf : fetch i pc = some (.return_, nx, a, b, ws, cv)) (hty : mRet i = none) (hΦ : Φ none Z J) : OkZ sc i pc lv [] Z J Φ := r_vret hf hty ⟨Z, J, rfl, hΦ⟩
theorem z_aret {k : Nat} {rt : FieldType} (hf : fetch i pc = some (.areturn, nx, a, b, ws, cv)) (hty : mRet i = some rt) (hrt : (∃ n, rt = .object n) ∨ ∃ t, rt = .array t) (hΦ : Φ (some (.ref k)) Z J) : OkZ sc i pc lv [.ref k] Z J Φ := r_aret hf hty hrt (Or.inr ⟨k, rfl⟩) ⟨Z, J, rfl, hΦ⟩
theorem lay_slot {Z : ZW} {k j : Nat} {t : Bool} {q l : Nat} {ss : List (Option Nat)} {s : Option Nat} (hs : ss[j]? = some s) : (layC Z J k (t, q, l, ss)).2.2[j]? = some (layV Z J k j s) := by
  simp [layC, List.getElem?_mapIdx, hs]
theorem z_getI {idx w1 k l : Nat} {ss : List (Option Nat)} {bi : Int} (hf : fetch i pc = some (.getfield idx, nx, a, b, [w1], cv)) (hl : LAYC[k]? = some (false, a, l, ss)) (hs : ss[b]? = some none) (hb : (b : Int) = bi) (h : OkZ sc i nx lv (.int (I (Z l bi)) :: st) Z J Φ) : OkZ sc i pc lv (.ref k :: st) Z J Φ := r_getf hf (lay_get hl) (lay_slot hs) (by
  subst hb
  rw [layV_I rfl, V_at (lab_norm hl hs)]
  exact h)
theorem z_getS {idx w1 l : Nat} {ss : List (Option Nat)} {bi : Int} (hf : fetch i pc = some (.getfield idx, nx, a, b, [w1], cv)) (hl : LAYC[1]? = some (false, a, l, ss)) (hs : ss[b]? = some (some 4000)) (hb : lab 1 b = (3, bi)) (h : OkZ sc i nx lv (.int (I (Z 3 bi)) :: st) Z J Φ) : OkZ sc i pc lv (.ref 1 :: st) Z J Φ := r_getf hf (lay_get hl) (lay_slot hs) (by
  rw [layV_I rfl, V_at hb]
  exact h)
theorem z_getR {idx w1 k r l : Nat} {ss : List (Option Nat)} (hf : fetch i pc = some (.getfield idx, nx, a, b, [w1], cv)) (hl : LAYC[k]? = some (false, a, l, ss)) (hs : ss[b]? = some (some r)) (hr : Nat.blt r 1000 = true) (h : OkZ sc i nx lv (.ref r :: st) Z J Φ) : OkZ sc i pc lv (.ref k :: st) Z J Φ := r_getf hf (lay_get hl) (lay_slot hs) (by
  have hr2 : r < 1000 := Nat.le_of_ble_eq_true hr
  have : layV (V Z) J k b (some r) = .ref r := (if_neg (by omega)).trans (if_neg (by omega))
  rw [this]
  exact h)
theorem z_getL {idx w1 k l : Nat} {ss : List (Option Nat)} (hf : fetch i pc = some (.getfield idx, nx, a, b, [w1], cv)) (hl : LAYC[k]? = some (false, a, l, ss)) (hs : ss[b]? = some (some 2000)) (h : OkZ sc i nx lv (.long J :: st) Z J Φ) : OkZ sc i pc lv (.ref k :: st) Z J Φ := r_getf hf (lay_get hl) (lay_slot hs) h
theorem z_putI {idx w1 k l : Nat} {ss : List (Option Nat)} {x bi : Int} (hf : fetch i pc = some (.putfield idx, nx, a, b, [w1], cv)) (hl : LAYC[k]? = some (false, a, l, ss)) (hs : ss[b]? = some none) (hty : tyOf a b = .int) (hb : (b : Int) = bi) (h : OkZ sc i nx lv (st) (up Z l bi x) J Φ) : OkZ sc i pc lv (.int (I x) :: .ref k :: st) Z J Φ := r_putf hf (lay_get hl) (by rw [hty]; rfl) (by
  have := (List.getElem?_eq_some_iff.mp hs).1
  simpa [layC] using this) (by
  subst hb
  have := lay_set (Z := Z) (J := J) (v := x) hl hs rfl (lab_norm hl hs)
  show Ok _ _ _ _ _ ((lay Z J).set k (false, a, (layC (V Z) J k (false, a, l, ss)).2.2.set b (.int (I x)))) _ _ _
  rw [this]
  exact h)
theorem z_putS {idx w1 l : Nat} {ss : List (Option Nat)} {x bi : Int} (hf : fetch i pc = some (.putfield idx, nx, a, b, [w1], cv)) (hl : LAYC[1]? = some (false, a, l, ss)) (hs : ss[b]? = some (some 4000)) (hty : tyOf a b = .int) (hb : lab 1 b = (3, bi)) (h : OkZ sc i nx lv (st) (up Z 3 bi x) J Φ) : OkZ sc i pc lv (.int (I x) :: .ref 1 :: st) Z J Φ := r_putf hf (lay_get hl) (by rw [hty]; rfl) (by
  have := (List.getElem?_eq_some_iff.mp hs).1
  simpa [layC] using this) (by
  have := lay_set (Z := Z) (J := J) (v := x) hl hs rfl hb
  show Ok _ _ _ _ _ ((lay Z J).set 1 (false, a, (layC (V Z) J 1 (false, a, l, ss)).2.2.set b (.int (I x)))) _ _ _
  rw [this]
  exact h)
theorem z_putL {idx w1 l : Nat} {ss : List (Option Nat)} {x : Int64} (hf : fetch i pc = some (.putfield idx, nx, a, 30, [w1], cv)) (hl : LAYC[64]? = some (false, a, l, ss)) (hty : tyOf a 30 = .long) (hs : Nat.blt 30 ss.length = true) (h : OkZ sc i nx lv (st) Z x Φ) : OkZ sc i pc lv (.long x :: .ref 64 :: st) Z J Φ := r_putf hf (lay_get hl) (by rw [hty]; rfl) (by
  have hs2 : 30 < ss.length := Nat.le_of_ble_eq_true hs
  simpa [layC] using hs2) (by
  have := lay_J (Z := Z) (J := J) (x := x) hl
  show Ok _ _ _ _ _ ((lay Z J).set 64 (false, a, (layC (V Z) J 64 (false, a, l, ss)).2.2.set 30 (.long x))) _ _ _
  rw [this]
  exact h)
theorem rep_get {n j : Nat} {s : Option Nat} (h : j < n) : (List.replicate n s)[j]? = some s := by rw [List.getElem?_replicate, if_pos h]
theorem layC_len (Z : ZW) (k : Nat) (t : Bool) (q l n : Nat) (s : Option Nat) : (layC Z J k (t, q, l, List.replicate n s)).2.2.length = n := by simp [layC]
theorem lay_n {k l q n : Nat} {t : Bool} {s : Option Nat} (hl : LAYC[k]? = some (t, q, l, List.replicate n s)) : n < 1000 := by
  have : ∀ k, k < 80 → (LAYC.getD k (false, 0, 0, [])).2.2.2.length < 1000 := by decide +kernel
  have h1 := this k (List.getElem?_eq_some_iff.mp hl).1
  rw [List.getD_eq_getElem?_getD, hl] at h1
  simpa using h1
theorem z_iald {k n l : Nat} {x : Int} (hf : fetch i pc = some (.iaload, nx, a, b, ws, cv)) (hl : LAYC[k]? = some (true, 0, l, List.replicate n none)) (h0 : 0 ≤ x ∧ x < n) (h : OkZ sc i nx lv (.int (I (Z l x)) :: st) Z J Φ) : OkZ sc i pc lv (.int (I x) :: .ref k :: st) Z J Φ := by
  have hn := lay_n hl
  have hx : x.toNat < n := by omega
  refine r_iald (fs := (layC (V Z) J k (true, 0, l, List.replicate n none)).2.2) hf (lay_get hl) (by rw [layC_len]; exact I_in h0.1 h0.2 (by omega)) (y := I (Z l x)) ?_ h
  rw [I_nat h0.1 (by omega), lay_slot (rep_get hx), layV_I rfl, V_at (lab_norm hl (rep_get hx)), Int.toNat_of_nonneg h0.1]
theorem z_zald {k n l : Nat} {x : Int} (hf : fetch i pc = some (.baload, nx, a, b, ws, cv)) (hl : LAYC[k]? = some (true, 1, l, List.replicate n none)) (h0 : 0 ≤ x ∧ x < n) (h : OkZ sc i nx lv (.int (I (Z l x)) :: st) Z J Φ) : OkZ sc i pc lv (.int (I x) :: .ref k :: st) Z J Φ := by
  have hn := lay_n hl
  have hx : x.toNat < n := by omega
  refine r_zald (fs := (layC (V Z) J k (true, 1, l, List.replicate n none)).2.2) hf (lay_get hl) (by rw [layC_len]; exact I_in h0.1 h0.2 (by omega)) (y := I (Z l x)) ?_ h
  rw [I_nat h0.1 (by omega), lay_slot (rep_get hx), layV_I rfl, V_at (lab_norm hl (rep_get hx)), Int.toNat_of_nonneg h0.1]
theorem z_iast {k n l : Nat} {x y : Int} (hf : fetch i pc = some (.iastore, nx, a, b, ws, cv)) (hl : LAYC[k]? = some (true, 0, l, List.replicate n none)) (h0 : 0 ≤ x ∧ x < n) (h : OkZ sc i nx lv (st) (up Z l x y) J Φ) : OkZ sc i pc lv (.int (I y) :: .int (I x) :: .ref k :: st) Z J Φ := by
  have hn := lay_n hl
  have hx : x.toNat < n := by omega
  refine r_iast (fs := (layC (V Z) J k (true, 0, l, List.replicate n none)).2.2) hf (lay_get hl) (by rw [layC_len]; exact I_in h0.1 h0.2 (by omega))  ?_
  rw [I_nat h0.1 (by omega)]
  have := lay_set (Z := Z) (J := J) (v := y) hl (rep_get hx) rfl (lab_norm hl (rep_get hx))
  rw [Int.toNat_of_nonneg h0.1] at this
  show Ok _ _ _ _ _ ((lay Z J).set k (true, 0, (layC (V Z) J k (true, 0, l, List.replicate n none)).2.2.set x.toNat (.int (I y)))) _ _ _
  rw [this]
  exact h
theorem z_zast {k n l : Nat} {x y : Int} (hf : fetch i pc = some (.bastore, nx, a, b, ws, cv)) (hl : LAYC[k]? = some (true, 1, l, List.replicate n none)) (h0 : 0 ≤ x ∧ x < n) (hb : y = 0 ∨ y = 1) (h : OkZ sc i nx lv (st) (up Z l x y) J Φ) : OkZ sc i pc lv (.int (I y) :: .int (I x) :: .ref k :: st) Z J Φ := by
  have hn := lay_n hl
  have hx : x.toNat < n := by omega
  refine r_zast (fs := (layC (V Z) J k (true, 1, l, List.replicate n none)).2.2) hf (lay_get hl) (by rw [layC_len]; exact I_in h0.1 h0.2 (by omega)) (by rcases hb with rfl | rfl <;> decide) ?_
  rw [I_nat h0.1 (by omega)]
  have := lay_set (Z := Z) (J := J) (v := y) hl (rep_get hx) rfl (lab_norm hl (rep_get hx))
  rw [Int.toNat_of_nonneg h0.1] at this
  show Ok _ _ _ _ _ ((lay Z J).set k (true, 1, (layC (V Z) J k (true, 1, l, List.replicate n none)).2.2.set x.toNat (.int (I y)))) _ _ _
  rw [this]
  exact h
theorem lab_20 {x : Int} (h0 : 0 ≤ x) : lab 20 (x.toNat : Int) = (14, 8 + x) := by
  unfold lab
  rw [if_pos rfl, if_pos (by omega), Int.toNat_of_nonneg h0]
theorem z_xald {k n l c : Nat} {s : Option Nat} {x xo : Int} (hf : fetch i pc = some (.baload, nx, a, b, ws, cv)) (hl : LAYC[k]? = some (true, 1, l, List.replicate n s)) (hi : isI s = true) (h0 : 0 ≤ x ∧ x < n) (hb : lab k (x.toNat : Int) = (c, xo)) (h : OkZ sc i nx lv (.int (I (Z c xo)) :: st) Z J Φ) : OkZ sc i pc lv (.int (I x) :: .ref k :: st) Z J Φ := by
  have hn := lay_n hl
  have hx : x.toNat < n := by omega
  refine r_zald (fs := (layC (V Z) J k (true, 1, l, List.replicate n s)).2.2) hf (lay_get hl) (by rw [layC_len]; exact I_in h0.1 h0.2 (by omega)) (y := I (Z c xo)) ?_ h
  rw [I_nat h0.1 (by omega), lay_slot (rep_get hx), layV_I hi, V_at hb]
theorem z_xast {k n l c : Nat} {s : Option Nat} {x y xo : Int} (hf : fetch i pc = some (.bastore, nx, a, b, ws, cv)) (hl : LAYC[k]? = some (true, 1, l, List.replicate n s)) (hi : isI s = true) (h0 : 0 ≤ x ∧ x < n) (hb : lab k (x.toNat : Int) = (c, xo)) (hy : y = 0 ∨ y = 1) (h : OkZ sc i nx lv (st) (up Z c xo y) J Φ) : OkZ sc i pc lv (.int (I y) :: .int (I x) :: .ref k :: st) Z J Φ := by
  have hn := lay_n hl
  have hx : x.toNat < n := by omega
  refine r_zast (fs := (layC (V Z) J k (true, 1, l, List.replicate n s)).2.2) hf (lay_get hl) (by rw [layC_len]; exact I_in h0.1 h0.2 (by omega)) (by rcases hy with rfl | rfl <;> decide) ?_
  rw [I_nat h0.1 (by omega)]
  have := lay_set (Z := Z) (J := J) (v := y) hl (rep_get hx) hi hb
  show Ok _ _ _ _ _ ((lay Z J).set k (true, 1, (layC (V Z) J k (true, 1, l, List.replicate n s)).2.2.set x.toNat (.int (I y)))) _ _ _
  rw [this]
  exact h
theorem lay_20 : LAYC[20]? = some (true, 1, 14, List.replicate 24 (some 4000)) := rfl
theorem z_eald {x : Int} (hf : fetch i pc = some (.baload, nx, a, b, ws, cv)) (h0 : 0 ≤ x ∧ x < 24) (h : OkZ sc i nx lv (.int (I (Z 14 (8 + x))) :: st) Z J Φ) : OkZ sc i pc lv (.int (I x) :: .ref 20 :: st) Z J Φ := z_xald hf lay_20 rfl ⟨h0.1, by omega⟩ (lab_20 h0.1) h
theorem z_east {x y : Int} (hf : fetch i pc = some (.bastore, nx, a, b, ws, cv)) (h0 : 0 ≤ x ∧ x < 24) (hb : y = 0 ∨ y = 1) (h : OkZ sc i nx lv (st) (up Z 14 (8 + x) y) J Φ) : OkZ sc i pc lv (.int (I y) :: .int (I x) :: .ref 20 :: st) Z J Φ := z_xast hf lay_20 rfl ⟨h0.1, by omega⟩ (lab_20 h0.1) hb h
theorem z_alen {k n l : Nat} {ni : Int} (hf : fetch i pc = some (.arraylength, nx, a, b, ws, cv)) (hl : LAYC[k]? = some (true, 0, l, List.replicate n none)) (hn : (n : Int) = ni) (h : OkZ sc i nx lv (.int (I ni) :: st) Z J Φ) : OkZ sc i pc lv (.ref k :: st) Z J Φ := r_alen hf (lay_get hl) (by
  show OkZ sc i nx lv (.int (Int32.ofNat (layC (V Z) J k (true, 0, l, List.replicate n none)).2.2.length) :: st) Z J Φ
  rw [layC_len]
  subst hn
  exact h)
theorem z_place {x : Int} (hf : fetch i pc = some (.aaload, nx, a, b, ws, cv)) (h0 : 0 ≤ x ∧ x < 5) (h : OkZ sc i nx lv (.ref (34 + 5 * x.toNat) :: st) Z J Φ) : OkZ sc i pc lv (.int (I x) :: .ref 33 :: st) Z J Φ := by
  have hl : LAYC[33]? = some (true, 2, 33, [some 34, some 39, some 44, some 49, some 54]) := rfl
  have hx : x.toNat < 5 := by omega
  refine r_aald hf (lay_get hl) (I_in (n := 5) h0.1 h0.2 (by omega)) (y := 34 + 5 * x.toNat) ?_ (by omega) h
  rw [I_nat h0.1 (by omega)]
  generalize x.toNat = q at hx
  match q, hx with
  | 0, _ => rfl
  | 1, _ => rfl
  | 2, _ => rfl
  | 3, _ => rfl
  | 4, _ => rfl
def cpy (Z : ZW) (k0 k1 : Nat) (n : Int) : ZW := fun k j => if k = k1 ∧ 0 ≤ j ∧ j < n then Z k0 j else Z k j
theorem lay0_cpy {Z : ZW} {k0 k1 n n0 n1 l0 l1 : Nat} (hl0 : LAYC[k0]? = some (true, 0, l0, List.replicate n0 none)) (hl1 : LAYC[k1]? = some (true, 0, l1, List.replicate n1 none)) (h0 : n ≤ n0) (h1 : n ≤ n1) : (lay0 Z J).set k1 (true, 0, (layC Z J k0 (true, 0, l0, List.replicate n0 none)).2.2.take n ++ (layC Z J k1 (true, 0, l1, List.replicate n1 none)).2.2.drop n) = lay0 (cpy Z k0 k1 n) J := by
  apply List.ext_getElem?
  intro q
  rw [List.getElem?_set, lay0_len]
  by_cases hq : k1 = q
  · subst hq
    have hlt : k1 < 80 := (List.getElem?_eq_some_iff.mp hl1).1
    rw [if_pos rfl, if_pos hlt, lay0_get hl1]
    congr 1
    refine Prod.ext rfl (Prod.ext rfl ?_)
    apply List.ext_getElem?
    intro j
    rw [List.getElem?_append, List.length_take, layC_len, Nat.min_eq_left h0]
    by_cases hj : j < n
    · rw [if_pos hj, List.getElem?_take, if_pos hj, lay_slot (rep_get (by omega)), lay_slot (rep_get (by omega))]
      have : (0 : Int) ≤ j ∧ (j : Int) < n := by omega
      simp [layV, cpy, this.2]
    · rw [if_neg hj, List.getElem?_drop, show n + (j - n) = j by omega]
      by_cases hj1 : j < n1
      · rw [lay_slot (rep_get hj1), lay_slot (rep_get hj1)]
        have : ¬ ((j : Int) < n) := by omega
        simp [layV, cpy, this]
      · rw [List.getElem?_eq_none (by rw [layC_len]; omega), List.getElem?_eq_none (by rw [layC_len]; omega)]
  · rw [if_neg hq]
    unfold lay0
    rw [List.getElem?_mapIdx, List.getElem?_mapIdx]
    cases LAYC[q]? with
    | none => rfl
    | some c =>
      simp only [Option.map_some]
      congr 1
      refine Prod.ext rfl (Prod.ext rfl ?_)
      show c.2.2.2.mapIdx _ = c.2.2.2.mapIdx _
      apply List.ext_getElem?
      intro j
      rw [List.getElem?_mapIdx, List.getElem?_mapIdx]
      cases c.2.2.2[j]? with
      | none => rfl
      | some s =>
        have hne : ¬ q = k1 := fun h => hq h.symm
        simp only [Option.map_some]
        cases hb : isI s with
        | true => rw [layV_I hb, layV_I hb]; simp [cpy, hne]
        | false => rw [layV_N hb]
theorem V_cpy {k0 k1 l0 l1 : Nat} {n : Int} (hl0 : ∀ j, lab k0 j = (l0, j)) (hl1 : ∀ j, lab k1 j = (l1, j)) : cpy (V Z) k0 k1 n = V (cpy Z l0 l1 n) := by
  funext k j
  show (if k = k1 ∧ 0 ≤ j ∧ j < n then Z (lab k0 j).1 (lab k0 j).2 else Z (lab k j).1 (lab k j).2) = (if (lab k j).1 = l1 ∧ 0 ≤ (lab k j).2 ∧ (lab k j).2 < n then Z l0 (lab k j).2 else Z (lab k j).1 (lab k j).2)
  by_cases hk : k = k1 ∧ 0 ≤ j ∧ j < n
  · rw [if_pos hk, hl0, hk.1, hl1, if_pos ⟨rfl, hk.2⟩]
  · rw [if_neg hk, if_neg (fun q => ?_)]
    have h1 : lab k j = lab k1 (lab k j).2 := by rw [hl1]; exact Prod.ext q.1 rfl
    obtain ⟨e1, e2⟩ := lab_inj h1
    exact hk ⟨e1, by rw [e2]; exact q.2⟩
theorem z_copy {w1 w2 w3 w4 idx k0 k1 n0 n1 l0 l1 : Nat} {x : Int} (hf : fetch i pc = some (.invokestatic idx, nx, a, b, [w1, w2, w3, w4], .int 3)) (hl0 : LAYC[k0]? = some (true, 0, l0, List.replicate n0 none)) (hl1 : LAYC[k1]? = some (true, 0, l1, List.replicate n1 none)) (hx : 0 ≤ x ∧ x ≤ 1000) (h0 : x ≤ n0) (h1 : x ≤ n1) (hrest : (st.map fun v => v.category).sum ≤ 8) (h : OkZ sc i nx lv (st) (cpy Z l0 l1 x) J Φ) : OkZ sc i pc lv (.int (I x) :: .int (I 0) :: .ref k1 :: .int (I 0) :: .ref k0 :: st) Z J Φ := by
  refine r_copy (n := x.toNat) (fs := (layC (V Z) J k0 (true, 0, l0, List.replicate n0 none)).2.2) (gs := (layC (V Z) J k1 (true, 0, l1, List.replicate n1 none)).2.2) hf (lay_get hl0) (lay_get hl1) (fun q => ?_) (I_nat hx.1 (by omega)) (by rw [layC_len]; omega) (by rw [layC_len]; omega) hrest ?_
  · have := (I_lt (x := x) (y := 0) ⟨by omega, by omega⟩ ⟨by omega, by omega⟩).mp q
    omega
  · have hn0 : ∀ k l n : Nat, LAYC[k]? = some (true, 0, l, List.replicate n none) → 0 < n := by
      intro k l n hl
      have key : ∀ k, k < 80 → 0 < (LAYC.getD k (false, 0, 0, [])).2.2.2.length := by decide +kernel
      have h1 := key k (List.getElem?_eq_some_iff.mp hl).1
      rw [List.getD_eq_getElem?_getD, hl] at h1
      simpa using h1
    have := lay0_cpy (Z := V Z) (J := J) (n := x.toNat) hl0 hl1 (by omega) (by omega)
    rw [Int.toNat_of_nonneg hx.1, V_cpy (lab_arr (hn0 _ _ _ hl0) hl0) (lab_arr (hn0 _ _ _ hl1) hl1)] at this
    show Ok _ _ _ _ _ ((lay0 (V Z) J).set k1 _) _ _ _
    rw [this]
    exact h
theorem z_raw {w1 w2 w3 w4 idx : Nat} {x : UInt32} (hf : fetch i pc = some (.invokestatic idx, nx, a, b, [w1, w2, w3, w4], .int 4)) (hrest : (st.map fun v => v.category).sum ≤ 8) (h : OkZ sc i nx lv (.int x.toInt32 :: st) Z J Φ) : OkZ sc i pc lv (.float x :: st) Z J Φ := r_raw hf hrest h
theorem z_callV0g {idx w1 w2 w3 w4 k ci lb : Nat} {ss : List (Option Nat)} {Ψ : ZΦ} (hf : fetch i pc = some (.invokevirtual idx, nx, a, 0, [w1, w2, w3, w4], cv)) (ha : Nat.blt a 154 = true) (hl : LAYC[k]? = some (false, ci, lb, ss)) (hci : (CL[ci]?).map (fun q => q.1) = some (mName a).cls) (hlen : Nat.ble (argL (.ref k :: [])).length (mMax a) = true) (hrest : Nat.ble (st.map fun v => v.category).sum 8 = true) (hM : Mz a (.ref k :: []) Z J Ψ) (h : ∀ r Z' J', Ψ r Z' J' → OkZ sc i nx lv (r.toList ++ st) Z' J' Φ) : OkZ sc i pc lv (.ref k :: st) Z J Φ := r_callV (dc := 0) (ds := 0) (As := []) hf (Nat.le_of_ble_eq_true ha) (lay_get hl) hci rfl (Nat.le_of_ble_eq_true hlen) (Nat.le_of_ble_eq_true hrest) (Ok.pad (by rw [lay_len, lay_sz]; exact hM)) (Ψ := fun r w' => ∃ Z' J', w' = lay Z' J' ∧ Ψ r Z' J') (hΨ := fun r w' q => by obtain ⟨Z', J', e1, -⟩ := q; rw [e1, lay_len, lay_sz, lay_len, lay_sz]; exact ⟨rfl, rfl⟩) (by rw [lay_len]; exact Nat.le_refl _) (by rw [lay_sz]; exact Nat.le_refl _) (fun r w' q => by obtain ⟨Z', J', e1, e2⟩ := q; rw [e1]; exact h r Z' J' e2)
theorem z_callV0 {idx w1 w2 w3 w4 k ci lb : Nat} {ss : List (Option Nat)} {v : Value} {Z1 : ZW} {J1 : Int64} (hf : fetch i pc = some (.invokevirtual idx, nx, a, 0, [w1, w2, w3, w4], cv)) (ha : Nat.blt a 154 = true) (hl : LAYC[k]? = some (false, ci, lb, ss)) (hci : (CL[ci]?).map (fun q => q.1) = some (mName a).cls) (hlen : Nat.ble (argL (.ref k :: [])).length (mMax a) = true) (hrest : Nat.ble (st.map fun v => v.category).sum 8 = true) (hM : D a (.ref k :: []) Z J (some v) Z1 J1) (h : OkZ sc i nx lv (v :: st) Z1 J1 Φ) : OkZ sc i pc lv (.ref k :: st) Z J Φ := z_callV0g hf ha hl hci hlen hrest hM (fun r Z' J' q => by obtain ⟨rfl, rfl, rfl⟩ := q; exact h)
theorem z_callV0v {idx w1 w2 w3 w4 k ci lb : Nat} {ss : List (Option Nat)} {Z1 : ZW} {J1 : Int64} (hf : fetch i pc = some (.invokevirtual idx, nx, a, 0, [w1, w2, w3, w4], cv)) (ha : Nat.blt a 154 = true) (hl : LAYC[k]? = some (false, ci, lb, ss)) (hci : (CL[ci]?).map (fun q => q.1) = some (mName a).cls) (hlen : Nat.ble (argL (.ref k :: [])).length (mMax a) = true) (hrest : Nat.ble (st.map fun v => v.category).sum 8 = true) (hM : D a (.ref k :: []) Z J none Z1 J1) (h : OkZ sc i nx lv (st) Z1 J1 Φ) : OkZ sc i pc lv (.ref k :: st) Z J Φ := z_callV0g hf ha hl hci hlen hrest hM (fun r Z' J' q => by obtain ⟨rfl, rfl, rfl⟩ := q; exact h)
theorem z_callV1g {idx w1 w2 w3 w4 k ci lb : Nat} {ss : List (Option Nat)} {Ψ : ZΦ} {x0 : Value} (hf : fetch i pc = some (.invokevirtual idx, nx, a, 1, [w1, w2, w3, w4], cv)) (ha : Nat.blt a 154 = true) (hl : LAYC[k]? = some (false, ci, lb, ss)) (hci : (CL[ci]?).map (fun q => q.1) = some (mName a).cls) (hlen : Nat.ble (argL (.ref k :: [x0])).length (mMax a) = true) (hrest : Nat.ble (st.map fun v => v.category).sum 8 = true) (hM : Mz a (.ref k :: [x0]) Z J Ψ) (h : ∀ r Z' J', Ψ r Z' J' → OkZ sc i nx lv (r.toList ++ st) Z' J' Φ) : OkZ sc i pc lv (x0 :: .ref k :: st) Z J Φ := r_callV (dc := 0) (ds := 0) (As := [x0]) hf (Nat.le_of_ble_eq_true ha) (lay_get hl) hci rfl (Nat.le_of_ble_eq_true hlen) (Nat.le_of_ble_eq_true hrest) (Ok.pad (by rw [lay_len, lay_sz]; exact hM)) (Ψ := fun r w' => ∃ Z' J', w' = lay Z' J' ∧ Ψ r Z' J') (hΨ := fun r w' q => by obtain ⟨Z', J', e1, -⟩ := q; rw [e1, lay_len, lay_sz, lay_len, lay_sz]; exact ⟨rfl, rfl⟩) (by rw [lay_len]; exact Nat.le_refl _) (by rw [lay_sz]; exact Nat.le_refl _) (fun r w' q => by obtain ⟨Z', J', e1, e2⟩ := q; rw [e1]; exact h r Z' J' e2)
theorem z_callV1 {idx w1 w2 w3 w4 k ci lb : Nat} {ss : List (Option Nat)} {v : Value} {Z1 : ZW} {J1 : Int64} {x0 : Value} (hf : fetch i pc = some (.invokevirtual idx, nx, a, 1, [w1, w2, w3, w4], cv)) (ha : Nat.blt a 154 = true) (hl : LAYC[k]? = some (false, ci, lb, ss)) (hci : (CL[ci]?).map (fun q => q.1) = some (mName a).cls) (hlen : Nat.ble (argL (.ref k :: [x0])).length (mMax a) = true) (hrest : Nat.ble (st.map fun v => v.category).sum 8 = true) (hM : D a (.ref k :: [x0]) Z J (some v) Z1 J1) (h : OkZ sc i nx lv (v :: st) Z1 J1 Φ) : OkZ sc i pc lv (x0 :: .ref k :: st) Z J Φ := z_callV1g hf ha hl hci hlen hrest hM (fun r Z' J' q => by obtain ⟨rfl, rfl, rfl⟩ := q; exact h)
theorem z_callV1v {idx w1 w2 w3 w4 k ci lb : Nat} {ss : List (Option Nat)} {Z1 : ZW} {J1 : Int64} {x0 : Value} (hf : fetch i pc = some (.invokevirtual idx, nx, a, 1, [w1, w2, w3, w4], cv)) (ha : Nat.blt a 154 = true) (hl : LAYC[k]? = some (false, ci, lb, ss)) (hci : (CL[ci]?).map (fun q => q.1) = some (mName a).cls) (hlen : Nat.ble (argL (.ref k :: [x0])).length (mMax a) = true) (hrest : Nat.ble (st.map fun v => v.category).sum 8 = true) (hM : D a (.ref k :: [x0]) Z J none Z1 J1) (h : OkZ sc i nx lv (st) Z1 J1 Φ) : OkZ sc i pc lv (x0 :: .ref k :: st) Z J Φ := z_callV1g hf ha hl hci hlen hrest hM (fun r Z' J' q => by obtain ⟨rfl, rfl, rfl⟩ := q; exact h)
theorem z_callV2g {idx w1 w2 w3 w4 k ci lb : Nat} {ss : List (Option Nat)} {Ψ : ZΦ} {x0 x1 : Value} (hf : fetch i pc = some (.invokevirtual idx, nx, a, 2, [w1, w2, w3, w4], cv)) (ha : Nat.blt a 154 = true) (hl : LAYC[k]? = some (false, ci, lb, ss)) (hci : (CL[ci]?).map (fun q => q.1) = some (mName a).cls) (hlen : Nat.ble (argL (.ref k :: [x0, x1])).length (mMax a) = true) (hrest : Nat.ble (st.map fun v => v.category).sum 8 = true) (hM : Mz a (.ref k :: [x0, x1]) Z J Ψ) (h : ∀ r Z' J', Ψ r Z' J' → OkZ sc i nx lv (r.toList ++ st) Z' J' Φ) : OkZ sc i pc lv (x1 :: x0 :: .ref k :: st) Z J Φ := r_callV (dc := 0) (ds := 0) (As := [x0, x1]) hf (Nat.le_of_ble_eq_true ha) (lay_get hl) hci rfl (Nat.le_of_ble_eq_true hlen) (Nat.le_of_ble_eq_true hrest) (Ok.pad (by rw [lay_len, lay_sz]; exact hM)) (Ψ := fun r w' => ∃ Z' J', w' = lay Z' J' ∧ Ψ r Z' J') (hΨ := fun r w' q => by obtain ⟨Z', J', e1, -⟩ := q; rw [e1, lay_len, lay_sz, lay_len, lay_sz]; exact ⟨rfl, rfl⟩) (by rw [lay_len]; exact Nat.le_refl _) (by rw [lay_sz]; exact Nat.le_refl _) (fun r w' q => by obtain ⟨Z', J', e1, e2⟩ := q; rw [e1]; exact h r Z' J' e2)
theorem z_callV2 {idx w1 w2 w3 w4 k ci lb : Nat} {ss : List (Option Nat)} {v : Value} {Z1 : ZW} {J1 : Int64} {x0 x1 : Value} (hf : fetch i pc = some (.invokevirtual idx, nx, a, 2, [w1, w2, w3, w4], cv)) (ha : Nat.blt a 154 = true) (hl : LAYC[k]? = some (false, ci, lb, ss)) (hci : (CL[ci]?).map (fun q => q.1) = some (mName a).cls) (hlen : Nat.ble (argL (.ref k :: [x0, x1])).length (mMax a) = true) (hrest : Nat.ble (st.map fun v => v.category).sum 8 = true) (hM : D a (.ref k :: [x0, x1]) Z J (some v) Z1 J1) (h : OkZ sc i nx lv (v :: st) Z1 J1 Φ) : OkZ sc i pc lv (x1 :: x0 :: .ref k :: st) Z J Φ := z_callV2g hf ha hl hci hlen hrest hM (fun r Z' J' q => by obtain ⟨rfl, rfl, rfl⟩ := q; exact h)
theorem z_callV2v {idx w1 w2 w3 w4 k ci lb : Nat} {ss : List (Option Nat)} {Z1 : ZW} {J1 : Int64} {x0 x1 : Value} (hf : fetch i pc = some (.invokevirtual idx, nx, a, 2, [w1, w2, w3, w4], cv)) (ha : Nat.blt a 154 = true) (hl : LAYC[k]? = some (false, ci, lb, ss)) (hci : (CL[ci]?).map (fun q => q.1) = some (mName a).cls) (hlen : Nat.ble (argL (.ref k :: [x0, x1])).length (mMax a) = true) (hrest : Nat.ble (st.map fun v => v.category).sum 8 = true) (hM : D a (.ref k :: [x0, x1]) Z J none Z1 J1) (h : OkZ sc i nx lv (st) Z1 J1 Φ) : OkZ sc i pc lv (x1 :: x0 :: .ref k :: st) Z J Φ := z_callV2g hf ha hl hci hlen hrest hM (fun r Z' J' q => by obtain ⟨rfl, rfl, rfl⟩ := q; exact h)
theorem z_callV3g {idx w1 w2 w3 w4 k ci lb : Nat} {ss : List (Option Nat)} {Ψ : ZΦ} {x0 x1 x2 : Value} (hf : fetch i pc = some (.invokevirtual idx, nx, a, 3, [w1, w2, w3, w4], cv)) (ha : Nat.blt a 154 = true) (hl : LAYC[k]? = some (false, ci, lb, ss)) (hci : (CL[ci]?).map (fun q => q.1) = some (mName a).cls) (hlen : Nat.ble (argL (.ref k :: [x0, x1, x2])).length (mMax a) = true) (hrest : Nat.ble (st.map fun v => v.category).sum 8 = true) (hM : Mz a (.ref k :: [x0, x1, x2]) Z J Ψ) (h : ∀ r Z' J', Ψ r Z' J' → OkZ sc i nx lv (r.toList ++ st) Z' J' Φ) : OkZ sc i pc lv (x2 :: x1 :: x0 :: .ref k :: st) Z J Φ := r_callV (dc := 0) (ds := 0) (As := [x0, x1, x2]) hf (Nat.le_of_ble_eq_true ha) (lay_get hl) hci rfl (Nat.le_of_ble_eq_true hlen) (Nat.le_of_ble_eq_true hrest) (Ok.pad (by rw [lay_len, lay_sz]; exact hM)) (Ψ := fun r w' => ∃ Z' J', w' = lay Z' J' ∧ Ψ r Z' J') (hΨ := fun r w' q => by obtain ⟨Z', J', e1, -⟩ := q; rw [e1, lay_len, lay_sz, lay_len, lay_sz]; exact ⟨rfl, rfl⟩) (by rw [lay_len]; exact Nat.le_refl _) (by rw [lay_sz]; exact Nat.le_refl _) (fun r w' q => by obtain ⟨Z', J', e1, e2⟩ := q; rw [e1]; exact h r Z' J' e2)
theorem z_callV3 {idx w1 w2 w3 w4 k ci lb : Nat} {ss : List (Option Nat)} {v : Value} {Z1 : ZW} {J1 : Int64} {x0 x1 x2 : Value} (hf : fetch i pc = some (.invokevirtual idx, nx, a, 3, [w1, w2, w3, w4], cv)) (ha : Nat.blt a 154 = true) (hl : LAYC[k]? = some (false, ci, lb, ss)) (hci : (CL[ci]?).map (fun q => q.1) = some (mName a).cls) (hlen : Nat.ble (argL (.ref k :: [x0, x1, x2])).length (mMax a) = true) (hrest : Nat.ble (st.map fun v => v.category).sum 8 = true) (hM : D a (.ref k :: [x0, x1, x2]) Z J (some v) Z1 J1) (h : OkZ sc i nx lv (v :: st) Z1 J1 Φ) : OkZ sc i pc lv (x2 :: x1 :: x0 :: .ref k :: st) Z J Φ := z_callV3g hf ha hl hci hlen hrest hM (fun r Z' J' q => by obtain ⟨rfl, rfl, rfl⟩ := q; exact h)
theorem z_callV3v {idx w1 w2 w3 w4 k ci lb : Nat} {ss : List (Option Nat)} {Z1 : ZW} {J1 : Int64} {x0 x1 x2 : Value} (hf : fetch i pc = some (.invokevirtual idx, nx, a, 3, [w1, w2, w3, w4], cv)) (ha : Nat.blt a 154 = true) (hl : LAYC[k]? = some (false, ci, lb, ss)) (hci : (CL[ci]?).map (fun q => q.1) = some (mName a).cls) (hlen : Nat.ble (argL (.ref k :: [x0, x1, x2])).length (mMax a) = true) (hrest : Nat.ble (st.map fun v => v.category).sum 8 = true) (hM : D a (.ref k :: [x0, x1, x2]) Z J none Z1 J1) (h : OkZ sc i nx lv (st) Z1 J1 Φ) : OkZ sc i pc lv (x2 :: x1 :: x0 :: .ref k :: st) Z J Φ := z_callV3g hf ha hl hci hlen hrest hM (fun r Z' J' q => by obtain ⟨rfl, rfl, rfl⟩ := q; exact h)
theorem z_callV4g {idx w1 w2 w3 w4 k ci lb : Nat} {ss : List (Option Nat)} {Ψ : ZΦ} {x0 x1 x2 x3 : Value} (hf : fetch i pc = some (.invokevirtual idx, nx, a, 4, [w1, w2, w3, w4], cv)) (ha : Nat.blt a 154 = true) (hl : LAYC[k]? = some (false, ci, lb, ss)) (hci : (CL[ci]?).map (fun q => q.1) = some (mName a).cls) (hlen : Nat.ble (argL (.ref k :: [x0, x1, x2, x3])).length (mMax a) = true) (hrest : Nat.ble (st.map fun v => v.category).sum 8 = true) (hM : Mz a (.ref k :: [x0, x1, x2, x3]) Z J Ψ) (h : ∀ r Z' J', Ψ r Z' J' → OkZ sc i nx lv (r.toList ++ st) Z' J' Φ) : OkZ sc i pc lv (x3 :: x2 :: x1 :: x0 :: .ref k :: st) Z J Φ := r_callV (dc := 0) (ds := 0) (As := [x0, x1, x2, x3]) hf (Nat.le_of_ble_eq_true ha) (lay_get hl) hci rfl (Nat.le_of_ble_eq_true hlen) (Nat.le_of_ble_eq_true hrest) (Ok.pad (by rw [lay_len, lay_sz]; exact hM)) (Ψ := fun r w' => ∃ Z' J', w' = lay Z' J' ∧ Ψ r Z' J') (hΨ := fun r w' q => by obtain ⟨Z', J', e1, -⟩ := q; rw [e1, lay_len, lay_sz, lay_len, lay_sz]; exact ⟨rfl, rfl⟩) (by rw [lay_len]; exact Nat.le_refl _) (by rw [lay_sz]; exact Nat.le_refl _) (fun r w' q => by obtain ⟨Z', J', e1, e2⟩ := q; rw [e1]; exact h r Z' J' e2)
theorem z_callV4 {idx w1 w2 w3 w4 k ci lb : Nat} {ss : List (Option Nat)} {v : Value} {Z1 : ZW} {J1 : Int64} {x0 x1 x2 x3 : Value} (hf : fetch i pc = some (.invokevirtual idx, nx, a, 4, [w1, w2, w3, w4], cv)) (ha : Nat.blt a 154 = true) (hl : LAYC[k]? = some (false, ci, lb, ss)) (hci : (CL[ci]?).map (fun q => q.1) = some (mName a).cls) (hlen : Nat.ble (argL (.ref k :: [x0, x1, x2, x3])).length (mMax a) = true) (hrest : Nat.ble (st.map fun v => v.category).sum 8 = true) (hM : D a (.ref k :: [x0, x1, x2, x3]) Z J (some v) Z1 J1) (h : OkZ sc i nx lv (v :: st) Z1 J1 Φ) : OkZ sc i pc lv (x3 :: x2 :: x1 :: x0 :: .ref k :: st) Z J Φ := z_callV4g hf ha hl hci hlen hrest hM (fun r Z' J' q => by obtain ⟨rfl, rfl, rfl⟩ := q; exact h)
theorem z_callV4v {idx w1 w2 w3 w4 k ci lb : Nat} {ss : List (Option Nat)} {Z1 : ZW} {J1 : Int64} {x0 x1 x2 x3 : Value} (hf : fetch i pc = some (.invokevirtual idx, nx, a, 4, [w1, w2, w3, w4], cv)) (ha : Nat.blt a 154 = true) (hl : LAYC[k]? = some (false, ci, lb, ss)) (hci : (CL[ci]?).map (fun q => q.1) = some (mName a).cls) (hlen : Nat.ble (argL (.ref k :: [x0, x1, x2, x3])).length (mMax a) = true) (hrest : Nat.ble (st.map fun v => v.category).sum 8 = true) (hM : D a (.ref k :: [x0, x1, x2, x3]) Z J none Z1 J1) (h : OkZ sc i nx lv (st) Z1 J1 Φ) : OkZ sc i pc lv (x3 :: x2 :: x1 :: x0 :: .ref k :: st) Z J Φ := z_callV4g hf ha hl hci hlen hrest hM (fun r Z' J' q => by obtain ⟨rfl, rfl, rfl⟩ := q; exact h)
theorem z_callV5g {idx w1 w2 w3 w4 k ci lb : Nat} {ss : List (Option Nat)} {Ψ : ZΦ} {x0 x1 x2 x3 x4 : Value} (hf : fetch i pc = some (.invokevirtual idx, nx, a, 5, [w1, w2, w3, w4], cv)) (ha : Nat.blt a 154 = true) (hl : LAYC[k]? = some (false, ci, lb, ss)) (hci : (CL[ci]?).map (fun q => q.1) = some (mName a).cls) (hlen : Nat.ble (argL (.ref k :: [x0, x1, x2, x3, x4])).length (mMax a) = true) (hrest : Nat.ble (st.map fun v => v.category).sum 8 = true) (hM : Mz a (.ref k :: [x0, x1, x2, x3, x4]) Z J Ψ) (h : ∀ r Z' J', Ψ r Z' J' → OkZ sc i nx lv (r.toList ++ st) Z' J' Φ) : OkZ sc i pc lv (x4 :: x3 :: x2 :: x1 :: x0 :: .ref k :: st) Z J Φ := r_callV (dc := 0) (ds := 0) (As := [x0, x1, x2, x3, x4]) hf (Nat.le_of_ble_eq_true ha) (lay_get hl) hci rfl (Nat.le_of_ble_eq_true hlen) (Nat.le_of_ble_eq_true hrest) (Ok.pad (by rw [lay_len, lay_sz]; exact hM)) (Ψ := fun r w' => ∃ Z' J', w' = lay Z' J' ∧ Ψ r Z' J') (hΨ := fun r w' q => by obtain ⟨Z', J', e1, -⟩ := q; rw [e1, lay_len, lay_sz, lay_len, lay_sz]; exact ⟨rfl, rfl⟩) (by rw [lay_len]; exact Nat.le_refl _) (by rw [lay_sz]; exact Nat.le_refl _) (fun r w' q => by obtain ⟨Z', J', e1, e2⟩ := q; rw [e1]; exact h r Z' J' e2)
theorem z_callV5 {idx w1 w2 w3 w4 k ci lb : Nat} {ss : List (Option Nat)} {v : Value} {Z1 : ZW} {J1 : Int64} {x0 x1 x2 x3 x4 : Value} (hf : fetch i pc = some (.invokevirtual idx, nx, a, 5, [w1, w2, w3, w4], cv)) (ha : Nat.blt a 154 = true) (hl : LAYC[k]? = some (false, ci, lb, ss)) (hci : (CL[ci]?).map (fun q => q.1) = some (mName a).cls) (hlen : Nat.ble (argL (.ref k :: [x0, x1, x2, x3, x4])).length (mMax a) = true) (hrest : Nat.ble (st.map fun v => v.category).sum 8 = true) (hM : D a (.ref k :: [x0, x1, x2, x3, x4]) Z J (some v) Z1 J1) (h : OkZ sc i nx lv (v :: st) Z1 J1 Φ) : OkZ sc i pc lv (x4 :: x3 :: x2 :: x1 :: x0 :: .ref k :: st) Z J Φ := z_callV5g hf ha hl hci hlen hrest hM (fun r Z' J' q => by obtain ⟨rfl, rfl, rfl⟩ := q; exact h)
theorem z_callV5v {idx w1 w2 w3 w4 k ci lb : Nat} {ss : List (Option Nat)} {Z1 : ZW} {J1 : Int64} {x0 x1 x2 x3 x4 : Value} (hf : fetch i pc = some (.invokevirtual idx, nx, a, 5, [w1, w2, w3, w4], cv)) (ha : Nat.blt a 154 = true) (hl : LAYC[k]? = some (false, ci, lb, ss)) (hci : (CL[ci]?).map (fun q => q.1) = some (mName a).cls) (hlen : Nat.ble (argL (.ref k :: [x0, x1, x2, x3, x4])).length (mMax a) = true) (hrest : Nat.ble (st.map fun v => v.category).sum 8 = true) (hM : D a (.ref k :: [x0, x1, x2, x3, x4]) Z J none Z1 J1) (h : OkZ sc i nx lv (st) Z1 J1 Φ) : OkZ sc i pc lv (x4 :: x3 :: x2 :: x1 :: x0 :: .ref k :: st) Z J Φ := z_callV5g hf ha hl hci hlen hrest hM (fun r Z' J' q => by obtain ⟨rfl, rfl, rfl⟩ := q; exact h)
theorem z_callS1g {idx w1 w2 w3 : Nat} {Ψ : ZΦ} {x0 : Value} (hf : fetch i pc = some (.invokestatic idx, nx, a, 1, [w1, w2, w3], cv)) (ha : Nat.blt a 154 = true) (hlen : Nat.ble (argL [x0]).length (mMax a) = true) (hrest : Nat.ble (st.map fun v => v.category).sum 8 = true) (hM : Mz a [x0] Z J Ψ) (h : ∀ r Z' J', Ψ r Z' J' → OkZ sc i nx lv (r.toList ++ st) Z' J' Φ) : OkZ sc i pc lv (x0 :: st) Z J Φ := r_callS (dc := 0) (ds := 0) (As := [x0]) hf (Nat.le_of_ble_eq_true ha) rfl (Nat.le_of_ble_eq_true hlen) (Nat.le_of_ble_eq_true hrest) (Ok.pad (by rw [lay_len, lay_sz]; exact hM)) (Ψ := fun r w' => ∃ Z' J', w' = lay Z' J' ∧ Ψ r Z' J') (hΨ := fun r w' q => by obtain ⟨Z', J', e1, -⟩ := q; rw [e1, lay_len, lay_sz, lay_len, lay_sz]; exact ⟨rfl, rfl⟩) (by rw [lay_len]; exact Nat.le_refl _) (by rw [lay_sz]; exact Nat.le_refl _) (fun r w' q => by obtain ⟨Z', J', e1, e2⟩ := q; rw [e1]; exact h r Z' J' e2)
theorem z_callS1 {idx w1 w2 w3 : Nat} {v : Value} {Z1 : ZW} {J1 : Int64} {x0 : Value} (hf : fetch i pc = some (.invokestatic idx, nx, a, 1, [w1, w2, w3], cv)) (ha : Nat.blt a 154 = true) (hlen : Nat.ble (argL [x0]).length (mMax a) = true) (hrest : Nat.ble (st.map fun v => v.category).sum 8 = true) (hM : D a [x0] Z J (some v) Z1 J1) (h : OkZ sc i nx lv (v :: st) Z1 J1 Φ) : OkZ sc i pc lv (x0 :: st) Z J Φ := z_callS1g hf ha hlen hrest hM (fun r Z' J' q => by obtain ⟨rfl, rfl, rfl⟩ := q; exact h)
theorem z_callS2g {idx w1 w2 w3 : Nat} {Ψ : ZΦ} {x0 x1 : Value} (hf : fetch i pc = some (.invokestatic idx, nx, a, 2, [w1, w2, w3], cv)) (ha : Nat.blt a 154 = true) (hlen : Nat.ble (argL [x0, x1]).length (mMax a) = true) (hrest : Nat.ble (st.map fun v => v.category).sum 8 = true) (hM : Mz a [x0, x1] Z J Ψ) (h : ∀ r Z' J', Ψ r Z' J' → OkZ sc i nx lv (r.toList ++ st) Z' J' Φ) : OkZ sc i pc lv (x1 :: x0 :: st) Z J Φ := r_callS (dc := 0) (ds := 0) (As := [x0, x1]) hf (Nat.le_of_ble_eq_true ha) rfl (Nat.le_of_ble_eq_true hlen) (Nat.le_of_ble_eq_true hrest) (Ok.pad (by rw [lay_len, lay_sz]; exact hM)) (Ψ := fun r w' => ∃ Z' J', w' = lay Z' J' ∧ Ψ r Z' J') (hΨ := fun r w' q => by obtain ⟨Z', J', e1, -⟩ := q; rw [e1, lay_len, lay_sz, lay_len, lay_sz]; exact ⟨rfl, rfl⟩) (by rw [lay_len]; exact Nat.le_refl _) (by rw [lay_sz]; exact Nat.le_refl _) (fun r w' q => by obtain ⟨Z', J', e1, e2⟩ := q; rw [e1]; exact h r Z' J' e2)
theorem z_callS2 {idx w1 w2 w3 : Nat} {v : Value} {Z1 : ZW} {J1 : Int64} {x0 x1 : Value} (hf : fetch i pc = some (.invokestatic idx, nx, a, 2, [w1, w2, w3], cv)) (ha : Nat.blt a 154 = true) (hlen : Nat.ble (argL [x0, x1]).length (mMax a) = true) (hrest : Nat.ble (st.map fun v => v.category).sum 8 = true) (hM : D a [x0, x1] Z J (some v) Z1 J1) (h : OkZ sc i nx lv (v :: st) Z1 J1 Φ) : OkZ sc i pc lv (x1 :: x0 :: st) Z J Φ := z_callS2g hf ha hlen hrest hM (fun r Z' J' q => by obtain ⟨rfl, rfl, rfl⟩ := q; exact h)
theorem z_callS3g {idx w1 w2 w3 : Nat} {Ψ : ZΦ} {x0 x1 x2 : Value} (hf : fetch i pc = some (.invokestatic idx, nx, a, 3, [w1, w2, w3], cv)) (ha : Nat.blt a 154 = true) (hlen : Nat.ble (argL [x0, x1, x2]).length (mMax a) = true) (hrest : Nat.ble (st.map fun v => v.category).sum 8 = true) (hM : Mz a [x0, x1, x2] Z J Ψ) (h : ∀ r Z' J', Ψ r Z' J' → OkZ sc i nx lv (r.toList ++ st) Z' J' Φ) : OkZ sc i pc lv (x2 :: x1 :: x0 :: st) Z J Φ := r_callS (dc := 0) (ds := 0) (As := [x0, x1, x2]) hf (Nat.le_of_ble_eq_true ha) rfl (Nat.le_of_ble_eq_true hlen) (Nat.le_of_ble_eq_true hrest) (Ok.pad (by rw [lay_len, lay_sz]; exact hM)) (Ψ := fun r w' => ∃ Z' J', w' = lay Z' J' ∧ Ψ r Z' J') (hΨ := fun r w' q => by obtain ⟨Z', J', e1, -⟩ := q; rw [e1, lay_len, lay_sz, lay_len, lay_sz]; exact ⟨rfl, rfl⟩) (by rw [lay_len]; exact Nat.le_refl _) (by rw [lay_sz]; exact Nat.le_refl _) (fun r w' q => by obtain ⟨Z', J', e1, e2⟩ := q; rw [e1]; exact h r Z' J' e2)
theorem z_callS3 {idx w1 w2 w3 : Nat} {v : Value} {Z1 : ZW} {J1 : Int64} {x0 x1 x2 : Value} (hf : fetch i pc = some (.invokestatic idx, nx, a, 3, [w1, w2, w3], cv)) (ha : Nat.blt a 154 = true) (hlen : Nat.ble (argL [x0, x1, x2]).length (mMax a) = true) (hrest : Nat.ble (st.map fun v => v.category).sum 8 = true) (hM : D a [x0, x1, x2] Z J (some v) Z1 J1) (h : OkZ sc i nx lv (v :: st) Z1 J1 Φ) : OkZ sc i pc lv (x2 :: x1 :: x0 :: st) Z J Φ := z_callS3g hf ha hlen hrest hM (fun r Z' J' q => by obtain ⟨rfl, rfl, rfl⟩ := q; exact h)
end ZR
end
section
/-! bits and masks (bt, b_ext, b_or, b_and, b_big, b_0 begun from kit/laws/BITS.to-paste) -/
def bt (x : Int32) (i : Nat) : Bool := x.toBitVec.getLsbD i
theorem b_ext {x y : Int32} (h : ∀ i, i < 32 → bt x i = bt y i) : x = y := Int32.toBitVec_inj.mp (BitVec.eq_of_getLsbD_eq (fun i hi => h i hi))
theorem b_or (x y : Int32) (i : Nat) : bt (x ||| y) i = (bt x i || bt y i) := by unfold bt; rw [Int32.toBitVec_or, BitVec.getLsbD_or]
theorem b_and (x y : Int32) (i : Nat) : bt (x &&& y) i = (bt x i && bt y i) := by unfold bt; rw [Int32.toBitVec_and, BitVec.getLsbD_and]
theorem b_big {x : Int32} {i : Nat} (h : 32 ≤ i) : bt x i = false := BitVec.getLsbD_of_ge _ _ h
theorem b_0 (i : Nat) : bt 0 i = false := BitVec.getLsbD_zero
abbrev RG (x : Int) : Prop := -2147483648 ≤ x ∧ x ≤ 2147483647
abbrev bI (c : Bool) : Value := .int (I (if c then 1 else 0))
theorem bz0 {c : Bool} (h : c = false) : some (Value.int (I 0)) = some (.int (I (if c then 1 else 0))) := by rw [h]; rfl
theorem bz1 {c : Bool} (h : c = true) : some (Value.int (I 1)) = some (.int (I (if c then 1 else 0))) := by rw [h]; rfl
theorem RG_of (x : Int32) : RG x.toInt := by
  have h1 := Int32.le_toInt x
  have h2 := Int32.toInt_lt x
  unfold RG
  omega
def bitv (x : Int) : Int := if 0 ≤ x ∧ x < 24 then 2 ^ x.toNat else 0
def orI (a b : Int) : Int := (I a ||| I b).toInt
theorem I_orI (a b : Int) : I a ||| I b = I (orI a b) := (I_of _).symm
theorem orI_RG (a b : Int) : RG (orI a b) := RG_of _
def tbI (m x : Int) : Bool := bt (I m) x.toNat
theorem bitv_tab : ∀ n : Nat, n < 24 → (0 : Int) ≤ 2 ^ n ∧ (2 : Int) ^ n ≤ 8388608 ∧ I 1 <<< (I (n : Int) &&& 31) = I (2 ^ n) ∧ ∀ j, j < 32 → bt (I (2 ^ n)) j = decide (j = n) := by decide +kernel
theorem bitv_RG (x : Int) : RG (bitv x) ∧ 0 ≤ bitv x := by
  unfold bitv RG
  split
  · next h =>
    have := bitv_tab x.toNat (by omega)
    omega
  · omega
theorem bitv_shl {x : Int} (h : 0 ≤ x ∧ x < 24) : I 1 <<< (I x &&& 31) = I (bitv x) := by
  have := (bitv_tab x.toNat (by omega)).2.2.1
  rw [Int.toNat_of_nonneg h.1] at this
  rw [this, bitv, if_pos h]
theorem bt_bitv (x : Int) {j : Nat} (hj : j < 32) : bt (I (bitv x)) j = decide ((j : Int) = x ∧ j < 24) := by
  unfold bitv
  by_cases h : 0 ≤ x ∧ x < 24
  · rw [if_pos h, (bitv_tab x.toNat (by omega)).2.2.2 j hj]
    apply decide_eq_decide.mpr
    omega
  · rw [if_neg h, show I 0 = 0 from rfl, b_0]
    symm
    exact decide_eq_false (by omega)
theorem tb_bitv {x y : Int} (hx : 0 ≤ x ∧ x < 24) : tbI (bitv y) x = decide (x = y) := by
  unfold tbI
  rw [bt_bitv y (by omega)]
  apply decide_eq_decide.mpr
  omega
theorem tb_or (a b x : Int) : tbI (orI a b) x = (tbI a x || tbI b x) := by
  unfold tbI
  rw [← I_orI, b_or]
theorem tb_0 (x : Int) : tbI 0 x = false := b_0 _
theorem mask_ext {a b : Int} (ha : RG a) (hb : RG b) (h : ∀ j, j < 32 → bt (I a) j = bt (I b) j) : a = b := (I_eq ha hb).mp (b_ext h)
theorem and_ne (m x : Int) : (I m &&& I (bitv x) = 0) ↔ (decide (0 ≤ x ∧ x < 24) && tbI m x) = false := by
  constructor
  · intro h
    by_cases hx : 0 ≤ x ∧ x < 24
    · have h1 := congrArg (fun z => bt z x.toNat) h
      simp only [b_and, b_0] at h1
      rw [bt_bitv x (by omega), decide_eq_true (by omega : ((x.toNat : Nat) : Int) = x ∧ x.toNat < 24), Bool.and_true] at h1
      unfold tbI
      rw [h1, Bool.and_false]
    · rw [decide_eq_false hx, Bool.false_and]
  · intro h
    apply b_ext
    intro j hj
    rw [b_and, b_0, bt_bitv x hj]
    by_cases hx : (j : Int) = x ∧ j < 24
    · rw [decide_eq_true (by omega : 0 ≤ x ∧ x < 24), Bool.true_and] at h
      unfold tbI at h
      rw [show x.toNat = j by omega] at h
      rw [h, Bool.false_and]
    · rw [decide_eq_false hx, Bool.and_false]
def jmB (o : Int) : Bool := decide (o = 4 ∨ o = 5 ∨ o = 6)
def goB (o : Int) : Bool := decide (o ≠ 4 ∧ o ≠ 7)
def hbB (m x : Int) : Bool := decide (0 ≤ x ∧ x < 24) && tbI m x
end
section
/-! leaves of the class -/
theorem s_has {Z : ZW} {J : Int64} {x : Int} (hx : RG x) (hs : 0 ≤ Z 4 0 ∧ Z 4 0 ≤ 24) : D 16 [.ref 3, .int (I x)] Z J (some (bI (decide (0 ≤ x ∧ x < Z 4 0)))) Z J := by
  unfold D Mz
  refine z_iload_n rfl rfl ?_
  refine z_if_lt rfl (by omega) (fun h1 => ?_) (fun h1 => ?_)
  · refine z_iconst rfl ?_
    first | exact z_bret0 rfl rfl ⟨bz0 (decide_eq_false (by omega)), rfl, rfl⟩ | exact z_bret1 rfl rfl ⟨bz1 (decide_eq_true (by omega)), rfl, rfl⟩
  · refine z_iload_n rfl rfl ?_
    refine z_aload_n rfl rfl ?_
    refine z_getI (bi := 0) rfl rfl rfl rfl ?_
    refine z_icmp_ge rfl (by omega) (by omega) (fun h9 => ?_) (fun h9 => ?_)
    · refine z_iconst rfl ?_
      first | exact z_bret0 rfl rfl ⟨bz0 (decide_eq_false (by omega)), rfl, rfl⟩ | exact z_bret1 rfl rfl ⟨bz1 (decide_eq_true (by omega)), rfl, rfl⟩
    · refine z_iconst rfl ?_
      refine z_goto rfl ?_
      first | exact z_bret0 rfl rfl ⟨bz0 (decide_eq_false (by omega)), rfl, rfl⟩ | exact z_bret1 rfl rfl ⟨bz1 (decide_eq_true (by omega)), rfl, rfl⟩
theorem s_ghas {Z : ZW} {J : Int64} {x : Int} (hx : RG x) (hs : 0 ≤ Z 14 0 ∧ Z 14 0 ≤ 24) : D 32 [.ref 13, .int (I x)] Z J (some (bI (decide (0 ≤ x ∧ x < Z 14 0)))) Z J := by
  unfold D Mz
  refine z_iload_n rfl rfl ?_
  refine z_if_lt rfl (by omega) (fun h1 => ?_) (fun h1 => ?_)
  · refine z_iconst rfl ?_
    first | exact z_bret0 rfl rfl ⟨bz0 (decide_eq_false (by omega)), rfl, rfl⟩ | exact z_bret1 rfl rfl ⟨bz1 (decide_eq_true (by omega)), rfl, rfl⟩
  · refine z_iload_n rfl rfl ?_
    refine z_aload_n rfl rfl ?_
    refine z_getI (bi := 0) rfl rfl rfl rfl ?_
    refine z_icmp_ge rfl (by omega) (by omega) (fun h9 => ?_) (fun h9 => ?_)
    · refine z_iconst rfl ?_
      first | exact z_bret0 rfl rfl ⟨bz0 (decide_eq_false (by omega)), rfl, rfl⟩ | exact z_bret1 rfl rfl ⟨bz1 (decide_eq_true (by omega)), rfl, rfl⟩
    · refine z_iconst rfl ?_
      refine z_goto rfl ?_
      first | exact z_bret0 rfl rfl ⟨bz0 (decide_eq_false (by omega)), rfl, rfl⟩ | exact z_bret1 rfl rfl ⟨bz1 (decide_eq_true (by omega)), rfl, rfl⟩
theorem s_bit {Z : ZW} {J : Int64} {x : Int} (hx : RG x) : D 24 [.int (I x)] Z J (some (.int (I (bitv x)))) Z J := by
  unfold D Mz
  refine z_iload_n rfl rfl ?_
  refine z_if_lt rfl (by omega) (fun h1 => ?_) (fun h1 => ?_)
  · refine z_iconst rfl ?_
    first | exact z_iret rfl rfl ⟨rfl, rfl, rfl⟩ | (exact z_iret rfl rfl ⟨by rw [bitv, if_neg (by omega)], rfl, rfl⟩)
  · refine z_iload_n rfl rfl ?_
    refine z_bipush rfl (by decide) ?_
    refine z_icmp_ge rfl (by omega) (by omega) (fun h7 => ?_) (fun h7 => ?_)
    · refine z_iconst rfl ?_
      first | exact z_iret rfl rfl ⟨rfl, rfl, rfl⟩ | (exact z_iret rfl rfl ⟨by rw [bitv, if_neg (by omega)], rfl, rfl⟩)
    · refine z_iconst rfl ?_
      refine z_iload_n rfl rfl ?_
      refine z_ishl rfl (bitv_shl (by omega)) ?_
      refine z_goto rfl ?_
      first | exact z_iret rfl rfl ⟨rfl, rfl, rfl⟩ | (exact z_iret rfl rfl ⟨by rw [bitv, if_neg (by omega)], rfl, rfl⟩)
theorem s_contains {Z : ZW} {J : Int64} {m x : Int} (hx : RG x) : D 27 [.int (I m), .int (I x)] Z J (some (bI (hbB m x))) Z J := by
  unfold D Mz
  refine z_iload_n rfl rfl ?_
  refine z_iload_n rfl rfl ?_
  refine z_callS1 rfl rfl rfl rfl (s_bit hx) ?_
  refine z_iand (v := (I m &&& I (bitv x)).toInt) rfl (I_of _).symm ?_
  rw [I_of]
  refine z_rif_eq rfl (fun h6 => ?_) (fun h6 => ?_)
  · refine z_iconst rfl ?_
    first | exact z_bret0 rfl rfl ⟨bz0 ((and_ne m x).mp h6), rfl, rfl⟩ | exact z_bret1 rfl rfl ⟨bz1 (by cases hb : hbB m x with | true => rfl | false => exact absurd ((and_ne m x).mpr hb) h6), rfl, rfl⟩
  · refine z_iconst rfl ?_
    refine z_goto rfl ?_
    first | exact z_bret0 rfl rfl ⟨bz0 ((and_ne m x).mp h6), rfl, rfl⟩ | exact z_bret1 rfl rfl ⟨bz1 (by cases hb : hbB m x with | true => rfl | false => exact absurd ((and_ne m x).mpr hb) h6), rfl, rfl⟩
theorem s_jumps {Z : ZW} {J : Int64} {x : Int} (hx : RG x) : D 25 [.int (I x)] Z J (some (bI (jmB x))) Z J := by
  unfold D Mz
  refine z_iload_n rfl rfl ?_
  refine z_iconst rfl ?_
  refine z_icmp_eq rfl (by omega) (by omega) (fun h2 => ?_) (fun h2 => ?_)
  · refine z_iconst rfl ?_
    refine z_goto rfl ?_
    first | exact z_bret0 rfl rfl ⟨bz0 (decide_eq_false (by omega)), rfl, rfl⟩ | exact z_bret1 rfl rfl ⟨bz1 (decide_eq_true (by omega)), rfl, rfl⟩
  · refine z_iload_n rfl rfl ?_
    refine z_iconst rfl ?_
    refine z_icmp_eq rfl (by omega) (by omega) (fun h7 => ?_) (fun h7 => ?_)
    · refine z_iconst rfl ?_
      refine z_goto rfl ?_
      first | exact z_bret0 rfl rfl ⟨bz0 (decide_eq_false (by omega)), rfl, rfl⟩ | exact z_bret1 rfl rfl ⟨bz1 (decide_eq_true (by omega)), rfl, rfl⟩
    · refine z_iload_n rfl rfl ?_
      refine z_bipush rfl (by decide) ?_
      refine z_icmp_ne rfl (by omega) (by omega) (fun h13 => ?_) (fun h13 => ?_)
      · refine z_iconst rfl ?_
        first | exact z_bret0 rfl rfl ⟨bz0 (decide_eq_false (by omega)), rfl, rfl⟩ | exact z_bret1 rfl rfl ⟨bz1 (decide_eq_true (by omega)), rfl, rfl⟩
      · refine z_iconst rfl ?_
        refine z_goto rfl ?_
        first | exact z_bret0 rfl rfl ⟨bz0 (decide_eq_false (by omega)), rfl, rfl⟩ | exact z_bret1 rfl rfl ⟨bz1 (decide_eq_true (by omega)), rfl, rfl⟩
theorem s_goesOn {Z : ZW} {J : Int64} {x : Int} (hx : RG x) : D 29 [.int (I x)] Z J (some (bI (goB x))) Z J := by
  unfold D Mz
  refine z_iload_n rfl rfl ?_
  refine z_iconst rfl ?_
  refine z_icmp_eq rfl (by omega) (by omega) (fun h2 => ?_) (fun h2 => ?_)
  · refine z_iconst rfl ?_
    first | exact z_bret0 rfl rfl ⟨bz0 (decide_eq_false (by omega)), rfl, rfl⟩ | exact z_bret1 rfl rfl ⟨bz1 (decide_eq_true (by omega)), rfl, rfl⟩
  · refine z_iload_n rfl rfl ?_
    refine z_bipush rfl (by decide) ?_
    refine z_icmp_eq rfl (by omega) (by omega) (fun h8 => ?_) (fun h8 => ?_)
    · refine z_iconst rfl ?_
      first | exact z_bret0 rfl rfl ⟨bz0 (decide_eq_false (by omega)), rfl, rfl⟩ | exact z_bret1 rfl rfl ⟨bz1 (decide_eq_true (by omega)), rfl, rfl⟩
    · refine z_iconst rfl ?_
      refine z_goto rfl ?_
      first | exact z_bret0 rfl rfl ⟨bz0 (decide_eq_false (by omega)), rfl, rfl⟩ | exact z_bret1 rfl rfl ⟨bz1 (decide_eq_true (by omega)), rfl, rfl⟩
/-- the block ends the program: the places 8.. of 14 -/
def enB (Z : ZW) (x : Int) : Bool := decide (I (Z 14 (8 + x)) ≠ 0)
theorem enB_of {Z : ZW} {x : Int} {c : Bool} (h : Z 14 (8 + x) = (if c then 1 else 0)) : enB Z x = c := by
  unfold enB
  rw [h]
  cases c <;> decide
theorem enB_congr {Z Z' : ZW} {x : Int} (h : Z' 14 (8 + x) = Z 14 (8 + x)) : enB Z' x = enB Z x := by
  unfold enB
  rw [h]
theorem s_canEnd {Z : ZW} {J : Int64} {x : Int} (hx : 0 ≤ x ∧ x < Z 14 0) (hs : 0 ≤ Z 14 0 ∧ Z 14 0 ≤ 24) : D 35 [.ref 13, .int (I x)] Z J (some (bI (enB Z x))) Z J := by
  unfold D Mz
  refine z_aload_n rfl rfl ?_
  refine z_iload_n rfl rfl ?_
  refine z_callV1 rfl rfl rfl rfl rfl rfl (s_ghas (by omega) hs) ?_
  refine z_ifb_eq rfl (fun h5 => ?_) (fun h5 => ?_)
  · refine z_iconst rfl ?_
    exact absurd hx (of_decide_eq_false h5)
  · refine z_aload_n rfl rfl ?_
    refine z_getR rfl rfl rfl rfl ?_
    refine z_iload_n rfl rfl ?_
    refine z_eald rfl (by omega) ?_
    refine z_rif_eq rfl (fun h14 => ?_) (fun h14 => ?_)
    · refine z_iconst rfl ?_
      exact z_bret0 rfl rfl ⟨bz0 (decide_eq_false (fun q => q h14)), rfl, rfl⟩
    · refine z_iconst rfl ?_
      refine z_goto rfl ?_
      exact z_bret1 rfl rfl ⟨bz1 (decide_eq_true h14), rfl, rfl⟩
theorem s_blockFrom {Z : ZW} {J : Int64} {x : Int} (hx : RG x) (hs : 0 ≤ Z 4 0 ∧ Z 4 0 ≤ 24) : D 30 [.ref 13, .ref 3, .int (I x)] Z J (some (.int (I (if 0 ≤ x ∧ x < Z 4 0 then Z 15 x else -1)))) Z J := by
  unfold D Mz
  refine z_aload_n rfl rfl ?_
  refine z_iload_n rfl rfl ?_
  refine z_callV1 rfl rfl rfl rfl rfl rfl (s_has hx hs) ?_
  refine z_ifb_eq rfl (fun h5 => ?_) (fun h5 => ?_)
  · refine z_iconst rfl ?_
    first | exact z_iret rfl rfl ⟨by rw [if_pos (of_decide_eq_true h5)], rfl, rfl⟩ | exact z_iret rfl rfl ⟨by rw [if_neg (of_decide_eq_false h5)], rfl, rfl⟩
  · refine z_aload_n rfl rfl ?_
    refine z_getR rfl rfl rfl rfl ?_
    refine z_iload_n rfl rfl ?_
    refine z_iald rfl rfl (by have := of_decide_eq_true h5; omega) ?_
    refine z_goto rfl ?_
    first | exact z_iret rfl rfl ⟨by rw [if_pos (of_decide_eq_true h5)], rfl, rfl⟩ | exact z_iret rfl rfl ⟨by rw [if_neg (of_decide_eq_false h5)], rfl, rfl⟩
theorem s_addPred {Z : ZW} {J : Int64} {q p : Int} (hq : RG q) (hp : RG p) (hs : 0 ≤ Z 14 0 ∧ Z 14 0 ≤ 24) : D 33 [.ref 13, .int (I q), .int (I p)] Z J none (if 0 ≤ q ∧ q < Z 14 0 then up Z 22 q (orI (Z 22 q) (bitv p)) else Z) J := by
  unfold D Mz
  refine z_aload_n rfl rfl ?_
  refine z_iload_n rfl rfl ?_
  refine z_callV1 rfl rfl rfl rfl rfl rfl (s_ghas hq hs) ?_
  refine z_ifb_eq rfl (fun h5 => ?_) (fun h5 => ?_)
  · first | exact z_vret rfl rfl ⟨rfl, by rw [if_pos (of_decide_eq_true h5)], rfl⟩ | exact z_vret rfl rfl ⟨rfl, by rw [if_neg (of_decide_eq_false h5)], rfl⟩
  · refine z_aload_n rfl rfl ?_
    refine z_getR rfl rfl rfl rfl ?_
    refine z_iload_n rfl rfl ?_
    refine z_dup2 rfl rfl rfl ?_
    refine z_iald rfl rfl (by have := of_decide_eq_true h5; omega) ?_
    refine z_iload_n rfl rfl ?_
    refine z_callS1 rfl rfl rfl rfl (s_bit hp) ?_
    refine z_ior rfl (I_orI _ _) ?_
    refine z_iast rfl rfl (by have := of_decide_eq_true h5; omega) ?_
    first | exact z_vret rfl rfl ⟨rfl, by rw [if_pos (of_decide_eq_true h5)], rfl⟩ | exact z_vret rfl rfl ⟨rfl, by rw [if_neg (of_decide_eq_false h5)], rfl⟩
theorem s_isJoined {Z : ZW} {J : Int64} {q p : Int} (hq : 0 ≤ q ∧ q < 24) (hp : 0 ≤ p ∧ p < Z 14 0) (hs : 0 ≤ Z 14 0 ∧ Z 14 0 ≤ 24) (r1 : RG (Z 19 p)) (r2 : RG (Z 22 q)) : D 36 [.ref 13, .int (I q), .int (I p)] Z J (some (bI (decide (q ≠ 0 ∧ q ≠ p ∧ enB Z p = false ∧ Z 19 p = bitv q ∧ Z 22 q = bitv p)))) Z J := by
  have b1 := (bitv_RG q).1
  have b2 := (bitv_RG p).1
  unfold D Mz
  refine z_iload_n rfl rfl ?_
  refine z_if_eq rfl (by omega) (fun h1 => ?_) (fun h1 => ?_)
  · refine z_iconst rfl ?_
    first | exact z_bret1 rfl rfl ⟨bz1 (decide_eq_true (by simp_all)), rfl, rfl⟩ | exact z_bret0 rfl rfl ⟨bz0 (decide_eq_false (by simp_all)), rfl, rfl⟩
  · refine z_iload_n rfl rfl ?_
    refine z_iload_n rfl rfl ?_
    refine z_icmp_eq rfl (by omega) (by omega) (fun h6 => ?_) (fun h6 => ?_)
    · refine z_iconst rfl ?_
      first | exact z_bret1 rfl rfl ⟨bz1 (decide_eq_true (by simp_all)), rfl, rfl⟩ | exact z_bret0 rfl rfl ⟨bz0 (decide_eq_false (by simp_all)), rfl, rfl⟩
    · refine z_aload_n rfl rfl ?_
      refine z_iload_n rfl rfl ?_
      refine z_callV1 rfl rfl rfl rfl rfl rfl (s_canEnd hp hs) ?_
      refine z_ifb_ne rfl (fun h14 => ?_) (fun h14 => ?_)
      · refine z_iconst rfl ?_
        first | exact z_bret1 rfl rfl ⟨bz1 (decide_eq_true (by simp_all)), rfl, rfl⟩ | exact z_bret0 rfl rfl ⟨bz0 (decide_eq_false (by simp_all)), rfl, rfl⟩
      · refine z_aload_n rfl rfl ?_
        refine z_getR rfl rfl rfl rfl ?_
        refine z_iload_n rfl rfl ?_
        refine z_iald rfl rfl (by omega) ?_
        refine z_iload_n rfl rfl ?_
        refine z_callS1 rfl rfl rfl rfl (s_bit (by omega)) ?_
        refine z_icmp_ne rfl (by omega) (by omega) (fun h27 => ?_) (fun h27 => ?_)
        · refine z_iconst rfl ?_
          first | exact z_bret1 rfl rfl ⟨bz1 (decide_eq_true (by simp_all)), rfl, rfl⟩ | exact z_bret0 rfl rfl ⟨bz0 (decide_eq_false (by simp_all)), rfl, rfl⟩
        · refine z_aload_n rfl rfl ?_
          refine z_getR rfl rfl rfl rfl ?_
          refine z_iload_n rfl rfl ?_
          refine z_iald rfl rfl (by omega) ?_
          refine z_iload_n rfl rfl ?_
          refine z_callS1 rfl rfl rfl rfl (s_bit (by omega)) ?_
          refine z_icmp_ne rfl (by omega) (by omega) (fun h40 => ?_) (fun h40 => ?_)
          · refine z_iconst rfl ?_
            first | exact z_bret1 rfl rfl ⟨bz1 (decide_eq_true (by simp_all)), rfl, rfl⟩ | exact z_bret0 rfl rfl ⟨bz0 (decide_eq_false (by simp_all)), rfl, rfl⟩
          · refine z_iconst rfl ?_
            refine z_goto rfl ?_
            first | exact z_bret1 rfl rfl ⟨bz1 (decide_eq_true (by simp_all)), rfl, rfl⟩ | exact z_bret0 rfl rfl ⟨bz0 (decide_eq_false (by simp_all)), rfl, rfl⟩
end
section
/-! the control flow as functions of the program: n instructions, op, rb (operand) -/
abbrev FI : Type := Int → Int
def lm (op rb : FI) : Nat → Int
  | 0 => bitv 0
  | t + 1 =>
    let m := if jmB (op t) then orI (lm op rb t) (bitv (rb t)) else lm op rb t
    if jmB (op t) || decide (op t = 7) then orI m (bitv (t + 1)) else m
def cnt (l : Int → Bool) : Nat → Nat
  | 0 => 0
  | t + 1 => cnt l t + if l t then 1 else 0
def stF (l : Int → Bool) : Nat → Int → Int
  | 0, _ => 0
  | t + 1, b => if l t = true ∧ (cnt l t : Int) = b then t else stF l t b
def laF (l : Int → Bool) : Nat → Int → Int
  | 0, _ => 0
  | t + 1, b => if (cnt l (t + 1) : Int) - 1 = b then t else laF l t b
def ldr (op rb : FI) (n : Nat) : Int → Bool := fun i => tbI (lm op rb n) i
def gnb (op rb : FI) (n : Nat) : Nat := cnt (ldr op rb n) n
def gblk (op rb : FI) (n : Nat) (i : Int) : Int := (cnt (ldr op rb n) (i.toNat + 1) : Int) - 1
def gst (op rb : FI) (n : Nat) (b : Int) : Int := stF (ldr op rb n) n b
def gla (op rb : FI) (n : Nat) (b : Int) : Int := laF (ldr op rb n) n b
def gF (op rb : FI) (n : Nat) (b : Int) : Int := if goB (op (gla op rb n b)) = true ∧ gla op rb n b + 1 < n then gblk op rb n (gla op rb n b + 1) else -1
def gT (op rb : FI) (n : Nat) (b : Int) : Int := if jmB (op (gla op rb n b)) = true ∧ rb (gla op rb n b) < n then gblk op rb n (rb (gla op rb n b)) else -1
def gS (op rb : FI) (n : Nat) (b : Int) : Int := orI (bitv (gF op rb n b)) (bitv (gT op rb n b))
def gE (op rb : FI) (n : Nat) (b : Int) : Bool := decide (op (gla op rb n b) = 7) || (goB (op (gla op rb n b)) && decide (gF op rb n b = -1)) || (jmB (op (gla op rb n b)) && decide (gT op rb n b = -1))
def pmF (F T : FI) : Nat → Int → Int
  | 0, _ => 0
  | t + 1, q =>
    let m := if F t = q then orI (pmF F T t q) (bitv t) else pmF F T t q
    if T t = q then orI m (bitv t) else m
def jnB (E : Int → Bool) (S P : FI) (q p : Int) : Bool := decide (q ≠ 0 ∧ q ≠ p ∧ E p = false ∧ S p = bitv q ∧ P q = bitv p)
def joF (jn : Int → Int → Bool) : Nat → Int → Int
  | 0, _ => -1
  | t + 1, q => if jn q t then t else joF jn t q
def hdW (jo : FI) (nb : Nat) : Nat → Int → Int → Int
  | 0, _, lo => lo
  | d + 1, h, lo => if 0 ≤ h ∧ h < nb ∧ jo h ≠ -1 then hdW jo nb d (jo h) (if jo h < lo then jo h else lo) else h
def rcI (S : FI) : Nat → Int → Int
  | 0, m => m
  | t + 1, m => if tbI (rcI S t m) t then orI (rcI S t m) (S t) else rcI S t m
def rcR (S : FI) (nb : Nat) : Nat → Int → Int
  | 0, m => m
  | d + 1, m => if rcI S nb m = m then m else rcR S nb d (rcI S nb m)
def gP (op rb : FI) (n : Nat) : FI := pmF (gF op rb n) (gT op rb n) (gnb op rb n)
def gJ (op rb : FI) (n : Nat) : FI := joF (jnB (gE op rb n) (gS op rb n) (gP op rb n)) (gnb op rb n)
def gH (op rb : FI) (n : Nat) (b : Int) : Int := hdW (gJ op rb n) (gnb op rb n) (gnb op rb n) b b
def gR (op rb : FI) (n : Nat) : Int := rcR (gS op rb n) (gnb op rb n) (gnb op rb n) (if gnb op rb n = 0 then 0 else bitv 0)
theorem cnt_le (l : Int → Bool) (t : Nat) : cnt l t ≤ t := by
  induction t with
  | zero => exact Nat.le_refl _
  | succ t ih =>
    unfold cnt
    split <;> omega
theorem cnt_mono (l : Int → Bool) {s t : Nat} (h : s ≤ t) : cnt l s ≤ cnt l t := by
  induction h with
  | refl => exact Nat.le_refl _
  | step _ ih => exact Nat.le_trans ih (Nat.le_add_right _ _)
theorem cnt_pos {l : Int → Bool} (h0 : l 0 = true) {t : Nat} (ht : 0 < t) : 0 < cnt l t := by
  have h1 : cnt l 1 = 1 := by simp [cnt, h0]
  have := cnt_mono l (show 1 ≤ t from ht)
  omega
theorem laF_in {l : Int → Bool} (h0 : l 0 = true) : ∀ (t : Nat) (b : Int), 0 ≤ b → b < cnt l t → 0 ≤ laF l t b ∧ laF l t b < t := by
  intro t
  induction t with
  | zero => intro b h1 h2; simp [cnt] at h2; omega
  | succ t ih =>
    intro b h1 h2
    unfold laF
    split
    · omega
    · next hne =>
      have hc : cnt l (t + 1) = cnt l t + if l t then 1 else 0 := rfl
      have hb : b < cnt l t := by
        rcases Nat.eq_zero_or_pos t with rfl | hp
        · simp [cnt, h0] at h2 hne
          omega
        · have := cnt_pos h0 hp
          split at hc <;> omega
      have := ih b h1 hb
      omega
theorem stF_in {l : Int → Bool} (h0 : l 0 = true) : ∀ (t : Nat) (b : Int), 0 ≤ b → b < cnt l t → 0 ≤ stF l t b ∧ stF l t b < t := by
  intro t
  induction t with
  | zero => intro b h1 h2; simp [cnt] at h2; omega
  | succ t ih =>
    intro b h1 h2
    unfold stF
    split
    · omega
    · next hne =>
      have hc : cnt l (t + 1) = cnt l t + if l t then 1 else 0 := rfl
      have hb : b < cnt l t := by
        split at hc
        · next hl => 
          have : ¬ ((cnt l t : Int) = b) := fun h => hne ⟨hl, h⟩
          omega
        · omega
      have := ih b h1 hb
      omega
end
section
/-! the class: leaders and blocks -/
theorem l_leaders {Z : ZW} {J : Int64} {n : Nat} (hn : Z 4 0 = n) (hop : ∀ i, 0 ≤ i → i < (n : Int) → RG (Z 5 i) ∧ RG (Z 7 i)) (hn2 : n ≤ 24) : ∀ (d : Nat) (t m : Int) (x3 : Option Value), 0 ≤ t → t + d = n → m = lm (Z 5) (Z 7) t.toNat → stG [some (.ref 3), some (.int (I m)), some (.int (I t)), x3] 3 = true →
    OkZ none 26 7 [some (.ref 3), some (.int (I m)), some (.int (I t)), x3] [] Z J (fun r Z' J' => r = some (.int (I (lm (Z 5) (Z 7) n))) ∧ Z' = Z ∧ J' = J) := by
  intro d
  induction d with
  | zero =>
    intro t m x3 h0 ht hm hg
    refine z_iload_n rfl rfl ?_
    refine z_aload_n rfl rfl ?_
    refine z_getI (bi := 0) rfl rfl rfl rfl ?_
    refine z_icmp_ge rfl (by omega) (by omega) (fun h12 => ?_) (fun h12 => ?_)
    · refine z_iload_n rfl rfl ?_
      exact z_iret rfl rfl ⟨by rw [hm, show t.toNat = n by omega], rfl, rfl⟩
    · omega
  | succ d ih =>
    intro t m x3 h0 ht hm hg
    have hr := hop t h0 (by omega)
    have hs : lm (Z 5) (Z 7) (t + 1).toNat = (if jmB (Z 5 t) || decide (Z 5 t = 7) then orI (if jmB (Z 5 t) then orI m (bitv (Z 7 t)) else m) (bitv (t + 1)) else (if jmB (Z 5 t) then orI m (bitv (Z 7 t)) else m)) := by
      rw [show (t + 1).toNat = t.toNat + 1 by omega, hm]
      show (if jmB (Z 5 (t.toNat : Int)) || decide (Z 5 (t.toNat : Int) = 7) then _ else _) = _
      rw [Int.toNat_of_nonneg h0]
    refine z_iload_n rfl rfl ?_
    refine z_aload_n rfl rfl ?_
    refine z_getI (bi := 0) rfl rfl rfl rfl ?_
    refine z_icmp_ge rfl (by omega) (by omega) (fun h12 => ?_) (fun h12 => ?_)
    · omega
    · refine z_aload_n rfl rfl ?_
      refine z_getR rfl rfl rfl rfl ?_
      refine z_iload_n rfl rfl ?_
      refine z_iald rfl rfl (by omega) ?_
      refine z_istore_n rfl rfl rfl ?_
      refine z_iload_n rfl rfl ?_
      refine z_callS1 rfl rfl rfl rfl (s_jumps (by omega)) ?_
      refine z_ifb_eq rfl (fun h26 => ?_) (fun h26 => ?_)
      · refine z_iload_n rfl rfl ?_
        refine z_callS1 rfl rfl rfl rfl (s_jumps (by omega)) ?_
        refine z_ifb_ne rfl (fun h45 => ?_) (fun h45 => ?_)
        · refine z_iload_n rfl rfl ?_
          refine z_iload_n rfl rfl ?_
          refine z_iconst rfl ?_
          refine z_iadd rfl ?_
          refine z_callS1 rfl rfl rfl rfl (s_bit (by omega)) ?_
          refine z_ior rfl (I_orI _ _) ?_
          refine z_istore_n rfl rfl rfl ?_
          refine z_iinc rfl rfl rfl rfl ?_
          refine z_goto rfl ?_
          exact ih (t + 1) _ _ (by omega) (by omega) (by rw [hs]; first | (rw [h26] at h45; cases h45; done) | (simp [h26]; done) | (simp [h26, decide_eq_true h51]; done) | (simp [h26, decide_eq_false h51]; done)) rfl
        · refine z_iload_n rfl rfl ?_
          refine z_bipush rfl (by decide) ?_
          refine z_icmp_ne rfl (by omega) (by omega) (fun h51 => ?_) (fun h51 => ?_)
          · refine z_iinc rfl rfl rfl rfl ?_
            refine z_goto rfl ?_
            exact ih (t + 1) _ _ (by omega) (by omega) (by rw [hs]; first | (rw [h26] at h45; cases h45; done) | (simp [h26]; done) | (simp [h26, decide_eq_true h51]; done) | (simp [h26, decide_eq_false h51]; done)) rfl
          · refine z_iload_n rfl rfl ?_
            refine z_iload_n rfl rfl ?_
            refine z_iconst rfl ?_
            refine z_iadd rfl ?_
            refine z_callS1 rfl rfl rfl rfl (s_bit (by omega)) ?_
            refine z_ior rfl (I_orI _ _) ?_
            refine z_istore_n rfl rfl rfl ?_
            refine z_iinc rfl rfl rfl rfl ?_
            refine z_goto rfl ?_
            exact ih (t + 1) _ _ (by omega) (by omega) (by rw [hs]; first | (rw [h26] at h45; cases h45; done) | (simp [h26]; done) | (simp [h26, decide_eq_true h51]; done) | (simp [h26, decide_eq_false h51]; done)) rfl
      · refine z_iload_n rfl rfl ?_
        refine z_aload_n rfl rfl ?_
        refine z_getR rfl rfl rfl rfl ?_
        refine z_iload_n rfl rfl ?_
        refine z_iald rfl rfl (by omega) ?_
        refine z_callS1 rfl rfl rfl rfl (s_bit (by omega)) ?_
        refine z_ior rfl (I_orI _ _) ?_
        refine z_istore_n rfl rfl rfl ?_
        refine z_iload_n rfl rfl ?_
        refine z_callS1 rfl rfl rfl rfl (s_jumps (by omega)) ?_
        refine z_ifb_ne rfl (fun h45 => ?_) (fun h45 => ?_)
        · refine z_iload_n rfl rfl ?_
          refine z_iload_n rfl rfl ?_
          refine z_iconst rfl ?_
          refine z_iadd rfl ?_
          refine z_callS1 rfl rfl rfl rfl (s_bit (by omega)) ?_
          refine z_ior rfl (I_orI _ _) ?_
          refine z_istore_n rfl rfl rfl ?_
          refine z_iinc rfl rfl rfl rfl ?_
          refine z_goto rfl ?_
          exact ih (t + 1) _ _ (by omega) (by omega) (by rw [hs]; first | (rw [h26] at h45; cases h45; done) | (simp [h26]; done) | (simp [h26, decide_eq_true h51]; done) | (simp [h26, decide_eq_false h51]; done)) rfl
        · refine z_iload_n rfl rfl ?_
          refine z_bipush rfl (by decide) ?_
          refine z_icmp_ne rfl (by omega) (by omega) (fun h51 => ?_) (fun h51 => ?_)
          · refine z_iinc rfl rfl rfl rfl ?_
            refine z_goto rfl ?_
            exact ih (t + 1) _ _ (by omega) (by omega) (by rw [hs]; first | (rw [h26] at h45; cases h45; done) | (simp [h26]; done) | (simp [h26, decide_eq_true h51]; done) | (simp [h26, decide_eq_false h51]; done)) rfl
          · refine z_iload_n rfl rfl ?_
            refine z_iload_n rfl rfl ?_
            refine z_iconst rfl ?_
            refine z_iadd rfl ?_
            refine z_callS1 rfl rfl rfl rfl (s_bit (by omega)) ?_
            refine z_ior rfl (I_orI _ _) ?_
            refine z_istore_n rfl rfl rfl ?_
            refine z_iinc rfl rfl rfl rfl ?_
            refine z_goto rfl ?_
            exact ih (t + 1) _ _ (by omega) (by omega) (by rw [hs]; first | (rw [h26] at h45; cases h45; done) | (simp [h26]; done) | (simp [h26, decide_eq_true h51]; done) | (simp [h26, decide_eq_false h51]; done)) rfl
theorem s_leaders {Z : ZW} {J : Int64} {n : Nat} (hn : Z 4 0 = n) (hop : ∀ i, 0 ≤ i → i < (n : Int) → RG (Z 5 i) ∧ RG (Z 7 i)) (hn2 : n ≤ 24) : D 26 [.ref 3] Z J (some (.int (I (lm (Z 5) (Z 7) n)))) Z J := by
  unfold D Mz
  refine z_iconst rfl ?_
  refine z_callS1 rfl rfl rfl rfl (s_bit (by omega)) ?_
  refine z_istore_n rfl rfl rfl ?_
  refine z_iconst rfl ?_
  refine z_istore_n rfl rfl rfl ?_
  exact l_leaders hn hop hn2 n 0 _ _ (by omega) (by omega) rfl rfl
def DvI (l : Int → Bool) (Z Z' : ZW) (t : Nat) (b : Int) : Prop := Z' 14 0 = cnt l t ∧ (0 < t → b = cnt l t - 1) ∧ (∀ j : Int, 0 ≤ j → j < t → Z' 15 j = cnt l (j.toNat + 1) - 1) ∧ (∀ c : Int, 0 ≤ c → c < cnt l t → Z' 16 c = stF l t c) ∧ (∀ c : Int, 0 ≤ c → c < cnt l t → Z' 21 c = laF l t c) ∧ (∀ (k : Nat) (j : Int), k ≠ 15 → k ≠ 16 → k ≠ 21 → ¬ (k = 14 ∧ j = 0) → Z' k j = Z k j)
theorem DvI_step {l : Int → Bool} {Z Z' : ZW} {t : Nat} {b : Int} (h0 : l 0 = true) (h : DvI l Z Z' t b) (hl : l t = true) : DvI l Z (up (up (up (up Z' 16 (Z' 14 0) t) 14 0 (Z' 14 0 + 1)) 15 t (Z' 14 0)) 21 (Z' 14 0) t) (t + 1) (Z' 14 0) := by
  rw [h.1]
  obtain ⟨a1, a2, a3, a4, a5, a6⟩ := h
  have hc : cnt l (t + 1) = cnt l t + 1 := by simp [cnt, hl]
  refine ⟨?_, ?_, ?_, ?_, ?_, ?_⟩
  · simp [up, hc]
  · intro _; rw [hc]; omega
  · intro j j0 j1
    by_cases hj : j = t
    · subst hj; simp [up, hc]
    · have := a3 j j0 (by omega)
      simp [up, hj, this]
  · intro c c0 c1
    rw [hc] at c1
    unfold stF
    by_cases hcc : c = cnt l t
    · subst hcc; simp [up, hl]
    · have := a4 c c0 (by omega)
      rw [if_neg (fun q => hcc q.2.symm)]
      simp [up, hcc, this]
  · intro c c0 c1
    rw [hc] at c1
    unfold laF
    rw [hc]
    by_cases hcc : c = cnt l t
    · subst hcc; rw [if_pos (by omega)]; simp [up]
    · have := a5 c c0 (by omega)
      rw [if_neg (by omega)]
      simp [up, hcc, this]
  · intro k j k1 k2 k3 k4
    have := a6 k j k1 k2 k3 k4
    simp [up, k1, k2, k3, k4, this]
theorem DvI_stay {l : Int → Bool} {Z Z' : ZW} {t : Nat} {b : Int} (ht : 0 < t) (h0 : l 0 = true) (h : DvI l Z Z' t b) (hl : l t = false) : DvI l Z (up (up Z' 15 t b) 21 b t) (t + 1) b := by
  obtain ⟨a1, a2, a3, a4, a5, a6⟩ := h
  have hc : cnt l (t + 1) = cnt l t := by simp [cnt, hl]
  have hp := cnt_pos h0 ht
  have hb := a2 ht
  refine ⟨?_, ?_, ?_, ?_, ?_, ?_⟩
  · rw [hc, ← a1]; simp [up]
  · intro _; rw [hc]; exact hb
  · intro j j0 j1
    by_cases hj : j = t
    · subst hj; simp [up, hc, hb]
    · have := a3 j j0 (by omega)
      simp [up, hj, this]
  · intro c c0 c1
    rw [hc] at c1
    unfold stF
    have := a4 c c0 (by omega)
    simp [up, hl, this]
  · intro c c0 c1
    rw [hc] at c1
    unfold laF
    rw [hc]
    by_cases hcc : c = b
    · subst hcc; rw [if_pos (by omega)]; simp [up]
    · have := a5 c c0 (by omega)
      rw [if_neg (by omega)]
      simp [up, hcc, this]
  · intro k j k1 k2 k3 k4
    have := a6 k j k1 k2 k3 k4
    simp [up, k1, k3, this]
theorem l_divide {Z : ZW} {J : Int64} {n : Nat} {m : Int} (hn : Z 4 0 = n) (hn2 : n ≤ 24) (h00 : tbI m 0 = true) : ∀ (d t : Nat) (Z' : ZW) (b : Int), t + d = n → DvI (fun x => tbI m x) Z Z' t b → (0 ≤ b ∧ b < 24) →
    OkZ none 28 10 [some (.ref 13), some (.ref 3), some (.int (I m)), some (.int (I b)), some (.int (I t))] [] Z' J (fun r Z' J' => r = none ∧ J' = J ∧ ∃ b, DvI (fun x => tbI m x) Z Z' n b) := by
  intro d
  induction d with
  | zero =>
    intro t Z' b ht hI hb
    have e4 : Z' 4 0 = n := by rw [hI.2.2.2.2.2 4 0 (by decide) (by decide) (by decide) (by decide)]; exact hn
    refine z_iload rfl rfl ?_
    refine z_aload_n rfl rfl ?_
    refine z_getI (bi := 0) rfl rfl rfl rfl ?_
    refine z_icmp_ge rfl (by omega) (by omega) (fun h16 => ?_) (fun h16 => ?_)
    · exact z_vret rfl rfl ⟨rfl, rfl, b, by have e : t = n := (by omega); rw [← e]; exact hI⟩
    · omega
  | succ d ih =>
    intro t Z' b ht hI hb
    have e4 : Z' 4 0 = n := by rw [hI.2.2.2.2.2 4 0 (by decide) (by decide) (by decide) (by decide)]; exact hn
    have e14 : Z' 14 0 = cnt (fun x => tbI m x) t := hI.1
    have hcl := cnt_le (fun x => tbI m x) t
    have hhb : hbB m t = tbI m t := by unfold hbB; rw [decide_eq_true (by omega), Bool.true_and]
    refine z_iload rfl rfl ?_
    refine z_aload_n rfl rfl ?_
    refine z_getI (bi := 0) rfl rfl rfl rfl ?_
    refine z_icmp_ge rfl (by omega) (by omega) (fun h16 => ?_) (fun h16 => ?_)
    · omega
    · refine z_iload_n rfl rfl ?_
      refine z_iload rfl rfl ?_
      refine z_callS2 rfl rfl rfl rfl (s_contains (by omega)) ?_
      refine z_ifb_eq rfl (fun h25 => ?_) (fun h25 => ?_)
      · rw [hhb] at h25
        have htp : 0 < t := (Nat.eq_zero_or_pos t).elim (fun h => by rw [h] at h25; exact absurd (h00.symm.trans h25) (by decide)) id
        have hst := DvI_stay htp h00 hI h25
        refine z_aload_n rfl rfl ?_
        refine z_getR rfl rfl rfl rfl ?_
        refine z_iload rfl rfl ?_
        refine z_iload_n rfl rfl ?_
        refine z_iast rfl rfl (by omega) ?_
        refine z_aload_n rfl rfl ?_
        refine z_getR rfl rfl rfl rfl ?_
        refine z_iload_n rfl rfl ?_
        refine z_iload rfl rfl ?_
        refine z_iast rfl rfl (by omega) ?_
        refine z_iinc rfl rfl rfl rfl ?_
        refine z_goto rfl ?_
        exact ih (t + 1) _ _ (by omega) hst hb
      · rw [hhb] at h25
        have hst := DvI_step h00 hI h25
        refine z_aload_n rfl rfl ?_
        refine z_getI (bi := 0) rfl rfl rfl rfl ?_
        refine z_istore_n rfl rfl rfl ?_
        refine z_aload_n rfl rfl ?_
        refine z_getR rfl rfl rfl rfl ?_
        refine z_iload_n rfl rfl ?_
        refine z_iload rfl rfl ?_
        refine z_iast rfl rfl (by omega) ?_
        refine z_aload_n rfl rfl ?_
        refine z_dup rfl rfl ?_
        refine z_getI (bi := 0) rfl rfl rfl rfl ?_
        refine z_iconst rfl ?_
        refine z_iadd rfl ?_
        refine z_putI (bi := 0) rfl rfl rfl rfl rfl ?_
        refine z_aload_n rfl rfl ?_
        refine z_getR rfl rfl rfl rfl ?_
        refine z_iload rfl rfl ?_
        refine z_iload_n rfl rfl ?_
        refine z_iast rfl rfl (by omega) ?_
        refine z_aload_n rfl rfl ?_
        refine z_getR rfl rfl rfl rfl ?_
        refine z_iload_n rfl rfl ?_
        refine z_iload rfl rfl ?_
        refine z_iast rfl rfl (by omega) ?_
        refine z_iinc rfl rfl rfl rfl ?_
        refine z_goto rfl ?_
        exact ih (t + 1) _ _ (by omega) hst (by omega)
theorem s_divide {Z : ZW} {J : Int64} {n : Nat} {m : Int} (hn : Z 4 0 = n) (hn2 : n ≤ 24) (h00 : tbI m 0 = true) : Mz 28 [.ref 13, .ref 3, .int (I m)] Z J (fun r Z' J' => r = none ∧ J' = J ∧ ∃ b, DvI (fun x => tbI m x) Z Z' n b) := by
  unfold Mz
  refine z_aload_n rfl rfl ?_
  refine z_iconst rfl ?_
  refine z_putI (bi := 0) rfl rfl rfl rfl rfl ?_
  refine z_iconst rfl ?_
  refine z_istore_n rfl rfl rfl ?_
  refine z_iconst rfl ?_
  refine z_istore rfl rfl rfl ?_
  refine l_divide hn hn2 h00 n 0 _ 0 (by omega) ⟨?_, ?_, ?_, ?_, ?_, ?_⟩ (by omega)
  · simp [up, cnt]
  · intro h; exact absurd h (by omega)
  · intro j j0 j1; exact absurd j1 (by omega)
  · intro c c0 c1; simp [cnt] at c1; omega
  · intro c c0 c1; simp [cnt] at c1; omega
  · intro k j k1 k2 k3 k4; simp [up, k4]
end
section
/-! the class: connect, predecessors, joins, heads, reach -/
def connF (Z : ZW) (n : Nat) (b : Int) : Int := if goB (Z 5 (Z 21 b)) = true ∧ Z 21 b + 1 < n then Z 15 (Z 21 b + 1) else -1
def connT (Z : ZW) (n : Nat) (b : Int) : Int := if jmB (Z 5 (Z 21 b)) = true ∧ Z 7 (Z 21 b) < n then Z 15 (Z 7 (Z 21 b)) else -1
def connE (Z : ZW) (n : Nat) (b : Int) : Bool := decide (Z 5 (Z 21 b) = 7) || (goB (Z 5 (Z 21 b)) && decide (connF Z n b = -1)) || (jmB (Z 5 (Z 21 b)) && decide (connT Z n b = -1))
def connZ (Z : ZW) (n : Nat) (b : Int) : ZW := up (up (up (up Z 17 b (connF Z n b)) 18 b (connT Z n b)) 19 b (orI (bitv (connF Z n b)) (bitv (connT Z n b)))) 14 (8 + b) (if connE Z n b then 1 else 0)
set_option maxHeartbeats 4000000 in
theorem s_connect {Z : ZW} {J : Int64} {n : Nat} {b : Int} (hn : Z 4 0 = n) (hn2 : n ≤ 24) (hb : 0 ≤ b ∧ b < 24) (hla : 0 ≤ Z 21 b ∧ Z 21 b < n) (hop : 0 ≤ Z 5 (Z 21 b) ∧ Z 5 (Z 21 b) ≤ 7) (hrb : RG (Z 7 (Z 21 b))) (hrb0 : jmB (Z 5 (Z 21 b)) = true → 0 ≤ Z 7 (Z 21 b)) (hbl : ∀ i, 0 ≤ i → i < (n : Int) → 0 ≤ Z 15 i ∧ Z 15 i < 24) : D 31 [.ref 13, .ref 3, .int (I b)] Z J none (connZ Z n b) J := by
  unfold D Mz
  have hla4 : 0 ≤ Z 21 b ∧ Z 21 b < Z 4 0 := by omega
  have hs4 : 0 ≤ Z 4 0 ∧ Z 4 0 ≤ 24 := by omega
  obtain ⟨F, hF⟩ : ∃ F, F = connF Z n b := ⟨_, rfl⟩
  obtain ⟨T, hT⟩ : ∃ T, T = connT Z n b := ⟨_, rfl⟩
  have hFr : -1 ≤ F ∧ F < 24 := by
    rw [hF]; unfold connF
    split
    · next h => have := hbl (Z 21 b + 1) (by omega) h.2; omega
    · omega
  have hTr : -1 ≤ T ∧ T < 24 := by
    rw [hT]; unfold connT
    split
    · next h => have := hbl (Z 7 (Z 21 b)) (hrb0 h.1) h.2; omega
    · omega
  have eZ : connZ Z n b = up (up (up (up Z 17 b F) 18 b T) 19 b (orI (bitv F) (bitv T))) 14 (8 + b) (if connE Z n b then 1 else 0) := by rw [hF, hT]; rfl
  have eE : connE Z n b = (decide (Z 5 (Z 21 b) = 7) || (goB (Z 5 (Z 21 b)) && decide (F = -1)) || (jmB (Z 5 (Z 21 b)) && decide (T = -1))) := by rw [hF, hT]; rfl
  have eF : up (up Z 17 b F) 18 b T 17 b = F := by simp [up]
  have eT : up (up Z 17 b F) 18 b T 18 b = T := by simp [up]
  obtain ⟨Z3, hZ3⟩ : ∃ Z3, Z3 = up (up (up Z 17 b F) 18 b T) 19 b (orI (bitv F) (bitv T)) := ⟨_, rfl⟩
  have eF3 : Z3 17 b = F := by rw [hZ3]; simp [up]
  have eT3 : Z3 18 b = T := by rw [hZ3]; simp [up]
  have K174 : ∀ v u : Bool, v = (goB (Z 5 (Z 21 b)) && decide (F = -1)) → u = (jmB (Z 5 (Z 21 b)) && decide (T = -1)) → OkZ none 31 174 [some (.ref 13), some (.ref 3), some (.int (I b)), some (.int (I (Z 21 b))), some (.int (I (Z 5 (Z 21 b)))), some (.int (I (Z 7 (Z 21 b)))), some (bI v), some (bI u)] [] Z3 J (fun r Z' J' => r = none ∧ Z' = connZ Z n b ∧ J' = J) := by
    intro v u hv hu
    refine z_aload_n rfl rfl ?_
    refine z_getR rfl rfl rfl rfl ?_
    refine z_iload_n rfl rfl ?_
    refine z_iload rfl rfl ?_
    refine z_bipush rfl (by decide) ?_
    refine z_icmp_eq rfl (by omega) (by omega) (fun h183 => ?_) (fun h183 => ?_)
    · refine z_iconst rfl ?_
      refine z_goto rfl ?_
      refine z_east rfl (by omega) (by omega) ?_
      have hc : connE Z n b = true := by rw [eE, decide_eq_true h183]; rfl
      exact z_vret rfl rfl ⟨rfl, by rw [eZ, hc, if_pos rfl, ← hZ3], rfl⟩
    · refine z_iload rfl rfl ?_
      refine z_ifb_ne rfl (fun h188 => ?_) (fun h188 => ?_)
      · refine z_iconst rfl ?_
        refine z_goto rfl ?_
        refine z_east rfl (by omega) (by omega) ?_
        have hc : connE Z n b = true := by rw [eE, ← hv, h188]; simp
        exact z_vret rfl rfl ⟨rfl, by rw [eZ, hc, if_pos rfl, ← hZ3], rfl⟩
      · refine z_iload rfl rfl ?_
        refine z_ifb_eq rfl (fun h193 => ?_) (fun h193 => ?_)
        · refine z_iconst rfl ?_
          refine z_east rfl (by omega) (by omega) ?_
          have hc : connE Z n b = false := by rw [eE, ← hv, ← hu, h188, h193, decide_eq_false h183]; rfl
          exact z_vret rfl rfl ⟨rfl, by rw [eZ, hc, if_neg (by decide), ← hZ3], rfl⟩
        · refine z_iconst rfl ?_
          refine z_goto rfl ?_
          refine z_east rfl (by omega) (by omega) ?_
          have hc : connE Z n b = true := by rw [eE, ← hv, ← hu, h188, h193]; simp
          exact z_vret rfl rfl ⟨rfl, by rw [eZ, hc, if_pos rfl, ← hZ3], rfl⟩
  have K149 : ∀ v : Bool, v = (goB (Z 5 (Z 21 b)) && decide (F = -1)) → OkZ none 31 149 [some (.ref 13), some (.ref 3), some (.int (I b)), some (.int (I (Z 21 b))), some (.int (I (Z 5 (Z 21 b)))), some (.int (I (Z 7 (Z 21 b)))), some (bI v), none] [] Z3 J (fun r Z' J' => r = none ∧ Z' = connZ Z n b ∧ J' = J) := by
    intro v hv
    refine z_iload rfl rfl ?_
    refine z_callS1 rfl rfl rfl rfl (s_jumps (by omega)) ?_
    refine z_ifb_eq rfl (fun h154 => ?_) (fun h154 => ?_)
    · refine z_iconst rfl ?_
      refine z_istore rfl rfl rfl ?_
      exact K174 v false hv (by rw [h154]; rfl)
    · refine z_aload_n rfl rfl ?_
      refine z_getR rfl rfl rfl rfl ?_
      refine z_iload_n rfl rfl ?_
      refine z_iald rfl rfl (by omega) ?_
      rw [eT3]
      refine z_iconst rfl ?_
      refine z_icmp_ne rfl (by omega) (by omega) (fun h164 => ?_) (fun h164 => ?_)
      · refine z_iconst rfl ?_
        refine z_istore rfl rfl rfl ?_
        exact K174 v false hv (by rw [decide_eq_false h164, Bool.and_false])
      · refine z_iconst rfl ?_
        refine z_goto rfl ?_
        refine z_istore rfl rfl rfl ?_
        exact K174 v true hv (by rw [h154, decide_eq_true h164]; rfl)
  have K99 : OkZ none 31 99 [some (.ref 13), some (.ref 3), some (.int (I b)), some (.int (I (Z 21 b))), some (.int (I (Z 5 (Z 21 b)))), some (.int (I (Z 7 (Z 21 b)))), none, none] [] (up (up Z 17 b F) 18 b T) J (fun r Z' J' => r = none ∧ Z' = connZ Z n b ∧ J' = J) := by
    refine z_aload_n rfl rfl ?_
    refine z_getR rfl rfl rfl rfl ?_
    refine z_iload_n rfl rfl ?_
    refine z_aload_n rfl rfl ?_
    refine z_getR rfl rfl rfl rfl ?_
    refine z_iload_n rfl rfl ?_
    refine z_iald rfl rfl (by omega) ?_
    rw [eF]
    refine z_callS1 rfl rfl rfl rfl (s_bit (by omega)) ?_
    refine z_aload_n rfl rfl ?_
    refine z_getR rfl rfl rfl rfl ?_
    refine z_iload_n rfl rfl ?_
    refine z_iald rfl rfl (by omega) ?_
    rw [eT]
    refine z_callS1 rfl rfl rfl rfl (s_bit (by omega)) ?_
    refine z_ior rfl (I_orI _ _) ?_
    refine z_iast rfl rfl (by omega) ?_
    rw [← hZ3]
    skip
    refine z_iload rfl rfl ?_
    refine z_callS1 rfl rfl rfl rfl (s_goesOn (by omega)) ?_
    refine z_ifb_eq rfl (fun h129 => ?_) (fun h129 => ?_)
    · refine z_iconst rfl ?_
      refine z_istore rfl rfl rfl ?_
      exact K149 false (by rw [h129]; rfl)
    · refine z_aload_n rfl rfl ?_
      refine z_getR rfl rfl rfl rfl ?_
      refine z_iload_n rfl rfl ?_
      refine z_iald rfl rfl (by omega) ?_
      rw [eF3]
      refine z_iconst rfl ?_
      refine z_icmp_ne rfl (by omega) (by omega) (fun h139 => ?_) (fun h139 => ?_)
      · refine z_iconst rfl ?_
        refine z_istore rfl rfl rfl ?_
        exact K149 false (by rw [decide_eq_false h139, Bool.and_false])
      · refine z_iconst rfl ?_
        refine z_goto rfl ?_
        refine z_istore rfl rfl rfl ?_
        exact K149 true (by rw [h129, decide_eq_true h139]; rfl)
  have K74 : OkZ none 31 74 [some (.ref 13), some (.ref 3), some (.int (I b)), some (.int (I (Z 21 b))), some (.int (I (Z 5 (Z 21 b)))), some (.int (I (Z 7 (Z 21 b)))), none, none] [] (up Z 17 b F) J (fun r Z' J' => r = none ∧ Z' = connZ Z n b ∧ J' = J) := by
    refine z_aload_n rfl rfl ?_
    refine z_getR rfl rfl rfl rfl ?_
    refine z_iload_n rfl rfl ?_
    refine z_iload rfl rfl ?_
    refine z_callS1 rfl rfl rfl rfl (s_jumps (by omega)) ?_
    refine z_ifb_eq rfl (fun h84 => ?_) (fun h84 => ?_)
    · refine z_iconst rfl ?_
      refine z_iast rfl rfl (by omega) ?_
      have e9 : T = -1 := by rw [hT, connT, if_neg (fun q => by rw [h84] at q; exact absurd q.1 (by decide))]
      rw [e9] at K99
      exact K99
    · refine z_aload_n rfl rfl ?_
      refine z_aload_n rfl rfl ?_
      refine z_iload rfl rfl ?_
      refine z_callV2 rfl rfl rfl rfl rfl rfl (s_blockFrom hrb hs4) ?_
      refine z_goto rfl ?_
      refine z_iast rfl rfl (by omega) ?_
      have e9 : T = (if 0 ≤ Z 7 (Z 21 b) ∧ Z 7 (Z 21 b) < Z 4 0 then Z 15 (Z 7 (Z 21 b)) else -1) := by rw [hT, connT, hn]; simp [h84, hrb0 h84]
      rw [e9] at K99
      exact K99
  refine z_aload_n rfl rfl ?_
  refine z_getR rfl rfl rfl rfl ?_
  refine z_iload_n rfl rfl ?_
  refine z_iald rfl rfl (by omega) ?_
  refine z_istore_n rfl rfl rfl ?_
  refine z_aload_n rfl rfl ?_
  refine z_iload_n rfl rfl ?_
  refine z_callV1 rfl rfl rfl rfl rfl rfl (s_has (by omega) hs4) ?_
  refine z_ifb_eq rfl (fun h12 => ?_) (fun h12 => ?_)
  · exact absurd hla4 (of_decide_eq_false h12)
  · refine z_aload_n rfl rfl ?_
    refine z_getR rfl rfl rfl rfl ?_
    refine z_iload_n rfl rfl ?_
    refine z_iald rfl rfl (by omega) ?_
    refine z_goto rfl ?_
    refine z_istore rfl rfl rfl ?_
    refine z_aload_n rfl rfl ?_
    refine z_iload_n rfl rfl ?_
    refine z_callV1 rfl rfl rfl rfl rfl rfl (s_has (by omega) hs4) ?_
    refine z_ifb_eq rfl (fun h33 => ?_) (fun h33 => ?_)
    · exact absurd hla4 (of_decide_eq_false h33)
    · refine z_aload_n rfl rfl ?_
      refine z_getR rfl rfl rfl rfl ?_
      refine z_iload_n rfl rfl ?_
      refine z_iald rfl rfl (by omega) ?_
      refine z_goto rfl ?_
      refine z_istore rfl rfl rfl ?_
      refine z_aload_n rfl rfl ?_
      refine z_getR rfl rfl rfl rfl ?_
      refine z_iload_n rfl rfl ?_
      refine z_iload rfl rfl ?_
      refine z_callS1 rfl rfl rfl rfl (s_goesOn (by omega)) ?_
      refine z_ifb_eq rfl (fun h58 => ?_) (fun h58 => ?_)
      · refine z_iconst rfl ?_
        refine z_iast rfl rfl (by omega) ?_
        have e9 : F = -1 := by rw [hF, connF, if_neg (fun q => by rw [h58] at q; exact absurd q.1 (by decide))]
        rw [e9] at K74
        exact K74
      · refine z_aload_n rfl rfl ?_
        refine z_aload_n rfl rfl ?_
        refine z_iload_n rfl rfl ?_
        refine z_iconst rfl ?_
        refine z_iadd rfl ?_
        refine z_callV2 rfl rfl rfl rfl rfl rfl (s_blockFrom (by omega) hs4) ?_
        refine z_goto rfl ?_
        refine z_iast rfl rfl (by omega) ?_
        have e9 : F = (if 0 ≤ Z 21 b + 1 ∧ Z 21 b + 1 < Z 4 0 then Z 15 (Z 21 b + 1) else -1) := by rw [hF, connF, hn]; simp [h58, show 0 ≤ Z 21 b + 1 by omega]
        rw [e9] at K74
        exact K74
end
section
/-! the class: predecessors, joins, heads, reach -/
theorem s_min {Z : ZW} {J : Int64} {x y : Int} (hx : RG x) (hy : RG y) : D 38 [.int (I x), .int (I y)] Z J (some (.int (I (if y < x then y else x)))) Z J := by
  unfold D Mz
  refine z_iload_n rfl rfl ?_
  refine z_iload_n rfl rfl ?_
  refine z_icmp_gt rfl (by omega) (by omega) (fun h2 => ?_) (fun h2 => ?_)
  · refine z_iload_n rfl rfl ?_
    exact z_iret rfl rfl ⟨by rw [if_pos h2], rfl, rfl⟩
  · refine z_iload_n rfl rfl ?_
    refine z_goto rfl ?_
    exact z_iret rfl rfl ⟨by rw [if_neg h2], rfl, rfl⟩
theorem s_max {Z : ZW} {J : Int64} {x y : Int} (hx : RG x) (hy : RG y) : D 56 [.int (I x), .int (I y)] Z J (some (.int (I (if x < y then y else x)))) Z J := by
  unfold D Mz
  refine z_iload_n rfl rfl ?_
  refine z_iload_n rfl rfl ?_
  refine z_icmp_lt rfl (by omega) (by omega) (fun h2 => ?_) (fun h2 => ?_)
  · refine z_iload_n rfl rfl ?_
    exact z_iret rfl rfl ⟨by rw [if_pos h2], rfl, rfl⟩
  · refine z_iload_n rfl rfl ?_
    refine z_goto rfl ?_
    exact z_iret rfl rfl ⟨by rw [if_neg h2], rfl, rfl⟩
theorem pm_step {Z Z' : ZW} {nb : Nat} {t : Nat} (hnb : Z 14 0 = nb) (ht : t < nb) (h1 : ∀ q, 0 ≤ q → q < (nb : Int) → Z' 22 q = pmF (Z 17) (Z 18) t q) (hf : ∀ (k : Nat) (j : Int), k ≠ 22 → Z' k j = Z k j) :
    ∀ Z1 Z2 : ZW, Z1 = (if 0 ≤ Z' 17 t ∧ Z' 17 t < Z' 14 0 then up Z' 22 (Z' 17 t) (orI (Z' 22 (Z' 17 t)) (bitv t)) else Z') → Z2 = (if 0 ≤ Z1 18 t ∧ Z1 18 t < Z1 14 0 then up Z1 22 (Z1 18 t) (orI (Z1 22 (Z1 18 t)) (bitv t)) else Z1) → (∀ q, 0 ≤ q → q < (nb : Int) → Z2 22 q = pmF (Z 17) (Z 18) (t + 1) q) ∧ ∀ (k : Nat) (j : Int), k ≠ 22 → Z2 k j = Z k j := by
  intro Z1 Z2 e1 e2
  have f1 : ∀ (k : Nat) (j : Int), k ≠ 22 → Z1 k j = Z k j := by
    intro k j hk
    rw [e1]
    split
    · simp only [up]; rw [if_neg (fun q => hk q.1)]; exact hf k j hk
    · exact hf k j hk
  have g1 : ∀ q, 0 ≤ q → q < (nb : Int) → Z1 22 q = if Z 17 t = q then orI (pmF (Z 17) (Z 18) t q) (bitv t) else pmF (Z 17) (Z 18) t q := by
    intro q q0 q1
    rw [e1, hf 17 _ (by decide), hf 14 _ (by decide), hnb]
    by_cases hq : Z 17 t = q
    · rw [if_pos hq, hq, if_pos ⟨q0, q1⟩]
      simp only [up]
      rw [if_pos ⟨trivial, trivial⟩, h1 q q0 q1]
    · rw [if_neg hq]
      split
      · simp only [up]; rw [if_neg (fun z => hq z.2.symm)]; exact h1 q q0 q1
      · exact h1 q q0 q1
  refine ⟨?_, ?_⟩
  · intro q q0 q1
    rw [e2, f1 18 _ (by decide), f1 14 _ (by decide), hnb]
    show _ = if Z 18 t = q then _ else _
    by_cases hq : Z 18 t = q
    · rw [if_pos hq, hq, if_pos ⟨q0, q1⟩]
      simp only [up]
      rw [if_pos ⟨trivial, trivial⟩, g1 q q0 q1]
    · rw [if_neg hq]
      split
      · simp only [up]; rw [if_neg (fun z => hq z.2.symm)]; exact g1 q q0 q1
      · exact g1 q q0 q1
  · intro k j hk
    rw [e2]
    split
    · simp only [up]; rw [if_neg (fun q => hk q.1)]; exact f1 k j hk
    · exact f1 k j hk
theorem l_coll2 {Z : ZW} {J : Int64} {nb : Nat} (hnb : Z 14 0 = nb) (hnb2 : nb ≤ 24) (hFT : ∀ p, 0 ≤ p → p < (nb : Int) → RG (Z 17 p) ∧ RG (Z 18 p)) : ∀ (d t : Nat) (Z' : ZW), t + d = nb → (∀ q, 0 ≤ q → q < (nb : Int) → Z' 22 q = pmF (Z 17) (Z 18) t q) → (∀ (k : Nat) (j : Int), k ≠ 22 → Z' k j = Z k j) → OkZ none 34 25 [some (.ref 13), some (.int (I t))] [] Z' J (fun r Z' J' => r = none ∧ J' = J ∧ (∀ q, 0 ≤ q → q < (nb : Int) → Z' 22 q = pmF (Z 17) (Z 18) nb q) ∧ ∀ (k : Nat) (j : Int), k ≠ 22 → Z' k j = Z k j) := by
  intro d
  induction d with
  | zero =>
    intro t Z' ht h1 hf
    have e14 : Z' 14 0 = nb := by rw [hf 14 0 (by decide)]; exact hnb
    have e : t = nb := by omega
    subst e
    refine z_iload_n rfl rfl ?_
    refine z_aload_n rfl rfl ?_
    refine z_getI (bi := 0) rfl rfl rfl rfl ?_
    refine z_icmp_ge rfl (by omega) (by omega) (fun h30 => ?_) (fun h30 => ?_)
    · exact z_vret rfl rfl ⟨rfl, rfl, h1, hf⟩
    · omega
  | succ d ih =>
    intro t Z' ht h1 hf
    have e14 : Z' 14 0 = nb := by rw [hf 14 0 (by decide)]; exact hnb
    have r17 : RG (Z' 17 t) := by rw [hf 17 _ (by decide)]; exact (hFT t (by omega) (by omega)).1
    obtain ⟨Z1, e1⟩ : ∃ Z1, Z1 = (if 0 ≤ Z' 17 t ∧ Z' 17 t < Z' 14 0 then up Z' 22 (Z' 17 t) (orI (Z' 22 (Z' 17 t)) (bitv t)) else Z') := ⟨_, rfl⟩
    obtain ⟨Z2, e2⟩ : ∃ Z2, Z2 = (if 0 ≤ Z1 18 t ∧ Z1 18 t < Z1 14 0 then up Z1 22 (Z1 18 t) (orI (Z1 22 (Z1 18 t)) (bitv t)) else Z1) := ⟨_, rfl⟩
    have f1 : ∀ (k : Nat) (j : Int), k ≠ 22 → Z1 k j = Z k j := by
      intro k j hk
      rw [e1]
      split
      · simp only [up]; rw [if_neg (fun q => hk q.1)]; exact hf k j hk
      · exact hf k j hk
    have r18 : RG (Z1 18 t) := by rw [f1 18 _ (by decide)]; exact (hFT t (by omega) (by omega)).2
    have e14' : Z1 14 0 = nb := by rw [f1 14 0 (by decide)]; exact hnb
    obtain ⟨g1, g2⟩ := pm_step hnb (by omega) h1 hf Z1 Z2 e1 e2
    refine z_iload_n rfl rfl ?_
    refine z_aload_n rfl rfl ?_
    refine z_getI (bi := 0) rfl rfl rfl rfl ?_
    refine z_icmp_ge rfl (by omega) (by omega) (fun h30 => ?_) (fun h30 => ?_)
    · omega
    · refine z_aload_n rfl rfl ?_
      refine z_aload_n rfl rfl ?_
      refine z_getR rfl rfl rfl rfl ?_
      refine z_iload_n rfl rfl ?_
      refine z_iald rfl rfl (by omega) ?_
      refine z_iload_n rfl rfl ?_
      refine z_callV2v rfl rfl rfl rfl rfl rfl (s_addPred r17 (by omega) (by omega)) ?_
      rw [← e1]
      refine z_aload_n rfl rfl ?_
      refine z_aload_n rfl rfl ?_
      refine z_getR rfl rfl rfl rfl ?_
      refine z_iload_n rfl rfl ?_
      refine z_iald rfl rfl (by omega) ?_
      refine z_iload_n rfl rfl ?_
      refine z_callV2v rfl rfl rfl rfl rfl rfl (s_addPred r18 (by omega) (by omega)) ?_
      refine z_iinc rfl rfl rfl rfl ?_
      refine z_goto rfl ?_
      rw [← e2]
      exact ih (t + 1) Z2 (by omega) g1 g2
theorem l_coll1 {Z : ZW} {J : Int64} {nb : Nat} (hnb : Z 14 0 = nb) (hnb2 : nb ≤ 24) (hFT : ∀ p, 0 ≤ p → p < (nb : Int) → RG (Z 17 p) ∧ RG (Z 18 p)) : ∀ (d t : Nat) (Z' : ZW), t + d = nb → (∀ q, 0 ≤ q → q < (t : Int) → Z' 22 q = 0) → (∀ (k : Nat) (j : Int), k ≠ 22 → Z' k j = Z k j) → OkZ none 34 2 [some (.ref 13), some (.int (I t))] [] Z' J (fun r Z' J' => r = none ∧ J' = J ∧ (∀ q, 0 ≤ q → q < (nb : Int) → Z' 22 q = pmF (Z 17) (Z 18) nb q) ∧ ∀ (k : Nat) (j : Int), k ≠ 22 → Z' k j = Z k j) := by
  intro d
  induction d with
  | zero =>
    intro t Z' ht h1 hf
    have e14 : Z' 14 0 = nb := by rw [hf 14 0 (by decide)]; exact hnb
    have e : t = nb := by omega
    subst e
    refine z_iload_n rfl rfl ?_
    refine z_aload_n rfl rfl ?_
    refine z_getI (bi := 0) rfl rfl rfl rfl ?_
    refine z_icmp_ge rfl (by omega) (by omega) (fun h7 => ?_) (fun h7 => ?_)
    · refine z_iconst rfl ?_
      refine z_istore_n rfl rfl rfl ?_
      exact l_coll2 hnb hnb2 hFT t 0 Z' (by omega) h1 hf
    · omega
  | succ d ih =>
    intro t Z' ht h1 hf
    have e14 : Z' 14 0 = nb := by rw [hf 14 0 (by decide)]; exact hnb
    refine z_iload_n rfl rfl ?_
    refine z_aload_n rfl rfl ?_
    refine z_getI (bi := 0) rfl rfl rfl rfl ?_
    refine z_icmp_ge rfl (by omega) (by omega) (fun h7 => ?_) (fun h7 => ?_)
    · omega
    · refine z_aload_n rfl rfl ?_
      refine z_getR rfl rfl rfl rfl ?_
      refine z_iload_n rfl rfl ?_
      refine z_iconst rfl ?_
      refine z_iast rfl rfl (by omega) ?_
      refine z_iinc rfl rfl rfl rfl ?_
      refine z_goto rfl ?_
      refine ih (t + 1) _ (by omega) ?_ ?_
      · intro q q0 q1
        by_cases hq : q = t
        · simp [up, hq]
        · simp only [up]; rw [if_neg (fun z => hq z.2)]; exact h1 q q0 (by omega)
      · intro k j hk
        simp only [up]; rw [if_neg (fun q => hk q.1)]; exact hf k j hk
theorem s_coll {Z : ZW} {J : Int64} {nb : Nat} (hnb : Z 14 0 = nb) (hnb2 : nb ≤ 24) (hFT : ∀ p, 0 ≤ p → p < (nb : Int) → RG (Z 17 p) ∧ RG (Z 18 p)) : Mz 34 [.ref 13] Z J (fun r Z' J' => r = none ∧ J' = J ∧ (∀ q, 0 ≤ q → q < (nb : Int) → Z' 22 q = pmF (Z 17) (Z 18) nb q) ∧ ∀ (k : Nat) (j : Int), k ≠ 22 → Z' k j = Z k j) := by
  unfold Mz
  refine z_iconst rfl ?_
  refine z_istore_n rfl rfl rfl ?_
  exact l_coll1 hnb hnb2 hFT nb 0 Z (by omega) (fun q q0 q1 => absurd q1 (by omega)) (fun _ _ _ => rfl)
theorem l_join2 {Z : ZW} {J : Int64} {nb : Nat} (hnb : Z 14 0 = nb) (hnb2 : nb ≤ 24) (hFT : ∀ p, 0 ≤ p → p < (nb : Int) → RG (Z 17 p) ∧ RG (Z 18 p) ∧ RG (Z 19 p) ∧ RG (Z 22 p)) (hnx : ∀ q p, 0 ≤ q → q < (nb : Int) → 0 ≤ p → p < (nb : Int) → (jnB (enB Z) (Z 19) (Z 22)) q p = true → q = (if Z 17 p = -1 then Z 18 p else Z 17 p)) : ∀ (d t : Nat) (x2 : Option Value) (Z' : ZW), t + d = nb → (∀ q, 0 ≤ q → q < (nb : Int) → Z' 23 q = joF (jnB (enB Z) (Z 19) (Z 22)) t q) → (∀ (k : Nat) (j : Int), k ≠ 23 → Z' k j = Z k j) → OkZ none 37 25 [some (.ref 13), some (.int (I t)), x2] [] Z' J (fun r Z' J' => r = none ∧ J' = J ∧ (∀ q, 0 ≤ q → q < (nb : Int) → Z' 23 q = joF (jnB (enB Z) (Z 19) (Z 22)) nb q) ∧ ∀ (k : Nat) (j : Int), k ≠ 23 → Z' k j = Z k j) := by
  intro d
  induction d with
  | zero =>
    intro t x2 Z' ht h1 hf
    have e14 : Z' 14 0 = nb := by rw [hf 14 0 (by decide)]; exact hnb
    have e : t = nb := by omega
    subst e
    refine z_iload_n rfl rfl ?_
    refine z_aload_n rfl rfl ?_
    refine z_getI (bi := 0) rfl rfl rfl rfl ?_
    refine z_icmp_ge rfl (by omega) (by omega) (fun h30 => ?_) (fun h30 => ?_)
    · exact z_vret rfl rfl ⟨rfl, rfl, h1, hf⟩
    · omega
  | succ d ih =>
    intro t x2 Z' ht h1 hf
    have e14 : Z' 14 0 = nb := by rw [hf 14 0 (by decide)]; exact hnb
    obtain ⟨r1, r2, r3, r4⟩ := hFT t (by omega) (by omega)
    rw [← hf 17 _ (by decide)] at r1
    rw [← hf 18 _ (by decide)] at r2
    obtain ⟨N, hN⟩ : ∃ N, N = (if Z 17 t = -1 then Z 18 t else Z 17 t) := ⟨_, rfl⟩
    have hNr : RG N := by
      rw [hN]
      rw [hf 17 _ (by decide)] at r1
      rw [hf 18 _ (by decide)] at r2
      split
      · exact r2
      · exact r1
    have hno : ∀ q, 0 ≤ q → q < (nb : Int) → q ≠ N → joF (jnB (enB Z) (Z 19) (Z 22)) (t + 1) q = joF (jnB (enB Z) (Z 19) (Z 22)) t q := by
      intro q q0 q1 hq
      show (if (jnB (enB Z) (Z 19) (Z 22)) q t = true then (t : Int) else joF (jnB (enB Z) (Z 19) (Z 22)) t q) = _
      split
      · next hj => exact absurd (hnx q t q0 q1 (by omega) (by omega) hj) (by rw [← hN]; exact hq)
      · rfl
    have K58 : OkZ none 37 59 [some (.ref 13), some (.int (I t)), some (.int (I N))] [] Z' J (fun r Z' J' => r = none ∧ J' = J ∧ (∀ q, 0 ≤ q → q < (nb : Int) → Z' 23 q = joF (jnB (enB Z) (Z 19) (Z 22)) nb q) ∧ ∀ (k : Nat) (j : Int), k ≠ 23 → Z' k j = Z k j) := by
      refine z_aload_n rfl rfl ?_
      refine z_iload_n rfl rfl ?_
      refine z_callV1 rfl rfl rfl rfl rfl rfl (s_ghas hNr (by omega)) ?_
      refine z_ifb_eq rfl (fun h64 => ?_) (fun h64 => ?_)
      · refine z_iinc rfl rfl rfl rfl ?_
        refine z_goto rfl ?_
        have hNo : ¬ (0 ≤ N ∧ N < (nb : Int)) := by rw [← e14]; exact of_decide_eq_false h64
        refine ih (t + 1) _ _ (by omega) ?_ hf
        intro q q0 q1
        rw [hno q q0 q1 (fun z => hNo (by rw [← z]; exact ⟨q0, q1⟩))]
        exact h1 q q0 q1
      · refine z_aload_n rfl rfl ?_
        refine z_iload_n rfl rfl ?_
        refine z_iload_n rfl rfl ?_
        have hNin : 0 ≤ N ∧ N < (nb : Int) := by rw [← e14]; exact of_decide_eq_true h64
        have hjN : (jnB (enB Z) (Z 19) (Z 22)) N t = decide (N ≠ 0 ∧ N ≠ (t : Int) ∧ enB Z' t = false ∧ Z' 19 t = bitv N ∧ Z' 22 N = bitv t) := by unfold jnB; rw [enB_congr (hf 14 (8 + (t : Int)) (by decide)), hf 19 _ (by decide), hf 22 _ (by decide)]
        have r3b : RG (Z' 19 t) := by rw [hf 19 _ (by decide)]; exact r3
        have r4b : RG (Z' 22 N) := by rw [hf 22 _ (by decide)]; exact (hFT N hNin.1 hNin.2).2.2.2
        refine z_callV2 rfl rfl rfl rfl rfl rfl (s_isJoined (by omega) (by omega) (by omega) r3b r4b) ?_
        refine z_ifb_eq rfl (fun h73 => ?_) (fun h73 => ?_)
        · refine z_iinc rfl rfl rfl rfl ?_
          refine z_goto rfl ?_
          refine ih (t + 1) _ _ (by omega) ?_ hf
          intro q q0 q1
          by_cases hq : q = N
          · rw [h1 q q0 q1]
            show _ = if _ then _ else _
            rw [hq, hjN, h73]
            rfl
          · rw [hno q q0 q1 hq]
            exact h1 q q0 q1
        · refine z_aload_n rfl rfl ?_
          refine z_getR rfl rfl rfl rfl ?_
          refine z_iload_n rfl rfl ?_
          refine z_iload_n rfl rfl ?_
          refine z_iast rfl rfl (by omega) ?_
          refine z_iinc rfl rfl rfl rfl ?_
          refine z_goto rfl ?_
          refine ih (t + 1) _ _ (by omega) ?_ ?_
          · intro q q0 q1
            by_cases hq : q = N
            · show _ = if _ then _ else _
              rw [hq, hjN, h73]
              simp [up]
            · rw [hno q q0 q1 hq]
              simp only [up]
              rw [if_neg (fun z => hq z.2)]
              exact h1 q q0 q1
          · intro k j hk
            simp only [up]; rw [if_neg (fun q => hk q.1)]; exact hf k j hk
    refine z_iload_n rfl rfl ?_
    refine z_aload_n rfl rfl ?_
    refine z_getI (bi := 0) rfl rfl rfl rfl ?_
    refine z_icmp_ge rfl (by omega) (by omega) (fun h30 => ?_) (fun h30 => ?_)
    · omega
    · refine z_aload_n rfl rfl ?_
      refine z_getR rfl rfl rfl rfl ?_
      refine z_iload_n rfl rfl ?_
      refine z_iald rfl rfl (by omega) ?_
      refine z_iconst rfl ?_
      refine z_icmp_eq rfl (by omega) (by omega) (fun h40 => ?_) (fun h40 => ?_)
      · refine z_aload_n rfl rfl ?_
        refine z_getR rfl rfl rfl rfl ?_
        refine z_iload_n rfl rfl ?_
        refine z_iald rfl rfl (by omega) ?_
        refine z_istore_n rfl rfl rfl ?_
        have e9 : N = Z' 18 t := by rw [hN, if_pos (by rw [← hf 17 _ (by decide)]; exact h40), hf 18 _ (by decide)]
        rw [e9] at K58
        exact K58
      · refine z_aload_n rfl rfl ?_
        refine z_getR rfl rfl rfl rfl ?_
        refine z_iload_n rfl rfl ?_
        refine z_iald rfl rfl (by omega) ?_
        refine z_goto rfl ?_
        refine z_istore_n rfl rfl rfl ?_
        have e9 : N = Z' 17 t := by rw [hN, if_neg (by rw [← hf 17 _ (by decide)]; exact h40), hf 17 _ (by decide)]
        rw [e9] at K58
        exact K58
theorem l_join1 {Z : ZW} {J : Int64} {nb : Nat} (hnb : Z 14 0 = nb) (hnb2 : nb ≤ 24) (hFT : ∀ p, 0 ≤ p → p < (nb : Int) → RG (Z 17 p) ∧ RG (Z 18 p) ∧ RG (Z 19 p) ∧ RG (Z 22 p)) (hnx : ∀ q p, 0 ≤ q → q < (nb : Int) → 0 ≤ p → p < (nb : Int) → (jnB (enB Z) (Z 19) (Z 22)) q p = true → q = (if Z 17 p = -1 then Z 18 p else Z 17 p)) : ∀ (d t : Nat) (Z' : ZW), t + d = nb → (∀ q, 0 ≤ q → q < (t : Int) → Z' 23 q = -1) → (∀ (k : Nat) (j : Int), k ≠ 23 → Z' k j = Z k j) → OkZ none 37 2 [some (.ref 13), some (.int (I t)), none] [] Z' J (fun r Z' J' => r = none ∧ J' = J ∧ (∀ q, 0 ≤ q → q < (nb : Int) → Z' 23 q = joF (jnB (enB Z) (Z 19) (Z 22)) nb q) ∧ ∀ (k : Nat) (j : Int), k ≠ 23 → Z' k j = Z k j) := by
  intro d
  induction d with
  | zero =>
    intro t Z' ht h1 hf
    have e14 : Z' 14 0 = nb := by rw [hf 14 0 (by decide)]; exact hnb
    have e : t = nb := by omega
    subst e
    refine z_iload_n rfl rfl ?_
    refine z_aload_n rfl rfl ?_
    refine z_getI (bi := 0) rfl rfl rfl rfl ?_
    refine z_icmp_ge rfl (by omega) (by omega) (fun h7 => ?_) (fun h7 => ?_)
    · refine z_iconst rfl ?_
      refine z_istore_n rfl rfl rfl ?_
      exact l_join2 hnb hnb2 hFT hnx t 0 _ Z' (by omega) h1 hf
    · omega
  | succ d ih =>
    intro t Z' ht h1 hf
    have e14 : Z' 14 0 = nb := by rw [hf 14 0 (by decide)]; exact hnb
    refine z_iload_n rfl rfl ?_
    refine z_aload_n rfl rfl ?_
    refine z_getI (bi := 0) rfl rfl rfl rfl ?_
    refine z_icmp_ge rfl (by omega) (by omega) (fun h7 => ?_) (fun h7 => ?_)
    · omega
    · refine z_aload_n rfl rfl ?_
      refine z_getR rfl rfl rfl rfl ?_
      refine z_iload_n rfl rfl ?_
      refine z_iconst rfl ?_
      refine z_iast rfl rfl (by omega) ?_
      refine z_iinc rfl rfl rfl rfl ?_
      refine z_goto rfl ?_
      refine ih (t + 1) _ (by omega) ?_ ?_
      · intro q q0 q1
        by_cases hq : q = t
        · simp [up, hq]
        · simp only [up]; rw [if_neg (fun z => hq z.2)]; exact h1 q q0 (by omega)
      · intro k j hk
        simp only [up]; rw [if_neg (fun q => hk q.1)]; exact hf k j hk
theorem s_join {Z : ZW} {J : Int64} {nb : Nat} (hnb : Z 14 0 = nb) (hnb2 : nb ≤ 24) (hFT : ∀ p, 0 ≤ p → p < (nb : Int) → RG (Z 17 p) ∧ RG (Z 18 p) ∧ RG (Z 19 p) ∧ RG (Z 22 p)) (hnx : ∀ q p, 0 ≤ q → q < (nb : Int) → 0 ≤ p → p < (nb : Int) → (jnB (enB Z) (Z 19) (Z 22)) q p = true → q = (if Z 17 p = -1 then Z 18 p else Z 17 p)) : Mz 37 [.ref 13] Z J (fun r Z' J' => r = none ∧ J' = J ∧ (∀ q, 0 ≤ q → q < (nb : Int) → Z' 23 q = joF (jnB (enB Z) (Z 19) (Z 22)) nb q) ∧ ∀ (k : Nat) (j : Int), k ≠ 23 → Z' k j = Z k j) := by
  unfold Mz
  refine z_iconst rfl ?_
  refine z_istore_n rfl rfl rfl ?_
  exact l_join1 hnb hnb2 hFT hnx nb 0 Z (by omega) (fun q q0 q1 => absurd q1 (by omega)) (fun _ _ _ => rfl)
theorem l_headOf {Z : ZW} {J : Int64} {nb : Nat} {b : Int} (hnb : Z 14 0 = nb) (hnb2 : nb ≤ 24) (hJ : ∀ p, 0 ≤ p → p < (nb : Int) → -1 ≤ Z 23 p ∧ Z 23 p < nb) : ∀ (d t : Nat) (h lo v : Int), t + d = nb → (0 ≤ h ∧ h < 24) → (0 ≤ lo ∧ lo < 24) → v = hdW (Z 23) nb d h lo → OkZ none 39 7 [some (.ref 13), some (.int (I b)), some (.int (I h)), some (.int (I lo)), some (.int (I t))] [] Z J (fun r Z' J' => r = some (.int (I v)) ∧ Z' = Z ∧ J' = J) := by
  intro d
  induction d with
  | zero =>
    intro t h lo v ht hh hlo hv
    refine z_iload rfl rfl ?_
    refine z_aload_n rfl rfl ?_
    refine z_getI (bi := 0) rfl rfl rfl rfl ?_
    refine z_icmp_ge rfl (by omega) (by omega) (fun h13 => ?_) (fun h13 => ?_)
    · refine z_iload_n rfl rfl ?_
      exact z_iret rfl rfl ⟨by rw [hv]; rfl, rfl, rfl⟩
    · omega
  | succ d ih =>
    intro t h lo v ht hh hlo hv
    have hw : v = if 0 ≤ h ∧ h < nb ∧ Z 23 h ≠ -1 then hdW (Z 23) nb d (Z 23 h) (if Z 23 h < lo then Z 23 h else lo) else h := hv
    refine z_iload rfl rfl ?_
    refine z_aload_n rfl rfl ?_
    refine z_getI (bi := 0) rfl rfl rfl rfl ?_
    refine z_icmp_ge rfl (by omega) (by omega) (fun h13 => ?_) (fun h13 => ?_)
    · omega
    · refine z_aload_n rfl rfl ?_
      refine z_iload_n rfl rfl ?_
      refine z_callV1 rfl rfl rfl rfl rfl rfl (s_ghas (by omega) (by omega)) ?_
      refine z_ifb_eq rfl (fun h21 => ?_) (fun h21 => ?_)
      · refine z_iload_n rfl rfl ?_
        exact z_iret rfl rfl ⟨by rw [hw, if_neg (fun q => of_decide_eq_false h21 ⟨q.1, by omega⟩)], rfl, rfl⟩
      · have hin := of_decide_eq_true h21
        have hz := hJ h hin.1 (by omega)
        refine z_aload_n rfl rfl ?_
        refine z_getR rfl rfl rfl rfl ?_
        refine z_iload_n rfl rfl ?_
        refine z_iald rfl rfl (by have := of_decide_eq_true h21; omega) ?_
        refine z_iconst rfl ?_
        refine z_icmp_ne rfl (by omega) (by omega) (fun h31 => ?_) (fun h31 => ?_)
        · rw [if_pos ⟨hin.1, by omega, h31⟩] at hw
          refine z_aload_n rfl rfl ?_
          refine z_getR rfl rfl rfl rfl ?_
          refine z_iload_n rfl rfl ?_
          refine z_iald rfl rfl (by omega) ?_
          refine z_istore_n rfl rfl rfl ?_
          refine z_iload_n rfl rfl ?_
          refine z_iload_n rfl rfl ?_
          refine z_callS2 rfl rfl rfl rfl (s_min (by omega) (by omega)) ?_
          refine z_istore_n rfl rfl rfl ?_
          refine z_iinc rfl rfl rfl rfl ?_
          refine z_goto rfl ?_
          exact ih (t + 1) _ _ v (by omega) (by omega) (by split <;> omega) hw
        · refine z_iload_n rfl rfl ?_
          exact z_iret rfl rfl ⟨by rw [hw, if_neg (fun q => q.2.2 h31)], rfl, rfl⟩
theorem s_headOf {Z : ZW} {J : Int64} {nb : Nat} {b : Int} (hnb : Z 14 0 = nb) (hnb2 : nb ≤ 24) (hJ : ∀ p, 0 ≤ p → p < (nb : Int) → -1 ≤ Z 23 p ∧ Z 23 p < nb) (hb : 0 ≤ b ∧ b < 24) : D 39 [.ref 13, .int (I b)] Z J (some (.int (I (hdW (Z 23) nb nb b b)))) Z J := by
  unfold D Mz
  refine z_iload_n rfl rfl ?_
  refine z_istore_n rfl rfl rfl ?_
  refine z_iload_n rfl rfl ?_
  refine z_istore_n rfl rfl rfl ?_
  refine z_iconst rfl ?_
  refine z_istore rfl rfl rfl ?_
  exact l_headOf hnb hnb2 hJ nb 0 b b _ (by omega) hb hb rfl
theorem rcI_RG {S : FI} {m : Int} (hm : RG m) : ∀ t, RG (rcI S t m) := by
  intro t
  induction t with
  | zero => exact hm
  | succ t ih =>
    unfold rcI
    split
    · exact orI_RG _ _
    · exact ih
theorem l_reach_in {Z : ZW} {J : Int64} {nb : Nat} (hnb : Z 14 0 = nb) (hnb2 : nb ≤ 24) (hS : ∀ p, 0 ≤ p → p < (nb : Int) → RG (Z 19 p)) {Φ : ZΦ} {m : Int} {x2 x3 : Option Value} (hk : OkZ none 40 66 [some (.ref 13), some (.int (I (rcI (Z 19) nb m))), x2, x3, some (.int (I (nb : Int)))] [] Z J Φ) (hx : x3.map (fun v => v.category) = some 1) : ∀ (d t : Nat) (v : Int), t + d = nb → v = rcI (Z 19) t m → OkZ none 40 32 [some (.ref 13), some (.int (I v)), x2, x3, some (.int (I t))] [] Z J Φ := by
  intro d
  induction d with
  | zero =>
    intro t v ht hv
    have e : t = nb := by omega
    subst e
    subst hv
    refine z_iload rfl rfl ?_
    refine z_aload_n rfl rfl ?_
    refine z_getI (bi := 0) rfl rfl rfl rfl ?_
    refine z_icmp_ge rfl (by omega) (by omega) (fun h38 => ?_) (fun h38 => ?_)
    · exact hk
    · omega
  | succ d ih =>
    intro t v ht hv
    have hhb : hbB v t = tbI v t := by unfold hbB; rw [decide_eq_true (by omega), Bool.true_and]
    have hs : rcI (Z 19) (t + 1) m = if tbI v t then orI v (Z 19 t) else v := by rw [hv]; rfl
    have hg4 : stG [some (.ref 13), some (.int (I v)), x2, x3, some (.int (I t))] 4 = true := by
      cases x3 with
      | none => simp at hx
      | some z => simpa [stG] using hx
    refine z_iload rfl rfl ?_
    refine z_aload_n rfl rfl ?_
    refine z_getI (bi := 0) rfl rfl rfl rfl ?_
    refine z_icmp_ge rfl (by omega) (by omega) (fun h38 => ?_) (fun h38 => ?_)
    · omega
    · refine z_iload_n rfl rfl ?_
      refine z_iload rfl rfl ?_
      refine z_callS2 rfl rfl rfl rfl (s_contains (by omega)) ?_
      refine z_ifb_eq rfl (fun h47 => ?_) (fun h47 => ?_)
      · refine z_iinc rfl rfl rfl hg4 ?_
        refine z_goto rfl ?_
        exact ih (t + 1) _ (by omega) (by rw [hs, ← hhb, h47]; rfl)
      · refine z_iload_n rfl rfl ?_
        refine z_aload_n rfl rfl ?_
        refine z_getR rfl rfl rfl rfl ?_
        refine z_iload rfl rfl ?_
        refine z_iald rfl rfl (by omega) ?_
        refine z_ior rfl (I_orI _ _) ?_
        refine z_istore_n rfl rfl rfl ?_
        refine z_iinc rfl rfl rfl hg4 ?_
        refine z_goto rfl ?_
        exact ih (t + 1) _ (by omega) (by rw [hs, ← hhb, h47]; rfl)
theorem l_reach {Z : ZW} {J : Int64} {nb : Nat} (hnb : Z 14 0 = nb) (hnb2 : nb ≤ 24) (hS : ∀ p, 0 ≤ p → p < (nb : Int) → RG (Z 19 p)) : ∀ (d t : Nat) (m v : Int) (x3 x4 : Option Value), t + d = nb → RG m → v = rcR (Z 19) nb d m → (x3 = none ∨ ∃ z, x3 = some (.int z)) → OkZ none 40 19 [some (.ref 13), some (.int (I m)), some (.int (I t)), x3, x4] [] Z J (fun r Z' J' => r = some (.int (I v)) ∧ Z' = Z ∧ J' = J) := by
  intro d
  induction d with
  | zero =>
    intro t m v x3 x4 ht hm hv hx
    refine z_iload_n rfl rfl ?_
    refine z_aload_n rfl rfl ?_
    refine z_getI (bi := 0) rfl rfl rfl rfl ?_
    refine z_icmp_ge rfl (by omega) (by omega) (fun h24 => ?_) (fun h24 => ?_)
    · refine z_iload_n rfl rfl ?_
      exact z_iret rfl rfl ⟨by rw [hv]; rfl, rfl, rfl⟩
    · omega
  | succ d ih =>
    intro t m v x3 x4 ht hm hv hx
    have hw : v = if rcI (Z 19) nb m = m then m else rcR (Z 19) nb d (rcI (Z 19) nb m) := hv
    have hr := rcI_RG (S := Z 19) hm nb
    have hin : OkZ none 40 66 [some (.ref 13), some (.int (I (rcI (Z 19) nb m))), some (.int (I t)), some (.int (I m)), some (.int (I (nb : Int)))] [] Z J (fun r Z' J' => r = some (.int (I v)) ∧ Z' = Z ∧ J' = J) := by
      refine z_iload_n rfl rfl ?_
      refine z_iload_n rfl rfl ?_
      refine z_icmp_ne rfl (by omega) (by omega) (fun h68 => ?_) (fun h68 => ?_)
      · refine z_iinc rfl rfl rfl rfl ?_
        refine z_goto rfl ?_
        exact ih (t + 1) _ v _ _ (by omega) hr (by rw [hw, if_neg h68]) (Or.inr ⟨_, rfl⟩)
      · refine z_iload_n rfl rfl ?_
        exact z_iret rfl rfl ⟨by rw [hw, if_pos h68, h68], rfl, rfl⟩
    refine z_iload_n rfl rfl ?_
    refine z_aload_n rfl rfl ?_
    refine z_getI (bi := 0) rfl rfl rfl rfl ?_
    refine z_icmp_ge rfl (by omega) (by omega) (fun h24 => ?_) (fun h24 => ?_)
    · omega
    · refine z_iload_n rfl rfl ?_
      refine z_istore_n rfl rfl rfl ?_
      refine z_iconst rfl ?_
      refine z_istore rfl rfl rfl ?_
      exact l_reach_in hnb hnb2 hS hin rfl nb 0 m (by omega) rfl
theorem s_reach {Z : ZW} {J : Int64} {nb : Nat} (hnb : Z 14 0 = nb) (hnb2 : nb ≤ 24) (hS : ∀ p, 0 ≤ p → p < (nb : Int) → RG (Z 19 p)) : D 40 [.ref 13] Z J (some (.int (I (rcR (Z 19) nb nb (if nb = 0 then 0 else bitv 0))))) Z J := by
  unfold D Mz
  refine z_aload_n rfl rfl ?_
  refine z_iconst rfl ?_
  refine z_callV1 rfl rfl rfl rfl rfl rfl (s_ghas (by omega) (by omega)) ?_
  refine z_ifb_eq rfl (fun h5 => ?_) (fun h5 => ?_)
  · refine z_iconst rfl ?_
    refine z_istore_n rfl rfl rfl ?_
    refine z_iconst rfl ?_
    refine z_istore_n rfl rfl rfl ?_
    have e0 : ¬ (nb = 0) → False := fun q => of_decide_eq_false h5 ⟨by omega, by omega⟩
    exact l_reach hnb hnb2 hS nb 0 0 _ _ _ (by omega) (by omega) (by rw [if_pos (Decidable.byContradiction e0)]) (Or.inl rfl)
  · refine z_iconst rfl ?_
    refine z_callS1 rfl rfl rfl rfl (s_bit (by omega)) ?_
    refine z_goto rfl ?_
    refine z_istore_n rfl rfl rfl ?_
    refine z_iconst rfl ?_
    refine z_istore_n rfl rfl rfl ?_
    have e0 := of_decide_eq_true h5
    exact l_reach hnb hnb2 hS nb 0 (bitv 0) _ _ _ (by omega) (bitv_RG 0).1 (by rw [if_neg (by omega)]) (Or.inl rfl)
end
section
/-! the class: Graph.update; what it leaves is the control flow of the program -/
theorem lm0 (op rb : FI) : ∀ t, tbI (lm op rb t) 0 = true := by
  intro t
  induction t with
  | zero => show tbI (bitv 0) 0 = true; rw [tb_bitv (by omega)]; rfl
  | succ t ih =>
    show tbI (if jmB (op t) || decide (op t = 7) then orI (if jmB (op t) then orI (lm op rb t) (bitv (rb t)) else lm op rb t) (bitv (t + 1)) else (if jmB (op t) then orI (lm op rb t) (bitv (rb t)) else lm op rb t)) 0 = true
    split <;> split <;> simp [tb_or, ih]
theorem pmF_congr {F T F' T' : FI} {nb : Nat} (h : ∀ t : Nat, t < nb → F t = F' t ∧ T t = T' t) (q : Int) : pmF F T nb q = pmF F' T' nb q := by
  induction nb with
  | zero => rfl
  | succ t ih =>
    have h1 := h t (by omega)
    have h2 := ih (fun s hs => h s (by omega))
    simp only [pmF, h1.1, h1.2, h2]
theorem joF_congr {j j' : Int → Int → Bool} {nb : Nat} (q : Int) (h : ∀ t : Nat, t < nb → j q t = j' q t) : joF j nb q = joF j' nb q := by
  induction nb with
  | zero => rfl
  | succ t ih =>
    have h1 := h t (by omega)
    have h2 := ih (fun s hs => h s (by omega))
    simp only [joF, h1, h2]
theorem hdW_congr {jo jo' : FI} {nb : Nat} (h : ∀ p, 0 ≤ p → p < (nb : Int) → jo p = jo' p) : ∀ (d : Nat) (b lo : Int), hdW jo nb d b lo = hdW jo' nb d b lo := by
  intro d
  induction d with
  | zero => intro b lo; rfl
  | succ d ih =>
    intro b lo
    unfold hdW
    by_cases hb : 0 ≤ b ∧ b < (nb : Int)
    · rw [h b hb.1 hb.2, ih]
    · rw [if_neg (fun q => hb ⟨q.1, q.2.1⟩), if_neg (fun q => hb ⟨q.1, q.2.1⟩)]
theorem rcI_congr {S S' : FI} {nb : Nat} (h : ∀ t : Nat, t < nb → S t = S' t) (m : Int) : rcI S nb m = rcI S' nb m := by
  induction nb with
  | zero => rfl
  | succ t ih =>
    have h1 := h t (by omega)
    have h2 := ih (fun s hs => h s (by omega))
    simp only [rcI, h1, h2]
theorem rcR_congr {S S' : FI} {nb : Nat} (h : ∀ t : Nat, t < nb → S t = S' t) : ∀ (d : Nat) (m : Int), rcR S nb d m = rcR S' nb d m := by
  intro d
  induction d with
  | zero => intro m; rfl
  | succ d ih =>
    intro m
    unfold rcR
    rw [rcI_congr h, ih]
theorem joF_in (jn : Int → Int → Bool) (q : Int) : ∀ t : Nat, -1 ≤ joF jn t q ∧ joF jn t q < t := by
  intro t
  induction t with
  | zero => exact ⟨by show -1 ≤ (-1 : Int); omega, by show (-1 : Int) < (0 : Nat); omega⟩
  | succ t ih =>
    unfold joF
    split <;> omega
theorem gblk_in {op rb : FI} {n : Nat} {i : Int} (h0 : 0 ≤ i) (h1 : i < n) : 0 ≤ gblk op rb n i ∧ gblk op rb n i < gnb op rb n := by
  unfold gblk gnb
  have a1 := cnt_pos (l := ldr op rb n) (lm0 op rb n) (t := i.toNat + 1) (by omega)
  have a2 := cnt_mono (ldr op rb n) (show i.toNat + 1 ≤ n by omega)
  omega
theorem gnb_le (op rb : FI) (n : Nat) : gnb op rb n ≤ n := cnt_le _ _
theorem gla_in {op rb : FI} {n : Nat} {b : Int} (h0 : 0 ≤ b) (h1 : b < gnb op rb n) : 0 ≤ gla op rb n b ∧ gla op rb n b < n := laF_in (lm0 op rb n) n b h0 h1
theorem gst_in {op rb : FI} {n : Nat} {b : Int} (h0 : 0 ≤ b) (h1 : b < gnb op rb n) : 0 ≤ gst op rb n b ∧ gst op rb n b < n := stF_in (lm0 op rb n) n b h0 h1
def OPok (op rb : FI) (n : Nat) : Prop := ∀ i, 0 ≤ i → i < (n : Int) → 0 ≤ op i ∧ op i ≤ 7 ∧ RG (rb i) ∧ (jmB (op i) = true → 0 ≤ rb i ∧ rb i ≤ 24)
theorem gF_in {op rb : FI} {n : Nat} {b : Int} (h0 : 0 ≤ b) (h1 : b < gnb op rb n) : -1 ≤ gF op rb n b ∧ gF op rb n b < gnb op rb n := by
  have := gla_in h0 h1
  unfold gF
  split
  · next h => have := gblk_in (op := op) (rb := rb) (n := n) (i := gla op rb n b + 1) (by omega) h.2; omega
  · omega
theorem gT_in {op rb : FI} {n : Nat} {b : Int} (hop : OPok op rb n) (h0 : 0 ≤ b) (h1 : b < gnb op rb n) : -1 ≤ gT op rb n b ∧ gT op rb n b < gnb op rb n := by
  have h2 := gla_in h0 h1
  unfold gT
  split
  · next h => have := gblk_in (op := op) (rb := rb) (n := n) (i := rb (gla op rb n b)) (((hop _ h2.1 h2.2).2.2.2 h.1).1) h.2; omega
  · omega
theorem one_bit {F T q : Int} (hq : 0 ≤ q ∧ q < 24) (hF : -1 ≤ F ∧ F < 24) (h : orI (bitv F) (bitv T) = bitv q) : q = (if F = -1 then T else F) := by
  have key : ∀ x, 0 ≤ x → x < 24 → (decide (x = F) || decide (x = T)) = decide (x = q) := by
    intro x x0 x1
    have := congrArg (fun z => tbI z x) h
    simp only [tb_or] at this
    rwa [tb_bitv ⟨x0, x1⟩, tb_bitv ⟨x0, x1⟩, tb_bitv ⟨x0, x1⟩] at this
  split
  · next hm =>
    have := key q hq.1 hq.2
    rw [decide_eq_true (rfl : q = q), decide_eq_false (by omega), Bool.false_or] at this
    exact of_decide_eq_true this
  · next hm =>
    have := key F (by omega) hF.2
    rw [decide_eq_true (rfl : F = F), Bool.true_or] at this
    exact (of_decide_eq_true this.symm).symm
theorem hb_or {m b x : Int} (hx : 0 ≤ x ∧ x < 24) : hbB (orI m (bitv b)) x = (hbB m x || decide (x = b)) := by
  unfold hbB
  rw [tb_or, tb_bitv hx, decide_eq_true hx]
  simp
def GP (op rb : FI) (n : Nat) (Z : ZW) : Prop := Z 14 0 = gnb op rb n ∧ Z 14 1 = gR op rb n ∧ (∀ i, 0 ≤ i → i < (n : Int) → Z 15 i = gblk op rb n i) ∧ ∀ b, 0 ≤ b → b < (gnb op rb n : Int) → Z 16 b = gst op rb n b ∧ Z 17 b = gF op rb n b ∧ Z 18 b = gT op rb n b ∧ Z 19 b = gS op rb n b ∧ Z 20 b = gH op rb n b ∧ enB Z b = gE op rb n b

def CnI (op rb : FI) (n : Nat) (Z0 Z' : ZW) (t : Nat) : Prop := (∀ b, 0 ≤ b → b < (t : Int) → Z' 17 b = gF op rb n b ∧ Z' 18 b = gT op rb n b ∧ Z' 19 b = gS op rb n b) ∧ (∀ b, 0 ≤ b → b < (t : Int) → enB Z' b = gE op rb n b) ∧ ∀ (k : Nat) (j : Int), k ≠ 17 → k ≠ 18 → k ≠ 19 → ¬ (k = 14 ∧ 8 ≤ j) → Z' k j = Z0 k j
theorem CnI_step {op rb : FI} {n : Nat} {Z0 Z' : ZW} {t : Nat} (h5 : Z0 5 = op) (h7 : Z0 7 = rb) (ht : t < gnb op rb n) (hn2 : n ≤ 24) (hop : OPok op rb n) (h15 : ∀ i, 0 ≤ i → i < (n : Int) → Z0 15 i = gblk op rb n i) (h21 : Z0 21 t = gla op rb n t) (h : CnI op rb n Z0 Z' t) : CnI op rb n Z0 (connZ Z' n t) (t + 1) := by
  obtain ⟨a1, a2, a3⟩ := h
  have hg := gnb_le op rb n
  have e5 : Z' 5 = op := by rw [← h5]; funext j; exact a3 5 j (by decide) (by decide) (by decide) (by omega)
  have e7 : Z' 7 = rb := by rw [← h7]; funext j; exact a3 7 j (by decide) (by decide) (by decide) (by omega)
  have e15 : ∀ i, 0 ≤ i → i < (n : Int) → Z' 15 i = gblk op rb n i := fun i i0 i1 => by rw [a3 15 i (by decide) (by decide) (by decide) (by omega)]; exact h15 i i0 i1
  have e21 : Z' 21 t = gla op rb n t := by rw [a3 21 _ (by decide) (by decide) (by decide) (by omega)]; exact h21
  have hla := gla_in (op := op) (rb := rb) (n := n) (b := t) (by omega) (by omega)
  have eF : connF Z' n t = gF op rb n t := by
    unfold connF gF
    rw [e21, e5]
    by_cases hc : goB (op (gla op rb n t)) = true ∧ gla op rb n t + 1 < n
    · rw [if_pos hc, if_pos hc, e15 _ (by omega) hc.2]
    · rw [if_neg hc, if_neg hc]
  have eT : connT Z' n t = gT op rb n t := by
    unfold connT gT
    rw [e21, e5, e7]
    by_cases hc : jmB (op (gla op rb n t)) = true ∧ rb (gla op rb n t) < n
    · rw [if_pos hc, if_pos hc, e15 _ (((hop _ hla.1 hla.2).2.2.2 hc.1).1) hc.2]
    · rw [if_neg hc, if_neg hc]
  have eE : connE Z' n t = gE op rb n t := by
    unfold connE gE
    rw [eF, eT, e21, e5]
  unfold connZ
  rw [eE, eF, eT]
  have key : ∀ Z3 : ZW, Z3 = up (up (up Z' 17 t (gF op rb n t)) 18 t (gT op rb n t)) 19 t (orI (bitv (gF op rb n t)) (bitv (gT op rb n t))) → (∀ b, 0 ≤ b → b < ((t + 1 : Nat) : Int) → Z3 17 b = gF op rb n b ∧ Z3 18 b = gT op rb n b ∧ Z3 19 b = gS op rb n b) ∧ (∀ (k : Nat) (j : Int), k ≠ 17 → k ≠ 18 → k ≠ 19 → Z3 k j = Z' k j) := by
    intro Z3 e3
    refine ⟨fun b b0 b1 => ?_, fun k j k1 k2 k3 => ?_⟩
    · rw [e3]
      by_cases hb : b = t
      · subst hb
        simp [up, gS]
      · have := a1 b b0 (by omega)
        simp [up, hb, this]
    · rw [e3]
      simp [up, k1, k2, k3]
  obtain ⟨Z3, e3⟩ : ∃ Z3, Z3 = up (up (up Z' 17 t (gF op rb n t)) 18 t (gT op rb n t)) 19 t (orI (bitv (gF op rb n t)) (bitv (gT op rb n t))) := ⟨_, rfl⟩
  obtain ⟨k1, k2⟩ := key Z3 e3
  rw [← e3]
  refine ⟨fun b b0 b1 => ?_, fun b b0 b1 => ?_, fun k j q1 q2 q3 q4 => ?_⟩
  · have := k1 b b0 b1
    simpa [up] using this
  · by_cases hb : b = t
    · subst hb
      exact enB_of (by simp [up])
    · rw [← a2 b b0 (by omega)]
      refine enB_congr ?_
      simp only [up]
      rw [if_neg (fun q => hb (by omega)), k2 14 _ (by decide) (by decide) (by decide)]
  · simp only [up]
    rw [if_neg (fun q => q4 ⟨q.1, by omega⟩), k2 k j q1 q2 q3]
    exact a3 k j q1 q2 q3 q4
theorem l_upd1 {J : Int64} {op rb : FI} {n : Nat} {Z0 : ZW} {Φ : ZΦ} (h5 : Z0 5 = op) (h7 : Z0 7 = rb) (hn : Z0 4 0 = n) (hnb : Z0 14 0 = gnb op rb n) (hn2 : n ≤ 24) (hop : OPok op rb n) (h15 : ∀ i, 0 ≤ i → i < (n : Int) → Z0 15 i = gblk op rb n i) (h21 : ∀ b, 0 ≤ b → b < (gnb op rb n : Int) → Z0 21 b = gla op rb n b)
    (hk : ∀ (Z' : ZW) (x : Int), CnI op rb n Z0 Z' (gnb op rb n) → OkZ none 41 31 [some (.ref 13), some (.ref 3), some (.int (I x))] [] Z' J Φ) : ∀ (d t : Nat) (Z' : ZW), t + d = gnb op rb n → CnI op rb n Z0 Z' t → OkZ none 41 11 [some (.ref 13), some (.ref 3), some (.int (I t))] [] Z' J Φ := by
  have hg := gnb_le op rb n
  intro d
  induction d with
  | zero =>
    intro t Z' ht hI
    have e14 : Z' 14 0 = gnb op rb n := by rw [hI.2.2 14 0 (by decide) (by decide) (by decide) (by omega)]; exact hnb
    have e : t = gnb op rb n := by omega
    subst e
    refine z_iload_n rfl rfl ?_
    refine z_aload_n rfl rfl ?_
    refine z_getI (bi := 0) rfl rfl rfl rfl ?_
    refine z_icmp_ge rfl (by omega) (by omega) (fun h16 => ?_) (fun h16 => ?_)
    · exact hk _ _ hI
    · omega
  | succ d ih =>
    intro t Z' ht hI
    have hf := hI.2.2
    have e14 : Z' 14 0 = gnb op rb n := by rw [hf 14 0 (by decide) (by decide) (by decide) (by omega)]; exact hnb
    have e4 : Z' 4 0 = n := by rw [hf 4 0 (by decide) (by decide) (by decide) (by omega)]; exact hn
    have e21 : Z' 21 t = gla op rb n t := by rw [hf 21 _ (by decide) (by decide) (by decide) (by omega)]; exact h21 t (by omega) (by omega)
    have hla := gla_in (op := op) (rb := rb) (n := n) (b := t) (by omega) (by omega)
    have e5 : Z' 5 (gla op rb n t) = op (gla op rb n t) := by rw [hf 5 _ (by decide) (by decide) (by decide) (by omega), h5]
    have e7 : Z' 7 (gla op rb n t) = rb (gla op rb n t) := by rw [hf 7 _ (by decide) (by decide) (by decide) (by omega), h7]
    have ho := hop _ hla.1 hla.2
    have hst := CnI_step h5 h7 (by omega) hn2 hop h15 (h21 t (by omega) (by omega)) hI
    have hcon : D 31 [.ref 13, .ref 3, .int (I (t : Int))] Z' J none (connZ Z' n t) J := by
      refine s_connect e4 hn2 (by omega) (by rw [e21]; exact hla) (by rw [e21, e5]; exact ⟨ho.1, ho.2.1⟩) (by rw [e21, e7]; exact ho.2.2.1) (by rw [e21, e5, e7]; exact fun q => (ho.2.2.2 q).1) ?_
      intro i i0 i1
      have := gblk_in (op := op) (rb := rb) i0 i1
      rw [hf 15 i (by decide) (by decide) (by decide) (by omega), h15 i i0 i1]
      omega
    refine z_iload_n rfl rfl ?_
    refine z_aload_n rfl rfl ?_
    refine z_getI (bi := 0) rfl rfl rfl rfl ?_
    refine z_icmp_ge rfl (by omega) (by omega) (fun h16 => ?_) (fun h16 => ?_)
    · omega
    · refine z_aload_n rfl rfl ?_
      refine z_aload_n rfl rfl ?_
      refine z_iload_n rfl rfl ?_
      refine z_callV2v rfl rfl rfl rfl rfl rfl (hcon) ?_
      refine z_iinc rfl rfl rfl rfl ?_
      refine z_goto rfl ?_
      exact ih (t + 1) _ (by omega) hst
theorem l_upd2 {J : Int64} {jo : FI} {nb : Nat} {Z0 : ZW} {Φ : ZΦ} (hnb : Z0 14 0 = nb) (hnb2 : nb ≤ 24) (hj : Z0 23 = jo) (hJ : ∀ p, 0 ≤ p → p < (nb : Int) → -1 ≤ jo p ∧ jo p < nb)
    (hk : ∀ (Z' : ZW) (x : Int), (∀ b, 0 ≤ b → b < (nb : Int) → Z' 20 b = hdW jo nb nb b b) → (∀ (k : Nat) (j : Int), k ≠ 20 → Z' k j = Z0 k j) → OkZ none 41 66 [some (.ref 13), some (.ref 3), some (.int (I x))] [] Z' J Φ) : ∀ (d t : Nat) (Z' : ZW), t + d = nb → (∀ b, 0 ≤ b → b < (t : Int) → Z' 20 b = hdW jo nb nb b b) → (∀ (k : Nat) (j : Int), k ≠ 20 → Z' k j = Z0 k j) → OkZ none 41 41 [some (.ref 13), some (.ref 3), some (.int (I t))] [] Z' J Φ := by
  intro d
  induction d with
  | zero =>
    intro t Z' ht h1 hf
    have e14 : Z' 14 0 = nb := by rw [hf 14 0 (by decide)]; exact hnb
    have e : t = nb := by omega
    subst e
    refine z_iload_n rfl rfl ?_
    refine z_aload_n rfl rfl ?_
    refine z_getI (bi := 0) rfl rfl rfl rfl ?_
    refine z_icmp_ge rfl (by omega) (by omega) (fun h46 => ?_) (fun h46 => ?_)
    · exact hk _ _ h1 hf
    · omega
  | succ d ih =>
    intro t Z' ht h1 hf
    have e14 : Z' 14 0 = nb := by rw [hf 14 0 (by decide)]; exact hnb
    have e23 : Z' 23 = jo := by rw [← hj]; funext j; exact hf 23 j (by decide)
    have hh : D 39 [.ref 13, .int (I (t : Int))] Z' J (some (.int (I (hdW jo nb nb t t)))) Z' J := by
      have := s_headOf (Z := Z') (J := J) (nb := nb) (b := t) e14 hnb2 (by rw [e23]; exact hJ) (by omega)
      rwa [e23] at this
    refine z_iload_n rfl rfl ?_
    refine z_aload_n rfl rfl ?_
    refine z_getI (bi := 0) rfl rfl rfl rfl ?_
    refine z_icmp_ge rfl (by omega) (by omega) (fun h46 => ?_) (fun h46 => ?_)
    · omega
    · refine z_aload_n rfl rfl ?_
      refine z_getR rfl rfl rfl rfl ?_
      refine z_iload_n rfl rfl ?_
      refine z_aload_n rfl rfl ?_
      refine z_iload_n rfl rfl ?_
      refine z_callV1 rfl rfl rfl rfl rfl rfl (hh) ?_
      refine z_iast rfl rfl (by omega) ?_
      refine z_iinc rfl rfl rfl rfl ?_
      refine z_goto rfl ?_
      refine ih (t + 1) _ (by omega) ?_ ?_
      · intro b b0 b1
        by_cases hb : b = t
        · simp [up, hb]
        · simp only [up]; rw [if_neg (fun z => hb z.2)]; exact h1 b b0 (by omega)
      · intro k j hk
        simp only [up]; rw [if_neg (fun q => hk q.1)]; exact hf k j hk
theorem pmF_RG (F T : FI) (nb : Nat) (q : Int) : RG (pmF F T nb q) := by
  induction nb with
  | zero => exact ⟨by show (-2147483648 : Int) ≤ 0; omega, by show (0 : Int) ≤ 2147483647; omega⟩
  | succ t ih =>
    simp only [pmF]
    split
    · exact orI_RG _ _
    · split
      · exact orI_RG _ _
      · exact ih
set_option maxHeartbeats 4000000 in
theorem s_gupdate {Z : ZW} {J : Int64} {n : Nat} (hn : Z 4 0 = n) (hn2 : n ≤ 24) (hop : OPok (Z 5) (Z 7) n) : Mz 41 [.ref 13, .ref 3] Z J (fun r Z' J' => r = none ∧ J' = J ∧ GP (Z 5) (Z 7) n Z' ∧ ∀ (k : Nat) (j : Int), (k < 14 ∨ 23 < k) → Z' k j = Z k j) := by
  unfold Mz
  have hg := gnb_le (Z 5) (Z 7) n
  obtain ⟨op, hop5⟩ : ∃ op, op = Z 5 := ⟨_, rfl⟩
  obtain ⟨rb, hrb7⟩ : ∃ rb, rb = Z 7 := ⟨_, rfl⟩
  rw [← hop5, ← hrb7] at hop hg ⊢
  refine z_aload_n rfl rfl ?_
  refine z_aload_n rfl rfl ?_
  refine z_aload_n rfl rfl ?_
  refine z_callS1 rfl rfl rfl rfl (s_leaders hn (fun i i0 i1 => by have := hop i i0 i1; rw [hop5, hrb7] at this; exact ⟨by unfold RG; omega, this.2.2.1⟩) hn2) ?_
  refine z_callV2g rfl rfl rfl rfl rfl rfl (s_divide hn hn2 (lm0 _ _ n)) (fun r6 Z6 J6 q6 => ?_)
  obtain ⟨rfl, rfl, bb, hD⟩ := q6
  obtain ⟨d1, d2, d3, d4, d5, d6⟩ := hD
  show OkZ none 41 9 _ [] _ _ _
  rw [← hop5, ← hrb7] at d1 d3 d4 d5
  refine z_iconst rfl ?_
  refine z_istore_n rfl rfl rfl ?_
  obtain ⟨Z0, hZ0⟩ : ∃ Z0, Z0 = Z6 := ⟨_, rfl⟩
  rw [← hZ0]
  have z5 : Z0 5 = op := by rw [hop5, hZ0]; funext j; exact d6 5 j (by decide) (by decide) (by decide) (by simp)
  have z7 : Z0 7 = rb := by rw [hrb7, hZ0]; funext j; exact d6 7 j (by decide) (by decide) (by decide) (by simp)
  have z4 : Z0 4 0 = n := by rw [hZ0, d6 4 0 (by decide) (by decide) (by decide) (by simp)]; exact hn
  have z14 : Z0 14 0 = gnb op rb n := by rw [hZ0]; exact d1
  have z15 : ∀ i, 0 ≤ i → i < (n : Int) → Z0 15 i = gblk op rb n i := by intro i i0 i1; rw [hZ0]; exact d3 i i0 i1
  have z16 : ∀ b, 0 ≤ b → b < (gnb op rb n : Int) → Z0 16 b = gst op rb n b := by intro i i0 i1; rw [hZ0]; exact d4 i i0 i1
  have z21 : ∀ b, 0 ≤ b → b < (gnb op rb n : Int) → Z0 21 b = gla op rb n b := by intro i i0 i1; rw [hZ0]; exact d5 i i0 i1
  have zf : ∀ (k : Nat) (j : Int), (k < 14 ∨ 23 < k) → Z0 k j = Z k j := by intro k j hk; rw [hZ0]; exact d6 k j (by omega) (by omega) (by omega) (by omega)
  refine l_upd1 z5 z7 z4 z14 hn2 hop z15 z21 (fun Z1 x1 hC => ?_) (gnb op rb n) 0 Z0 (by omega) ⟨fun b b0 b1 => absurd b1 (by omega), fun b b0 b1 => absurd b1 (by omega), fun _ _ _ _ _ _ => rfl⟩
  obtain ⟨c1, c2, c3⟩ := hC
  have y14 : Z1 14 0 = gnb op rb n := by rw [c3 14 0 (by decide) (by decide) (by decide) (by simp)]; exact z14
  have yF : ∀ p, 0 ≤ p → p < (gnb op rb n : Int) → RG (Z1 17 p) ∧ RG (Z1 18 p) := by intro p p0 p1; obtain ⟨e1, e2, -⟩ := c1 p p0 p1; rw [e1, e2]; have q1 := gF_in (op := op) (rb := rb) (n := n) p0 p1; have q2 := gT_in hop p0 p1; unfold RG; omega
  refine z_aload_n rfl rfl ?_
  refine z_callV0g rfl rfl rfl rfl rfl rfl (s_coll y14 (by omega) yF) (fun r32 Z32 J32 q32 => ?_)
  obtain ⟨rfl, rfl, p1, p2⟩ := q32
  show OkZ none 41 35 _ [] _ _ _
  have x14 : Z32 14 0 = gnb op rb n := by rw [p2 14 0 (by decide)]; exact y14
  have xP : ∀ q, 0 ≤ q → q < (gnb op rb n : Int) → Z32 22 q = gP op rb n q := by intro q q0 q1; rw [p1 q q0 q1]; exact pmF_congr (fun t ht => ⟨(c1 t (by omega) (by omega)).1, (c1 t (by omega) (by omega)).2.1⟩) q
  have xR : ∀ p, 0 ≤ p → p < (gnb op rb n : Int) → RG (Z32 17 p) ∧ RG (Z32 18 p) ∧ RG (Z32 19 p) ∧ RG (Z32 22 p) := by intro p p0 p1; have q1 := yF p p0 p1; refine ⟨by rw [p2 17 _ (by decide)]; exact q1.1, by rw [p2 18 _ (by decide)]; exact q1.2, (by rw [p2 19 _ (by decide), (c1 p p0 p1).2.2]; exact orI_RG _ _), (by rw [xP p p0 p1]; exact pmF_RG _ _ _ _)⟩
  have xJ : ∀ q p, 0 ≤ q → q < (gnb op rb n : Int) → 0 ≤ p → p < (gnb op rb n : Int) → jnB (enB Z32) (Z32 19) (Z32 22) q p = jnB (gE op rb n) (gS op rb n) (gP op rb n) q p := by intro q p q0 q1 p0 p1; unfold jnB; apply decide_eq_decide.mpr; rw [xP q q0 q1, enB_congr (p2 14 (8 + p) (by decide)), p2 19 _ (by decide), (c1 p p0 p1).2.2, c2 p p0 p1]
  have xN : ∀ q p, 0 ≤ q → q < (gnb op rb n : Int) → 0 ≤ p → p < (gnb op rb n : Int) → jnB (enB Z32) (Z32 19) (Z32 22) q p = true → q = (if Z32 17 p = -1 then Z32 18 p else Z32 17 p) := by intro q p q0 q1 p0 p1 hj; unfold jnB at hj; have hj2 := (of_decide_eq_true hj).2.2.2.1; rw [p2 19 _ (by decide), (c1 p p0 p1).2.2] at hj2; rw [p2 17 _ (by decide), p2 18 _ (by decide), (c1 p p0 p1).1, (c1 p p0 p1).2.1]; have f1 := gF_in (op := op) (rb := rb) (n := n) p0 p1; exact one_bit (by omega) (by omega) hj2
  refine z_aload_n rfl rfl ?_
  refine z_callV0g rfl rfl rfl rfl rfl rfl (s_join x14 (by omega) xR xN) (fun r36 Z36 J36 q36 => ?_)
  obtain ⟨rfl, rfl, w1, w2⟩ := q36
  show OkZ none 41 39 _ [] _ _ _
  refine z_iconst rfl ?_
  refine z_istore_n rfl rfl rfl ?_
  have v14 : Z36 14 0 = gnb op rb n := by rw [w2 14 0 (by decide)]; exact x14
  have vJ : ∀ q, 0 ≤ q → q < (gnb op rb n : Int) → Z36 23 q = gJ op rb n q := by intro q q0 q1; rw [w1 q q0 q1]; exact joF_congr q (fun t ht => xJ q t q0 q1 (by omega) (by omega))
  refine l_upd2 v14 (by omega) rfl (fun p p0 p1 => by rw [vJ p p0 p1]; exact joF_in _ _ _) (fun Z2 x2 u1 u2 => ?_) (gnb op rb n) 0 Z36 (by omega) (fun b b0 b1 => absurd b1 (by omega)) (fun _ _ _ => rfl)
  have t14 : Z2 14 0 = gnb op rb n := by rw [u2 14 0 (by decide)]; exact v14
  have tS : ∀ p, 0 ≤ p → p < (gnb op rb n : Int) → Z2 19 p = gS op rb n p := by intro p p0 p1; rw [u2 19 _ (by decide), w2 19 _ (by decide), p2 19 _ (by decide)]; exact (c1 p p0 p1).2.2
  have hre : D 40 [.ref 13] Z2 J36 (some (.int (I (gR op rb n)))) Z2 J36 := by have q := s_reach (Z := Z2) (J := J36) t14 (by omega) (fun p p0 p1 => by rw [tS p p0 p1]; exact orI_RG _ _); rw [rcR_congr (fun t ht => tS t (by omega) (by omega))] at q; exact q
  refine z_aload_n rfl rfl ?_
  refine z_aload_n rfl rfl ?_
  refine z_callV0 rfl rfl rfl rfl rfl rfl (hre) ?_
  refine z_putI (bi := 1) rfl rfl rfl rfl rfl ?_
  refine z_vret rfl rfl ⟨rfl, rfl, ⟨?_, ?_, ?_, ?_⟩, ?_⟩
  · simp only [up]; rw [if_neg (fun q => absurd q.2 (by decide))]; exact t14
  · simp [up]
  · intro i i0 i1; simp only [up]; rw [if_neg (fun q => absurd q.1 (by decide)), u2 15 _ (by decide), w2 15 _ (by decide), p2 15 _ (by decide), c3 15 _ (by decide) (by decide) (by decide) (by simp)]; exact z15 i i0 i1
  · intro b b0 b1
    have g16 : ∀ (k : Nat), k ≠ 14 → up Z2 14 1 (gR op rb n) k b = Z2 k b := by intro k hk; simp only [up]; rw [if_neg (fun q => hk q.1)]
    have g8 : up Z2 14 1 (gR op rb n) 14 (8 + b) = Z2 14 (8 + b) := by simp only [up]; rw [if_neg (fun q => absurd q.2 (by omega))]
    refine ⟨?_, ?_, ?_, ?_, ?_, ?_⟩
    · rw [g16 16 (by decide), u2 16 _ (by decide), w2 16 _ (by decide), p2 16 _ (by decide), c3 16 _ (by decide) (by decide) (by decide) (by simp)]; exact z16 b b0 b1
    · rw [g16 17 (by decide), u2 17 _ (by decide), w2 17 _ (by decide), p2 17 _ (by decide)]; exact (c1 b b0 b1).1
    · rw [g16 18 (by decide), u2 18 _ (by decide), w2 18 _ (by decide), p2 18 _ (by decide)]; exact (c1 b b0 b1).2.1
    · rw [g16 19 (by decide)]; exact tS b b0 b1
    · rw [g16 20 (by decide), u1 b b0 b1]; exact hdW_congr vJ _ _ _
    · rw [enB_congr g8, enB_congr (u2 14 (8 + b) (by decide)), enB_congr (w2 14 (8 + b) (by decide)), enB_congr (p2 14 (8 + b) (by decide)), c2 b b0 b1]
  · intro k j hk; simp only [up]; rw [if_neg (fun q => by omega), u2 k j (by omega), w2 k j (by omega), p2 k j (by omega), c3 k j (by omega) (by omega) (by omega) (by omega)]; exact zf k j hk
end
section
/-! the class: Prices, sums and entries -/
def bcF (ic bl : FI) : Nat → Int → Int
  | 0, _ => 0
  | t + 1, b => if bl t = b then bcF ic bl t b + ic t else bcF ic bl t b
def ccF (H C : FI) : Nat → Int → Int
  | 0, _ => 0
  | t + 1, h => if H t = h then ccF H C t h + C t else ccF H C t h
def beF (st V : FI) : Nat → Int → Int
  | 0, _ => 0
  | t + 1, i => if st t = i then V t else beF st V t i
theorem s_costAt {Z : ZW} {J : Int64} {x : Int} (hs : 0 ≤ Z 4 0 ∧ Z 4 0 ≤ 24) (hx : 0 ≤ x ∧ x < Z 4 0) (ho : 0 ≤ Z 5 x ∧ Z 5 x ≤ 7) : D 50 [.ref 3, .int (I x)] Z J (some (.int (I (Z 8 (Z 5 x))))) Z J := by
  unfold D Mz
  refine z_aload_n rfl rfl ?_
  refine z_iload_n rfl rfl ?_
  refine z_callV1 rfl rfl rfl rfl rfl rfl (s_has (by omega) hs) ?_
  refine z_ifb_eq rfl (fun h5 => ?_) (fun h5 => ?_)
  · exact absurd hx (of_decide_eq_false h5)
  · refine z_aload_n rfl rfl ?_
    refine z_getR rfl rfl rfl rfl ?_
    refine z_iload_n rfl rfl ?_
    refine z_iald rfl rfl (by omega) ?_
    refine z_goto rfl ?_
    refine z_istore_n rfl rfl rfl ?_
    refine z_iload_n rfl rfl ?_
    refine z_if_lt rfl (by omega) (fun h20 => ?_) (fun h20 => ?_)
    · exfalso; omega
    · refine z_iload_n rfl rfl ?_
      refine z_bipush rfl (by decide) ?_
      refine z_icmp_ge rfl (by omega) (by omega) (fun h26 => ?_) (fun h26 => ?_)
      · exfalso; omega
      · refine z_aload_n rfl rfl ?_
        refine z_getR rfl rfl rfl rfl ?_
        refine z_iload_n rfl rfl ?_
        refine z_iald rfl rfl (by omega) ?_
        refine z_goto rfl ?_
        exact z_iret rfl rfl ⟨rfl, rfl, rfl⟩
theorem s_wayFrom {Z : ZW} {J : Int64} {x : Int} (hx : RG x) (hs : 0 ≤ Z 14 0 ∧ Z 14 0 ≤ 24) : D 55 [.ref 24, .ref 13, .int (I x)] Z J (some (.int (I (if 0 ≤ x ∧ x < Z 14 0 then Z 31 x else -1)))) Z J := by
  unfold D Mz
  refine z_aload_n rfl rfl ?_
  refine z_iload_n rfl rfl ?_
  refine z_callV1 rfl rfl rfl rfl rfl rfl (s_ghas hx hs) ?_
  refine z_ifb_eq rfl (fun h5 => ?_) (fun h5 => ?_)
  · refine z_iconst rfl ?_
    exact z_iret rfl rfl ⟨by rw [if_neg (of_decide_eq_false h5)], rfl, rfl⟩
  · refine z_aload_n rfl rfl ?_
    refine z_getR rfl rfl rfl rfl ?_
    refine z_iload_n rfl rfl ?_
    refine z_iald rfl rfl (by have := of_decide_eq_true h5; omega) ?_
    refine z_goto rfl ?_
    exact z_iret rfl rfl ⟨by rw [if_pos (of_decide_eq_true h5)], rfl, rfl⟩
theorem s_entries0 {Z : ZW} {J : Int64} : D 14 [.ref 24, .int (I 0)] Z J (some (.ref 28)) Z J := by
  unfold D Mz
  refine z_iload_n rfl rfl ?_
  refine z_iconst rfl ?_
  refine z_icmp_ne rfl (by omega) (by omega) (fun h2 => ?_) (fun h2 => ?_)
  · refine z_iload_n rfl rfl ?_
    refine z_iconst rfl ?_
    refine z_icmp_ne rfl (by omega) (by omega) (fun h12 => ?_) (fun h12 => ?_)
    · refine z_aload_n rfl rfl ?_
      refine z_getR rfl rfl rfl rfl ?_
      first | exact z_aret rfl rfl (Or.inr ⟨_, rfl⟩) ⟨rfl, rfl, rfl⟩ | (exfalso; omega)
    · refine z_aload_n rfl rfl ?_
      refine z_getR rfl rfl rfl rfl ?_
      refine z_goto rfl ?_
      first | exact z_aret rfl rfl (Or.inr ⟨_, rfl⟩) ⟨rfl, rfl, rfl⟩ | (exfalso; omega)
  · refine z_aload_n rfl rfl ?_
    refine z_getR rfl rfl rfl rfl ?_
    first | exact z_aret rfl rfl (Or.inr ⟨_, rfl⟩) ⟨rfl, rfl, rfl⟩ | (exfalso; omega)
theorem s_entries1 {Z : ZW} {J : Int64} : D 14 [.ref 24, .int (I 1)] Z J (some (.ref 29)) Z J := by
  unfold D Mz
  refine z_iload_n rfl rfl ?_
  refine z_iconst rfl ?_
  refine z_icmp_ne rfl (by omega) (by omega) (fun h2 => ?_) (fun h2 => ?_)
  · refine z_iload_n rfl rfl ?_
    refine z_iconst rfl ?_
    refine z_icmp_ne rfl (by omega) (by omega) (fun h12 => ?_) (fun h12 => ?_)
    · refine z_aload_n rfl rfl ?_
      refine z_getR rfl rfl rfl rfl ?_
      first | exact z_aret rfl rfl (Or.inr ⟨_, rfl⟩) ⟨rfl, rfl, rfl⟩ | (exfalso; omega)
    · refine z_aload_n rfl rfl ?_
      refine z_getR rfl rfl rfl rfl ?_
      refine z_goto rfl ?_
      first | exact z_aret rfl rfl (Or.inr ⟨_, rfl⟩) ⟨rfl, rfl, rfl⟩ | (exfalso; omega)
  · refine z_aload_n rfl rfl ?_
    refine z_getR rfl rfl rfl rfl ?_
    first | exact z_aret rfl rfl (Or.inr ⟨_, rfl⟩) ⟨rfl, rfl, rfl⟩ | (exfalso; omega)
theorem s_entries2 {Z : ZW} {J : Int64} : D 14 [.ref 24, .int (I 2)] Z J (some (.ref 30)) Z J := by
  unfold D Mz
  refine z_iload_n rfl rfl ?_
  refine z_iconst rfl ?_
  refine z_icmp_ne rfl (by omega) (by omega) (fun h2 => ?_) (fun h2 => ?_)
  · refine z_iload_n rfl rfl ?_
    refine z_iconst rfl ?_
    refine z_icmp_ne rfl (by omega) (by omega) (fun h12 => ?_) (fun h12 => ?_)
    · refine z_aload_n rfl rfl ?_
      refine z_getR rfl rfl rfl rfl ?_
      first | exact z_aret rfl rfl (Or.inr ⟨_, rfl⟩) ⟨rfl, rfl, rfl⟩ | (exfalso; omega)
    · refine z_aload_n rfl rfl ?_
      refine z_getR rfl rfl rfl rfl ?_
      refine z_goto rfl ?_
      first | exact z_aret rfl rfl (Or.inr ⟨_, rfl⟩) ⟨rfl, rfl, rfl⟩ | (exfalso; omega)
  · refine z_aload_n rfl rfl ?_
    refine z_getR rfl rfl rfl rfl ?_
    first | exact z_aret rfl rfl (Or.inr ⟨_, rfl⟩) ⟨rfl, rfl, rfl⟩ | (exfalso; omega)
theorem l_sumI2 {Z : ZW} {J : Int64} {n nb : Nat} (hn : Z 4 0 = n) (hn2 : n ≤ 24) (hnb : Z 14 0 = nb) (hnb2 : nb ≤ 24) (hop : ∀ i, 0 ≤ i → i < (n : Int) → 0 ≤ Z 5 i ∧ Z 5 i ≤ 7) (hbl : ∀ i, 0 ≤ i → i < (n : Int) → 0 ≤ Z 15 i ∧ Z 15 i < nb) : ∀ (d t : Nat) (x4 : Option Value) (Z' : ZW), t + d = n → (∀ i, 0 ≤ i → i < (t : Int) → Z' 27 i = Z 8 (Z 5 i)) → (∀ b, 0 ≤ b → b < (nb : Int) → Z' 25 b = bcF (fun i => Z 8 (Z 5 i)) (Z 15) t b) → (∀ (k : Nat) (j : Int), k ≠ 25 → k ≠ 27 → Z' k j = Z k j) → OkZ none 51 25 [some (.ref 24), some (.ref 3), some (.ref 13), some (.int (I t)), x4] [] Z' J (fun r Z' J' => r = none ∧ J' = J ∧ (∀ i, 0 ≤ i → i < (n : Int) → Z' 27 i = Z 8 (Z 5 i)) ∧ (∀ b, 0 ≤ b → b < (nb : Int) → Z' 25 b = bcF (fun i => Z 8 (Z 5 i)) (Z 15) n b) ∧ ∀ (k : Nat) (j : Int), k ≠ 25 → k ≠ 27 → Z' k j = Z k j) := by
  intro d
  induction d with
  | zero =>
    intro t x4 Z' ht h1 h2 hf
    have e4 : Z' 4 0 = n := by rw [hf 4 0 (by decide) (by decide)]; exact hn
    have e : t = n := by omega
    subst e
    refine z_iload_n rfl rfl ?_
    refine z_aload_n rfl rfl ?_
    refine z_getI (bi := 0) rfl rfl rfl rfl ?_
    refine z_icmp_ge rfl (by omega) (by omega) (fun h30 => ?_) (fun h30 => ?_)
    · exact z_vret rfl rfl ⟨rfl, rfl, h1, h2, hf⟩
    · omega
  | succ d ih =>
    intro t x4 Z' ht h1 h2 hf
    have e4 : Z' 4 0 = n := by rw [hf 4 0 (by decide) (by decide)]; exact hn
    have e14 : Z' 14 0 = nb := by rw [hf 14 0 (by decide) (by decide)]; exact hnb
    have e5 : Z' 5 t = Z 5 t := hf 5 _ (by decide) (by decide)
    have e8 : Z' 8 (Z 5 t) = Z 8 (Z 5 t) := hf 8 _ (by decide) (by decide)
    have e15 : Z' 15 t = Z 15 t := hf 15 _ (by decide) (by decide)
    have ho := hop t (by omega) (by omega)
    have hb := hbl t (by omega) (by omega)
    have hco : D 50 [.ref 3, .int (I (t : Int))] Z' J (some (.int (I (Z 8 (Z 5 t))))) Z' J := by
      have := s_costAt (Z := Z') (J := J) (x := t) (by omega) (by omega) (by rw [e5]; exact ho)
      rwa [e5, e8] at this
    obtain ⟨Z1, hZ1⟩ : ∃ Z1, Z1 = up Z' 27 t (Z 8 (Z 5 t)) := ⟨_, rfl⟩
    have f14 : Z1 14 0 = nb := by rw [hZ1]; simpa [up] using e14
    have f27 : Z1 27 t = Z 8 (Z 5 t) := by rw [hZ1]; simp [up]
    have f25 : ∀ b, Z1 25 b = Z' 25 b := by intro b; rw [hZ1]; simp [up]
    refine z_iload_n rfl rfl ?_
    refine z_aload_n rfl rfl ?_
    refine z_getI (bi := 0) rfl rfl rfl rfl ?_
    refine z_icmp_ge rfl (by omega) (by omega) (fun h30 => ?_) (fun h30 => ?_)
    · omega
    · refine z_aload_n rfl rfl ?_
      refine z_getR rfl rfl rfl rfl ?_
      refine z_iload_n rfl rfl ?_
      refine z_iald rfl rfl (by omega) ?_
      refine z_istore rfl rfl rfl ?_
      refine z_aload_n rfl rfl ?_
      refine z_getR rfl rfl rfl rfl ?_
      refine z_iload_n rfl rfl ?_
      refine z_aload_n rfl rfl ?_
      refine z_iload_n rfl rfl ?_
      refine z_callV1 rfl rfl rfl rfl rfl rfl (hco) ?_
      refine z_iast rfl rfl (by omega) ?_
      rw [← hZ1]
      refine z_aload_n rfl rfl ?_
      refine z_iload rfl rfl ?_
      refine z_callV1 rfl rfl rfl rfl rfl rfl (s_ghas (by omega) (by omega)) ?_
      refine z_ifb_eq rfl (fun h58 => ?_) (fun h58 => ?_)
      · refine z_iinc rfl rfl rfl rfl ?_
        refine z_goto rfl ?_
        exact absurd hb (by rw [← e15, ← f14]; exact of_decide_eq_false h58)
      · refine z_aload_n rfl rfl ?_
        refine z_getR rfl rfl rfl rfl ?_
        refine z_iload rfl rfl ?_
        refine z_dup2 rfl rfl rfl ?_
        refine z_iald rfl rfl (by omega) ?_
        refine z_aload_n rfl rfl ?_
        refine z_getR rfl rfl rfl rfl ?_
        refine z_iload_n rfl rfl ?_
        refine z_iald rfl rfl (by omega) ?_
        refine z_iadd rfl ?_
        refine z_iast rfl rfl (by omega) ?_
        refine z_iinc rfl rfl rfl rfl ?_
        refine z_goto rfl ?_
        refine ih (t + 1) _ _ (by omega) ?_ ?_ ?_
        · intro i i0 i1
          by_cases hi : i = t
          · rw [hi]; simpa [up] using f27
          · have := h1 i i0 (by omega)
            rw [hZ1]; simp [up, hi, this]
        · intro b b0 b1
          show _ = if _ then _ else _
          by_cases hbb : Z 15 t = b
          · rw [if_pos hbb, ← h2 b b0 b1, ← hbb]
            simp [up, f25, f27, e15]
          · rw [if_neg hbb, ← h2 b b0 b1, ← f25]
            simp only [up]; rw [if_neg (fun z => hbb (by rw [← e15]; exact z.2.symm))]
        · intro k j k1 k2
          rw [hZ1]; simp only [up]; rw [if_neg (fun z => k1 z.1), if_neg (fun z => k2 z.1)]; exact hf k j k1 k2
theorem l_sumI1 {Z : ZW} {J : Int64} {n nb : Nat} (hn : Z 4 0 = n) (hn2 : n ≤ 24) (hnb : Z 14 0 = nb) (hnb2 : nb ≤ 24) (hop : ∀ i, 0 ≤ i → i < (n : Int) → 0 ≤ Z 5 i ∧ Z 5 i ≤ 7) (hbl : ∀ i, 0 ≤ i → i < (n : Int) → 0 ≤ Z 15 i ∧ Z 15 i < nb) : ∀ (d t : Nat) (Z' : ZW), t + d = nb → (∀ q, 0 ≤ q → q < (t : Int) → Z' 25 q = 0) → (∀ (k : Nat) (j : Int), k ≠ 25 → Z' k j = Z k j) → OkZ none 51 2 [some (.ref 24), some (.ref 3), some (.ref 13), some (.int (I t)), none] [] Z' J (fun r Z' J' => r = none ∧ J' = J ∧ (∀ i, 0 ≤ i → i < (n : Int) → Z' 27 i = Z 8 (Z 5 i)) ∧ (∀ b, 0 ≤ b → b < (nb : Int) → Z' 25 b = bcF (fun i => Z 8 (Z 5 i)) (Z 15) n b) ∧ ∀ (k : Nat) (j : Int), k ≠ 25 → k ≠ 27 → Z' k j = Z k j) := by
  intro d
  induction d with
  | zero =>
    intro t Z' ht h1 hf
    have e14 : Z' 14 0 = nb := by rw [hf 14 0 (by decide)]; exact hnb
    have e : t = nb := by omega
    subst e
    refine z_iload_n rfl rfl ?_
    refine z_aload_n rfl rfl ?_
    refine z_getI (bi := 0) rfl rfl rfl rfl ?_
    refine z_icmp_ge rfl (by omega) (by omega) (fun h7 => ?_) (fun h7 => ?_)
    · refine z_iconst rfl ?_
      refine z_istore_n rfl rfl rfl ?_
      exact l_sumI2 hn hn2 hnb hnb2 hop hbl n 0 _ Z' (by omega) (fun i i0 i1 => absurd i1 (by omega)) h1 (fun k j k1 _ => hf k j k1)
    · omega
  | succ d ih =>
    intro t Z' ht h1 hf
    have e14 : Z' 14 0 = nb := by rw [hf 14 0 (by decide)]; exact hnb
    refine z_iload_n rfl rfl ?_
    refine z_aload_n rfl rfl ?_
    refine z_getI (bi := 0) rfl rfl rfl rfl ?_
    refine z_icmp_ge rfl (by omega) (by omega) (fun h7 => ?_) (fun h7 => ?_)
    · omega
    · refine z_aload_n rfl rfl ?_
      refine z_getR rfl rfl rfl rfl ?_
      refine z_iload_n rfl rfl ?_
      refine z_iconst rfl ?_
      refine z_iast rfl rfl (by omega) ?_
      refine z_iinc rfl rfl rfl rfl ?_
      refine z_goto rfl ?_
      refine ih (t + 1) _ (by omega) ?_ ?_
      · intro q q0 q1
        by_cases hq : q = t
        · simp [up, hq]
        · simp only [up]; rw [if_neg (fun z => hq z.2)]; exact h1 q q0 (by omega)
      · intro k j hk
        simp only [up]; rw [if_neg (fun q => hk q.1)]; exact hf k j hk
theorem s_sumI {Z : ZW} {J : Int64} {n nb : Nat} (hn : Z 4 0 = n) (hn2 : n ≤ 24) (hnb : Z 14 0 = nb) (hnb2 : nb ≤ 24) (hop : ∀ i, 0 ≤ i → i < (n : Int) → 0 ≤ Z 5 i ∧ Z 5 i ≤ 7) (hbl : ∀ i, 0 ≤ i → i < (n : Int) → 0 ≤ Z 15 i ∧ Z 15 i < nb) : Mz 51 [.ref 24, .ref 3, .ref 13] Z J (fun r Z' J' => r = none ∧ J' = J ∧ (∀ i, 0 ≤ i → i < (n : Int) → Z' 27 i = Z 8 (Z 5 i)) ∧ (∀ b, 0 ≤ b → b < (nb : Int) → Z' 25 b = bcF (fun i => Z 8 (Z 5 i)) (Z 15) n b) ∧ ∀ (k : Nat) (j : Int), k ≠ 25 → k ≠ 27 → Z' k j = Z k j) := by
  unfold Mz
  refine z_iconst rfl ?_
  refine z_istore_n rfl rfl rfl ?_
  exact l_sumI1 hn hn2 hnb hnb2 hop hbl nb 0 Z (by omega) (fun q q0 q1 => absurd q1 (by omega)) (fun _ _ _ => rfl)
theorem l_sumC3 {Z : ZW} {J : Int64} {nb : Nat} (hnb : Z 14 0 = nb) (hnb2 : nb ≤ 24) (hH : ∀ b, 0 ≤ b → b < (nb : Int) → 0 ≤ Z 20 b ∧ Z 20 b < nb) (hHH : ∀ b, 0 ≤ b → b < (nb : Int) → Z 20 (Z 20 b) = Z 20 b) : ∀ (d t : Nat) (x3 : Option Value) (Z' : ZW), t + d = nb → (∀ b, 0 ≤ b → b < (t : Int) → Z' 26 b = ccF (Z 20) (Z 25) nb (Z 20 b)) → (∀ b, 0 ≤ b → b < (nb : Int) → (Z 20 b = b ∨ (t : Int) ≤ b) → Z' 26 b = ccF (Z 20) (Z 25) nb b) → (∀ (k : Nat) (j : Int), k ≠ 26 → Z' k j = Z k j) → OkZ none 52 71 [some (.ref 24), some (.ref 13), some (.int (I t)), x3] [] Z' J (fun r Z' J' => r = none ∧ J' = J ∧ (∀ b, 0 ≤ b → b < (nb : Int) → Z' 26 b = ccF (Z 20) (Z 25) nb (Z 20 b)) ∧ ∀ (k : Nat) (j : Int), k ≠ 26 → Z' k j = Z k j) := by
  intro d
  induction d with
  | zero =>
    intro t x3 Z' ht h1 h2 hf
    have e14 : Z' 14 0 = nb := by rw [hf 14 0 (by decide)]; exact hnb
    have e : t = nb := by omega
    subst e
    refine z_iload_n rfl rfl ?_
    refine z_aload_n rfl rfl ?_
    refine z_getI (bi := 0) rfl rfl rfl rfl ?_
    refine z_icmp_ge rfl (by omega) (by omega) (fun h76 => ?_) (fun h76 => ?_)
    · exact z_vret rfl rfl ⟨rfl, rfl, h1, hf⟩
    · omega
  | succ d ih =>
    intro t x3 Z' ht h1 h2 hf
    have e14 : Z' 14 0 = nb := by rw [hf 14 0 (by decide)]; exact hnb
    have e20 : Z' 20 t = Z 20 t := hf 20 _ (by decide)
    have hh := hH t (by omega) (by omega)
    have hhh := hHH t (by omega) (by omega)
    have hv : Z' 26 (Z 20 t) = ccF (Z 20) (Z 25) nb (Z 20 t) := h2 _ hh.1 hh.2 (Or.inl hhh)
    refine z_iload_n rfl rfl ?_
    refine z_aload_n rfl rfl ?_
    refine z_getI (bi := 0) rfl rfl rfl rfl ?_
    refine z_icmp_ge rfl (by omega) (by omega) (fun h76 => ?_) (fun h76 => ?_)
    · omega
    · refine z_aload_n rfl rfl ?_
      refine z_getR rfl rfl rfl rfl ?_
      refine z_iload_n rfl rfl ?_
      refine z_iald rfl rfl (by omega) ?_
      refine z_istore_n rfl rfl rfl ?_
      refine z_aload_n rfl rfl ?_
      refine z_getR rfl rfl rfl rfl ?_
      refine z_iload_n rfl rfl ?_
      refine z_aload_n rfl rfl ?_
      refine z_iload_n rfl rfl ?_
      refine z_callV1 rfl rfl rfl rfl rfl rfl (s_ghas (by rw [e20]; omega) (by omega)) ?_
      refine z_ifb_eq rfl (fun h96 => ?_) (fun h96 => ?_)
      · exact absurd hh (by rw [← e20, ← e14]; exact of_decide_eq_false h96)
      · refine z_aload_n rfl rfl ?_
        refine z_getR rfl rfl rfl rfl ?_
        refine z_iload_n rfl rfl ?_
        refine z_iald rfl rfl (by rw [e20]; omega) ?_
        refine z_goto rfl ?_
        refine z_iast rfl rfl (by omega) ?_
        refine z_iinc rfl rfl rfl rfl ?_
        refine z_goto rfl ?_
        refine ih (t + 1) _ _ (by omega) ?_ ?_ ?_
        · intro b b0 b1
          by_cases hb : b = t
          · rw [hb]; simp only [up]; rw [if_pos ⟨trivial, trivial⟩, e20]; exact hv
          · simp only [up]; rw [if_neg (fun z => hb z.2)]; exact h1 b b0 (by omega)
        · intro b b0 b1 hc
          by_cases hb : b = t
          · have hc2 : Z 20 b = b := hc.elim id (fun h => absurd h (by omega))
            rw [hb] at hc2 ⊢
            simp only [up]; rw [if_pos ⟨trivial, trivial⟩, e20, hc2]; rw [hc2] at hv; exact hv
          · simp only [up]; rw [if_neg (fun z => hb z.2)]; exact h2 b b0 b1 (hc.elim Or.inl (fun h => Or.inr (by omega)))
        · intro k j hk
          simp only [up]; rw [if_neg (fun q => hk q.1)]; exact hf k j hk
theorem l_sumC2 {Z : ZW} {J : Int64} {nb : Nat} (hnb : Z 14 0 = nb) (hnb2 : nb ≤ 24) (hH : ∀ b, 0 ≤ b → b < (nb : Int) → 0 ≤ Z 20 b ∧ Z 20 b < nb) (hHH : ∀ b, 0 ≤ b → b < (nb : Int) → Z 20 (Z 20 b) = Z 20 b) : ∀ (d t : Nat) (x3 : Option Value) (Z' : ZW), t + d = nb → (∀ b, 0 ≤ b → b < (nb : Int) → Z' 26 b = ccF (Z 20) (Z 25) t b) → (∀ (k : Nat) (j : Int), k ≠ 26 → Z' k j = Z k j) → OkZ none 52 25 [some (.ref 24), some (.ref 13), some (.int (I t)), x3] [] Z' J (fun r Z' J' => r = none ∧ J' = J ∧ (∀ b, 0 ≤ b → b < (nb : Int) → Z' 26 b = ccF (Z 20) (Z 25) nb (Z 20 b)) ∧ ∀ (k : Nat) (j : Int), k ≠ 26 → Z' k j = Z k j) := by
  intro d
  induction d with
  | zero =>
    intro t x3 Z' ht h1 hf
    have e14 : Z' 14 0 = nb := by rw [hf 14 0 (by decide)]; exact hnb
    have e : t = nb := by omega
    subst e
    refine z_iload_n rfl rfl ?_
    refine z_aload_n rfl rfl ?_
    refine z_getI (bi := 0) rfl rfl rfl rfl ?_
    refine z_icmp_ge rfl (by omega) (by omega) (fun h30 => ?_) (fun h30 => ?_)
    · refine z_iconst rfl ?_
      refine z_istore_n rfl rfl rfl ?_
      exact l_sumC3 hnb hnb2 hH hHH t 0 _ Z' (by omega) (fun b b0 b1 => absurd b1 (by omega)) (fun b b0 b1 _ => h1 b b0 b1) hf
    · omega
  | succ d ih =>
    intro t x3 Z' ht h1 hf
    have e14 : Z' 14 0 = nb := by rw [hf 14 0 (by decide)]; exact hnb
    have e20 : Z' 20 t = Z 20 t := hf 20 _ (by decide)
    have e25 : Z' 25 t = Z 25 t := hf 25 _ (by decide)
    have hh := hH t (by omega) (by omega)
    refine z_iload_n rfl rfl ?_
    refine z_aload_n rfl rfl ?_
    refine z_getI (bi := 0) rfl rfl rfl rfl ?_
    refine z_icmp_ge rfl (by omega) (by omega) (fun h30 => ?_) (fun h30 => ?_)
    · omega
    · refine z_aload_n rfl rfl ?_
      refine z_getR rfl rfl rfl rfl ?_
      refine z_iload_n rfl rfl ?_
      refine z_iald rfl rfl (by omega) ?_
      refine z_istore_n rfl rfl rfl ?_
      refine z_aload_n rfl rfl ?_
      refine z_iload_n rfl rfl ?_
      refine z_callV1 rfl rfl rfl rfl rfl rfl (s_ghas (by rw [e20]; omega) (by omega)) ?_
      refine z_ifb_eq rfl (fun h45 => ?_) (fun h45 => ?_)
      · refine z_iinc rfl rfl rfl rfl ?_
        refine z_goto rfl ?_
        exact absurd hh (by rw [← e20, ← e14]; exact of_decide_eq_false h45)
      · refine z_aload_n rfl rfl ?_
        refine z_getR rfl rfl rfl rfl ?_
        refine z_iload_n rfl rfl ?_
        refine z_dup2 rfl rfl rfl ?_
        refine z_iald rfl rfl (by rw [e20]; omega) ?_
        refine z_aload_n rfl rfl ?_
        refine z_getR rfl rfl rfl rfl ?_
        refine z_iload_n rfl rfl ?_
        refine z_iald rfl rfl (by omega) ?_
        refine z_iadd rfl ?_
        refine z_iast rfl rfl (by rw [e20]; omega) ?_
        refine z_iinc rfl rfl rfl rfl ?_
        refine z_goto rfl ?_
        refine ih (t + 1) _ _ (by omega) ?_ ?_
        · intro b b0 b1
          show _ = if _ then _ else _
          by_cases hb : Z 20 t = b
          · rw [if_pos hb, ← h1 b b0 b1, ← hb, ← e25, ← e20]
            simp [up]
          · rw [if_neg hb, ← h1 b b0 b1]
            simp only [up]; rw [if_neg (fun z => hb (by rw [← e20]; exact z.2.symm))]
        · intro k j hk
          simp only [up]; rw [if_neg (fun q => hk q.1)]; exact hf k j hk
theorem l_sumC1 {Z : ZW} {J : Int64} {nb : Nat} (hnb : Z 14 0 = nb) (hnb2 : nb ≤ 24) (hH : ∀ b, 0 ≤ b → b < (nb : Int) → 0 ≤ Z 20 b ∧ Z 20 b < nb) (hHH : ∀ b, 0 ≤ b → b < (nb : Int) → Z 20 (Z 20 b) = Z 20 b) : ∀ (d t : Nat) (Z' : ZW), t + d = nb → (∀ q, 0 ≤ q → q < (t : Int) → Z' 26 q = 0) → (∀ (k : Nat) (j : Int), k ≠ 26 → Z' k j = Z k j) → OkZ none 52 2 [some (.ref 24), some (.ref 13), some (.int (I t)), none] [] Z' J (fun r Z' J' => r = none ∧ J' = J ∧ (∀ b, 0 ≤ b → b < (nb : Int) → Z' 26 b = ccF (Z 20) (Z 25) nb (Z 20 b)) ∧ ∀ (k : Nat) (j : Int), k ≠ 26 → Z' k j = Z k j) := by
  intro d
  induction d with
  | zero =>
    intro t Z' ht h1 hf
    have e14 : Z' 14 0 = nb := by rw [hf 14 0 (by decide)]; exact hnb
    have e : t = nb := by omega
    subst e
    refine z_iload_n rfl rfl ?_
    refine z_aload_n rfl rfl ?_
    refine z_getI (bi := 0) rfl rfl rfl rfl ?_
    refine z_icmp_ge rfl (by omega) (by omega) (fun h7 => ?_) (fun h7 => ?_)
    · refine z_iconst rfl ?_
      refine z_istore_n rfl rfl rfl ?_
      exact l_sumC2 hnb hnb2 hH hHH t 0 _ Z' (by omega) h1 hf
    · omega
  | succ d ih =>
    intro t Z' ht h1 hf
    have e14 : Z' 14 0 = nb := by rw [hf 14 0 (by decide)]; exact hnb
    refine z_iload_n rfl rfl ?_
    refine z_aload_n rfl rfl ?_
    refine z_getI (bi := 0) rfl rfl rfl rfl ?_
    refine z_icmp_ge rfl (by omega) (by omega) (fun h7 => ?_) (fun h7 => ?_)
    · omega
    · refine z_aload_n rfl rfl ?_
      refine z_getR rfl rfl rfl rfl ?_
      refine z_iload_n rfl rfl ?_
      refine z_iconst rfl ?_
      refine z_iast rfl rfl (by omega) ?_
      refine z_iinc rfl rfl rfl rfl ?_
      refine z_goto rfl ?_
      refine ih (t + 1) _ (by omega) ?_ ?_
      · intro q q0 q1
        by_cases hq : q = t
        · simp [up, hq]
        · simp only [up]; rw [if_neg (fun z => hq z.2)]; exact h1 q q0 (by omega)
      · intro k j hk
        simp only [up]; rw [if_neg (fun q => hk q.1)]; exact hf k j hk
theorem s_sumC {Z : ZW} {J : Int64} {nb : Nat} (hnb : Z 14 0 = nb) (hnb2 : nb ≤ 24) (hH : ∀ b, 0 ≤ b → b < (nb : Int) → 0 ≤ Z 20 b ∧ Z 20 b < nb) (hHH : ∀ b, 0 ≤ b → b < (nb : Int) → Z 20 (Z 20 b) = Z 20 b) : Mz 52 [.ref 24, .ref 13] Z J (fun r Z' J' => r = none ∧ J' = J ∧ (∀ b, 0 ≤ b → b < (nb : Int) → Z' 26 b = ccF (Z 20) (Z 25) nb (Z 20 b)) ∧ ∀ (k : Nat) (j : Int), k ≠ 26 → Z' k j = Z k j) := by
  unfold Mz
  refine z_iconst rfl ?_
  refine z_istore_n rfl rfl rfl ?_
  exact l_sumC1 hnb hnb2 hH hHH nb 0 Z (by omega) (fun q q0 q1 => absurd q1 (by omega)) (fun _ _ _ => rfl)
theorem l_mark2 {Z : ZW} {J : Int64} {n nb : Nat} (hn : Z 4 0 = n) (hn2 : n ≤ 24) (hnb : Z 14 0 = nb) (hnb2 : nb ≤ 24) (hst : ∀ b, 0 ≤ b → b < (nb : Int) → 0 ≤ Z 16 b ∧ Z 16 b < n ∧ RG (Z 20 b)) : ∀ (d t : Nat) (x4 : Option Value) (Z' : ZW), t + d = nb → (∀ i, 0 ≤ i → i < (n : Int) → Z' 29 i = beF (Z 16) (Z 25) t i ∧ Z' 30 i = beF (Z 16) (fun b => if Z 20 b = b then Z 26 b else 0) t i) → (∀ (k : Nat) (j : Int), k ≠ 29 → k ≠ 30 → Z' k j = Z k j) → OkZ none 53 32 [some (.ref 24), some (.ref 3), some (.ref 13), some (.int (I t)), x4] [] Z' J (fun r Z' J' => r = none ∧ J' = J ∧ (∀ i, 0 ≤ i → i < (n : Int) → Z' 29 i = beF (Z 16) (Z 25) nb i ∧ Z' 30 i = beF (Z 16) (fun b => if Z 20 b = b then Z 26 b else 0) nb i) ∧ ∀ (k : Nat) (j : Int), k ≠ 29 → k ≠ 30 → Z' k j = Z k j) := by
  intro d
  induction d with
  | zero =>
    intro t x4 Z' ht h1 hf
    have e14 : Z' 14 0 = nb := by rw [hf 14 0 (by decide) (by decide)]; exact hnb
    have e : t = nb := by omega
    subst e
    refine z_iload_n rfl rfl ?_
    refine z_aload_n rfl rfl ?_
    refine z_getI (bi := 0) rfl rfl rfl rfl ?_
    refine z_icmp_ge rfl (by omega) (by omega) (fun h37 => ?_) (fun h37 => ?_)
    · exact z_vret rfl rfl ⟨rfl, rfl, h1, hf⟩
    · omega
  | succ d ih =>
    intro t x4 Z' ht h1 hf
    have e14 : Z' 14 0 = nb := by rw [hf 14 0 (by decide) (by decide)]; exact hnb
    have e4 : Z' 4 0 = n := by rw [hf 4 0 (by decide) (by decide)]; exact hn
    have e16 : Z' 16 t = Z 16 t := hf 16 _ (by decide) (by decide)
    have e20 : Z' 20 t = Z 20 t := hf 20 _ (by decide) (by decide)
    have e25 : Z' 25 t = Z 25 t := hf 25 _ (by decide) (by decide)
    have e26 : Z' 26 t = Z 26 t := hf 26 _ (by decide) (by decide)
    have hs := hst t (by omega) (by omega)
    obtain ⟨Z1, hZ1⟩ : ∃ Z1, Z1 = up Z' 29 (Z 16 t) (Z 25 t) := ⟨_, rfl⟩
    have g20 : Z1 20 t = Z 20 t := by rw [hZ1]; simpa [up] using e20
    have g26 : Z1 26 t = Z 26 t := by rw [hZ1]; simpa [up] using e26
    have go : ∀ v, v = (fun b => if Z 20 b = b then Z 26 b else 0) t → OkZ none 53 97 [some (.ref 24), some (.ref 3), some (.ref 13), some (.int (I t)), some (.int (I (Z 16 t)))] [] (up Z1 30 (Z 16 t) v) J (fun r Z' J' => r = none ∧ J' = J ∧ (∀ i, 0 ≤ i → i < (n : Int) → Z' 29 i = beF (Z 16) (Z 25) nb i ∧ Z' 30 i = beF (Z 16) (fun b => if Z 20 b = b then Z 26 b else 0) nb i) ∧ ∀ (k : Nat) (j : Int), k ≠ 29 → k ≠ 30 → Z' k j = Z k j) := by
      intro v hv
      refine z_iinc rfl rfl rfl rfl ?_
      refine z_goto rfl ?_
      refine ih (t + 1) _ _ (by omega) ?_ ?_
      · intro i i0 i1
        have hi := h1 i i0 i1
        show _ = (if _ then _ else _) ∧ _ = (if _ then _ else _)
        by_cases hc : Z 16 t = i
        · rw [if_pos hc, if_pos hc, hZ1]
          refine ⟨?_, ?_⟩
          · simp [up, hc]
          · rw [← hv]; simp [up, hc]
        · rw [if_neg hc, if_neg hc, hZ1]
          have hc2 : ¬ i = Z 16 t := fun z => hc z.symm
          simp [up, hc2, hi]
      · intro k j k1 k2
        rw [hZ1]; simp only [up]; rw [if_neg (fun z => k2 z.1), if_neg (fun z => k1 z.1)]; exact hf k j k1 k2
    refine z_iload_n rfl rfl ?_
    refine z_aload_n rfl rfl ?_
    refine z_getI (bi := 0) rfl rfl rfl rfl ?_
    refine z_icmp_ge rfl (by omega) (by omega) (fun h37 => ?_) (fun h37 => ?_)
    · omega
    · refine z_aload_n rfl rfl ?_
      refine z_getR rfl rfl rfl rfl ?_
      refine z_iload_n rfl rfl ?_
      refine z_iald rfl rfl (by omega) ?_
      refine z_istore rfl rfl rfl ?_
      refine z_aload_n rfl rfl ?_
      refine z_iload rfl rfl ?_
      refine z_callV1 rfl rfl rfl rfl rfl rfl (s_has (by rw [e16]; omega) (by omega)) ?_
      refine z_ifb_eq rfl (fun h54 => ?_) (fun h54 => ?_)
      · exact absurd (show 0 ≤ Z 16 t ∧ Z 16 t < (n : Int) from ⟨hs.1, hs.2.1⟩) (by rw [← e16, ← e4]; exact of_decide_eq_false h54)
      · refine z_aload_n rfl rfl ?_
        refine z_getR rfl rfl rfl rfl ?_
        refine z_iload rfl rfl ?_
        refine z_aload_n rfl rfl ?_
        refine z_getR rfl rfl rfl rfl ?_
        refine z_iload_n rfl rfl ?_
        refine z_iald rfl rfl (by omega) ?_
        refine z_iast rfl rfl (by rw [e16]; omega) ?_
        refine z_aload_n rfl rfl ?_
        refine z_getR rfl rfl rfl rfl ?_
        refine z_iload rfl rfl ?_
        refine z_aload_n rfl rfl ?_
        refine z_getR rfl rfl rfl rfl ?_
        refine z_iload_n rfl rfl ?_
        have hr := hs.2.2
        rw [← e20] at hr
        refine z_iald rfl rfl (by omega) ?_
        rw [show up Z' 29 (Z' 16 t) (Z' 25 t) 20 t = Z' 20 t by simp [up]]
        refine z_iload_n rfl rfl ?_
        refine z_icmp_ne rfl (by omega) (by omega) (fun h83 => ?_) (fun h83 => ?_)
        · refine z_iconst rfl ?_
          refine z_iast rfl rfl (by rw [e16]; omega) ?_
          rw [e16, e25, ← hZ1]
          exact go 0 (by dsimp only; rw [if_neg (by rw [← e20]; exact h83)])
        · refine z_aload_n rfl rfl ?_
          refine z_getR rfl rfl rfl rfl ?_
          refine z_iload_n rfl rfl ?_
          refine z_iald rfl rfl (by omega) ?_
          refine z_goto rfl ?_
          refine z_iast rfl rfl (by rw [e16]; omega) ?_
          rw [e16, e25, ← hZ1, g26]
          exact go _ (by dsimp only; rw [if_pos (by rw [← e20]; exact h83)])
theorem l_mark1 {Z : ZW} {J : Int64} {n nb : Nat} (hn : Z 4 0 = n) (hn2 : n ≤ 24) (hnb : Z 14 0 = nb) (hnb2 : nb ≤ 24) (hst : ∀ b, 0 ≤ b → b < (nb : Int) → 0 ≤ Z 16 b ∧ Z 16 b < n ∧ RG (Z 20 b)) : ∀ (d t : Nat) (Z' : ZW), t + d = n → (∀ i, 0 ≤ i → i < (t : Int) → Z' 29 i = 0 ∧ Z' 30 i = 0) → (∀ (k : Nat) (j : Int), k ≠ 29 → k ≠ 30 → Z' k j = Z k j) → OkZ none 53 2 [some (.ref 24), some (.ref 3), some (.ref 13), some (.int (I t)), none] [] Z' J (fun r Z' J' => r = none ∧ J' = J ∧ (∀ i, 0 ≤ i → i < (n : Int) → Z' 29 i = beF (Z 16) (Z 25) nb i ∧ Z' 30 i = beF (Z 16) (fun b => if Z 20 b = b then Z 26 b else 0) nb i) ∧ ∀ (k : Nat) (j : Int), k ≠ 29 → k ≠ 30 → Z' k j = Z k j) := by
  intro d
  induction d with
  | zero =>
    intro t Z' ht h1 hf
    have e4 : Z' 4 0 = n := by rw [hf 4 0 (by decide) (by decide)]; exact hn
    have e : t = n := by omega
    subst e
    refine z_iload_n rfl rfl ?_
    refine z_aload_n rfl rfl ?_
    refine z_getI (bi := 0) rfl rfl rfl rfl ?_
    refine z_icmp_ge rfl (by omega) (by omega) (fun h7 => ?_) (fun h7 => ?_)
    · refine z_iconst rfl ?_
      refine z_istore_n rfl rfl rfl ?_
      exact l_mark2 hn hn2 hnb hnb2 hst nb 0 _ Z' (by omega) h1 hf
    · omega
  | succ d ih =>
    intro t Z' ht h1 hf
    have e4 : Z' 4 0 = n := by rw [hf 4 0 (by decide) (by decide)]; exact hn
    refine z_iload_n rfl rfl ?_
    refine z_aload_n rfl rfl ?_
    refine z_getI (bi := 0) rfl rfl rfl rfl ?_
    refine z_icmp_ge rfl (by omega) (by omega) (fun h7 => ?_) (fun h7 => ?_)
    · omega
    · refine z_aload_n rfl rfl ?_
      refine z_getR rfl rfl rfl rfl ?_
      refine z_iload_n rfl rfl ?_
      refine z_iconst rfl ?_
      refine z_iast rfl rfl (by omega) ?_
      refine z_aload_n rfl rfl ?_
      refine z_getR rfl rfl rfl rfl ?_
      refine z_iload_n rfl rfl ?_
      refine z_iconst rfl ?_
      refine z_iast rfl rfl (by omega) ?_
      refine z_iinc rfl rfl rfl rfl ?_
      refine z_goto rfl ?_
      refine ih (t + 1) _ (by omega) ?_ ?_
      · intro q q0 q1
        by_cases hq : q = t
        · simp [up, hq]
        · have := h1 q q0 (by omega)
          simp [up, hq, this]
      · intro k j k1 k2
        simp only [up]; rw [if_neg (fun z => k2 z.1), if_neg (fun z => k1 z.1)]; exact hf k j k1 k2
theorem s_mark {Z : ZW} {J : Int64} {n nb : Nat} (hn : Z 4 0 = n) (hn2 : n ≤ 24) (hnb : Z 14 0 = nb) (hnb2 : nb ≤ 24) (hst : ∀ b, 0 ≤ b → b < (nb : Int) → 0 ≤ Z 16 b ∧ Z 16 b < n ∧ RG (Z 20 b)) : Mz 53 [.ref 24, .ref 3, .ref 13] Z J (fun r Z' J' => r = none ∧ J' = J ∧ (∀ i, 0 ≤ i → i < (n : Int) → Z' 29 i = beF (Z 16) (Z 25) nb i ∧ Z' 30 i = beF (Z 16) (fun b => if Z 20 b = b then Z 26 b else 0) nb i) ∧ ∀ (k : Nat) (j : Int), k ≠ 29 → k ≠ 30 → Z' k j = Z k j) := by
  unfold Mz
  refine z_iconst rfl ?_
  refine z_istore_n rfl rfl rfl ?_
  exact l_mark1 hn hn2 hnb hnb2 hst n 0 Z (by omega) (fun q q0 q1 => absurd q1 (by omega)) (fun _ _ _ _ => rfl)
end
section
/-! the class: greatest and least ways -/
def wy (nb : Nat) (W : FI) (c : Int) : Int := if 0 ≤ c ∧ c < nb then W c else -1
def updF (W : FI) (k v : Int) : FI := fun j => if j = k then v else W j
def gf1 (F : FI) (nb : Nat) (W : FI) (b : Int) : Int := if F b = -1 then 0 else wy nb W (F b)
def gfr (C F T : FI) (nb : Nat) (W : FI) (b : Int) : Int := if gf1 F nb W b = -1 ∨ gf1 T nb W b = -1 then -1 else C b + (if gf1 F nb W b < gf1 T nb W b then gf1 T nb W b else gf1 F nb W b)
def lfr (C F T : FI) (E : Int → Bool) (nb : Nat) (W : FI) (b : Int) : Int := if E b then C b else if wy nb W (F b) = -1 ∧ wy nb W (T b) = -1 then -1 else if wy nb W (F b) = -1 ∨ wy nb W (T b) = -1 then C b + (if wy nb W (F b) < wy nb W (T b) then wy nb W (T b) else wy nb W (F b)) else C b + (if wy nb W (T b) < wy nb W (F b) then wy nb W (T b) else wy nb W (F b))
def gsB (fr : FI → FI) (W : FI) (k : Int) : Bool := decide (W k = -1 ∧ fr W k ≠ -1)
def gs (fr : FI → FI) (W : FI) (k : Int) : FI := if gsB fr W k then updF W k (fr W k) else W
def lsB (fr : FI → FI) (W : FI) (k : Int) : Bool := decide (fr W k ≠ W k)
def ls (fr : FI → FI) (W : FI) (k : Int) : FI := if lsB fr W k then updF W k (fr W k) else W
/-- a round over the blocks k - 1 .. 0, and whether it changed something -/
def wI (st : FI → Int → FI) : Nat → FI → FI
  | 0, W => W
  | k + 1, W => wI st k (st W k)
def wC (st : FI → Int → FI) (sb : FI → Int → Bool) : Nat → FI → Bool → Bool
  | 0, _, c => c
  | k + 1, W, c => wC st sb k (st W k) (c || sb W k)
def wR (st : FI → Int → FI) (sb : FI → Int → Bool) (nb : Nat) : Nat → FI → Bool → FI
  | 0, W, _ => W
  | d + 1, W, c => if c then wR st sb nb d (wI st nb W) (wC st sb nb W false) else W
def wB (nb : Nat) (B : Int) (W : FI) : Prop := ∀ b, 0 ≤ b → b < (nb : Int) → -1 ≤ W b ∧ W b ≤ B
def RelW (Z0 Z' : ZW) (W : FI) (nb : Nat) : Prop := (∀ b, 0 ≤ b → b < (nb : Int) → Z' 31 b = W b) ∧ ∀ (k : Nat) (j : Int), k ≠ 31 → Z' k j = Z0 k j
def FTok (F T C : FI) (nb : Nat) : Prop := ∀ b, 0 ≤ b → b < (nb : Int) → (-1 ≤ F b ∧ F b < nb) ∧ (-1 ≤ T b ∧ T b < nb) ∧ 1 ≤ C b ∧ C b ≤ 216
theorem wy_in {nb : Nat} {B : Int} {W : FI} (h : wB nb B W) (hB : 0 ≤ B) (c : Int) : -1 ≤ wy nb W c ∧ wy nb W c ≤ B := by
  unfold wy
  split
  · next hc => exact h c hc.1 hc.2
  · omega
theorem gf1_in {F : FI} {nb : Nat} {B : Int} {W : FI} (h : wB nb B W) (hB : 0 ≤ B) (b : Int) : -1 ≤ gf1 F nb W b ∧ gf1 F nb W b ≤ B := by
  unfold gf1
  split
  · omega
  · exact wy_in h hB _
theorem gfr_in {F T C : FI} {nb : Nat} {B b : Int} {W : FI} (hFT : FTok F T C nb) (h : wB nb B W) (hB : 0 ≤ B) (h0 : 0 ≤ b) (h1 : b < nb) : -1 ≤ gfr C F T nb W b ∧ gfr C F T nb W b ≤ B + 216 := by
  have := hFT b h0 h1
  have h2 := gf1_in (F := F) h hB b
  have h3 := gf1_in (F := T) h hB b
  unfold gfr
  split
  · omega
  · split <;> omega
theorem lfr_in {F T C : FI} {E : Int → Bool} {nb : Nat} {B b : Int} {W : FI} (hFT : FTok F T C nb) (h : wB nb B W) (hB : 0 ≤ B) (h0 : 0 ≤ b) (h1 : b < nb) : -1 ≤ lfr C F T E nb W b ∧ lfr C F T E nb W b ≤ B + 216 := by
  have := hFT b h0 h1
  have h2 := wy_in h hB (F b)
  have h3 := wy_in h hB (T b)
  unfold lfr
  split
  · omega
  · split
    · omega
    · split <;> split <;> omega
theorem wB_up {nb : Nat} {B k v : Int} {W : FI} (h : wB nb B W) (hv : -1 ≤ v ∧ v ≤ B + 216) : wB nb (B + 216) (updF W k v) := by
  intro b b0 b1
  unfold updF
  split
  · exact hv
  · have := h b b0 b1; omega
theorem wB_mono {nb : Nat} {B B' : Int} {W : FI} (h : wB nb B W) (hB : B ≤ B') : wB nb B' W := fun b b0 b1 => by have := h b b0 b1; omega
theorem wy_rel {Z0 Z' : ZW} {W : FI} {nb : Nat} (h : RelW Z0 Z' W nb) (c : Int) : wy nb (Z' 31) c = wy nb W c := by
  unfold wy
  split
  · next hc => exact h.1 c hc.1 hc.2
  · rfl
theorem RelW_up {Z0 Z' : ZW} {W : FI} {nb : Nat} (h : RelW Z0 Z' W nb) (k v : Int) : RelW Z0 (up Z' 31 k v) (updF W k v) nb := by
  refine ⟨fun b b0 b1 => ?_, fun q j hq => ?_⟩
  · unfold updF
    by_cases hb : b = k
    · simp [up, hb]
    · have := h.1 b b0 b1
      simp [up, hb, this]
  · simp only [up]
    rw [if_neg (fun z => hq z.1)]
    exact h.2 q j hq
theorem s_gfrom {Z : ZW} {J : Int64} {nb : Nat} {B b : Int} (hnb : Z 14 0 = nb) (hnb2 : nb ≤ 24) (hFT : FTok (Z 17) (Z 18) (Z 25) nb) (hB : 0 ≤ B ∧ B ≤ 1000000) (hW : wB nb B (Z 31)) (hb : 0 ≤ b ∧ b < nb) : D 57 [.ref 24, .ref 13, .int (I b)] Z J (some (.int (I (gfr (Z 25) (Z 17) (Z 18) nb (Z 31) b)))) Z J := by
  unfold D Mz
  have hq := hFT b hb.1 hb.2
  have hf := gf1_in (F := Z 17) hW hB.1 b
  have ht := gf1_in (F := Z 18) hW hB.1 b
  obtain ⟨f, ef⟩ : ∃ f, f = gf1 (Z 17) nb (Z 31) b := ⟨_, rfl⟩
  obtain ⟨t, et⟩ : ∃ t, t = gf1 (Z 18) nb (Z 31) b := ⟨_, rfl⟩
  have eg : gfr (Z 25) (Z 17) (Z 18) nb (Z 31) b = if f = -1 ∨ t = -1 then -1 else Z 25 b + (if f < t then t else f) := by rw [ef, et]; rfl
  rw [← ef] at hf
  rw [← et] at ht
  have K51 : OkZ none 57 51 [some (.ref 24), some (.ref 13), some (.int (I b)), some (.int (I (Z 17 b))), some (.int (I (Z 18 b))), some (.int (I f)), some (.int (I t))] [] Z J (fun r Z' J' => r = some (.int (I (gfr (Z 25) (Z 17) (Z 18) nb (Z 31) b))) ∧ Z' = Z ∧ J' = J) := by
    refine z_iload rfl rfl ?_
    refine z_iconst rfl ?_
    refine z_icmp_eq rfl (by omega) (by omega) (fun h54 => ?_) (fun h54 => ?_)
    · refine z_iconst rfl ?_
      exact z_iret rfl rfl ⟨by rw [eg, if_pos (Or.inl h54)], rfl, rfl⟩
    · refine z_iload rfl rfl ?_
      refine z_iconst rfl ?_
      refine z_icmp_ne rfl (by omega) (by omega) (fun h60 => ?_) (fun h60 => ?_)
      · refine z_aload_n rfl rfl ?_
        refine z_getR rfl rfl rfl rfl ?_
        refine z_iload_n rfl rfl ?_
        refine z_iald rfl rfl (by omega) ?_
        refine z_iload rfl rfl ?_
        refine z_iload rfl rfl ?_
        refine z_callS2 rfl rfl rfl rfl (s_max (by omega) (by omega)) ?_
        refine z_iadd rfl ?_
        rw [if_neg (fun z => z.elim h54 h60)] at eg
        exact z_iret rfl rfl ⟨by rw [eg], rfl, rfl⟩
      · refine z_iconst rfl ?_
        exact z_iret rfl rfl ⟨by rw [eg, if_pos (Or.inr h60)], rfl, rfl⟩
  have K32 : OkZ none 57 32 [some (.ref 24), some (.ref 13), some (.int (I b)), some (.int (I (Z 17 b))), some (.int (I (Z 18 b))), some (.int (I f)), none] [] Z J (fun r Z' J' => r = some (.int (I (gfr (Z 25) (Z 17) (Z 18) nb (Z 31) b))) ∧ Z' = Z ∧ J' = J) := by
    refine z_iload rfl rfl ?_
    refine z_iconst rfl ?_
    refine z_icmp_ne rfl (by omega) (by omega) (fun h35 => ?_) (fun h35 => ?_)
    · refine z_aload_n rfl rfl ?_
      refine z_aload_n rfl rfl ?_
      refine z_iload rfl rfl ?_
      refine z_callV2 rfl rfl rfl rfl rfl rfl (s_wayFrom (by omega) (by omega)) ?_
      refine z_istore rfl rfl rfl ?_
      rw [show t = (if 0 ≤ Z 18 b ∧ Z 18 b < Z 14 0 then Z 31 (Z 18 b) else -1) by rw [et, gf1, if_neg h35, wy, hnb]] at K51
      exact K51
    · refine z_iconst rfl ?_
      refine z_goto rfl ?_
      refine z_istore rfl rfl rfl ?_
      rw [show t = 0 by rw [et, gf1, if_pos h35]] at K51
      exact K51
  refine z_aload_n rfl rfl ?_
  refine z_getR rfl rfl rfl rfl ?_
  refine z_iload_n rfl rfl ?_
  refine z_iald rfl rfl (by omega) ?_
  refine z_istore_n rfl rfl rfl ?_
  refine z_aload_n rfl rfl ?_
  refine z_getR rfl rfl rfl rfl ?_
  refine z_iload_n rfl rfl ?_
  refine z_iald rfl rfl (by omega) ?_
  refine z_istore rfl rfl rfl ?_
  refine z_iload_n rfl rfl ?_
  refine z_iconst rfl ?_
  refine z_icmp_ne rfl (by omega) (by omega) (fun h17 => ?_) (fun h17 => ?_)
  · refine z_aload_n rfl rfl ?_
    refine z_aload_n rfl rfl ?_
    refine z_iload_n rfl rfl ?_
    refine z_callV2 rfl rfl rfl rfl rfl rfl (s_wayFrom (by omega) (by omega)) ?_
    refine z_istore rfl rfl rfl ?_
    rw [show f = (if 0 ≤ Z 17 b ∧ Z 17 b < Z 14 0 then Z 31 (Z 17 b) else -1) by rw [ef, gf1, if_neg h17, wy, hnb]] at K32
    exact K32
  · refine z_iconst rfl ?_
    refine z_goto rfl ?_
    refine z_istore rfl rfl rfl ?_
    rw [show f = 0 by rw [ef, gf1, if_pos h17]] at K32
    exact K32
theorem s_lfrom {Z : ZW} {J : Int64} {nb : Nat} {B b : Int} (hnb : Z 14 0 = nb) (hnb2 : nb ≤ 24) (hFT : FTok (Z 17) (Z 18) (Z 25) nb) (hB : 0 ≤ B ∧ B ≤ 1000000) (hW : wB nb B (Z 31)) (hb : 0 ≤ b ∧ b < nb) : D 59 [.ref 24, .ref 13, .int (I b)] Z J (some (.int (I (lfr (Z 25) (Z 17) (Z 18) (enB Z) nb (Z 31) b)))) Z J := by
  unfold D Mz
  have hq := hFT b hb.1 hb.2
  have hf := wy_in hW hB.1 (Z 17 b)
  have ht := wy_in hW hB.1 (Z 18 b)
  obtain ⟨f, ef⟩ : ∃ f, f = wy nb (Z 31) (Z 17 b) := ⟨_, rfl⟩
  obtain ⟨t, et⟩ : ∃ t, t = wy nb (Z 31) (Z 18 b) := ⟨_, rfl⟩
  have eg : lfr (Z 25) (Z 17) (Z 18) (enB Z) nb (Z 31) b = if enB Z b then Z 25 b else if f = -1 ∧ t = -1 then -1 else if f = -1 ∨ t = -1 then Z 25 b + (if f < t then t else f) else Z 25 b + (if t < f then t else f) := by rw [ef, et]; rfl
  have ef2 : (if 0 ≤ Z 17 b ∧ Z 17 b < Z 14 0 then Z 31 (Z 17 b) else -1) = f := by rw [ef, wy, hnb]
  have et2 : (if 0 ≤ Z 18 b ∧ Z 18 b < Z 14 0 then Z 31 (Z 18 b) else -1) = t := by rw [et, wy, hnb]
  rw [← ef] at hf
  rw [← et] at ht
  refine z_aload_n rfl rfl ?_
  refine z_iload_n rfl rfl ?_
  refine z_callV1 rfl rfl rfl rfl rfl rfl (s_canEnd (by omega) (by omega)) ?_
  refine z_ifb_eq rfl (fun h5 => ?_) (fun h5 => ?_)
  · refine z_aload_n rfl rfl ?_
    refine z_aload_n rfl rfl ?_
    refine z_aload_n rfl rfl ?_
    refine z_getR rfl rfl rfl rfl ?_
    refine z_iload_n rfl rfl ?_
    refine z_iald rfl rfl (by omega) ?_
    refine z_callV2 rfl rfl rfl rfl rfl rfl (s_wayFrom (by omega) (by omega)) ?_
    rw [ef2]
    refine z_istore_n rfl rfl rfl ?_
    refine z_aload_n rfl rfl ?_
    refine z_aload_n rfl rfl ?_
    refine z_aload_n rfl rfl ?_
    refine z_getR rfl rfl rfl rfl ?_
    refine z_iload_n rfl rfl ?_
    refine z_iald rfl rfl (by omega) ?_
    refine z_callV2 rfl rfl rfl rfl rfl rfl (s_wayFrom (by omega) (by omega)) ?_
    rw [et2]
    refine z_istore rfl rfl rfl ?_
    refine z_iload_n rfl rfl ?_
    refine z_iconst rfl ?_
    refine z_icmp_ne rfl (by omega) (by omega) (fun h42 => ?_) (fun h42 => ?_)
    · refine z_iload_n rfl rfl ?_
      refine z_iconst rfl ?_
      refine z_icmp_eq rfl (by omega) (by omega) (fun h55 => ?_) (fun h55 => ?_)
      · refine z_aload_n rfl rfl ?_
        refine z_getR rfl rfl rfl rfl ?_
        refine z_iload_n rfl rfl ?_
        refine z_iald rfl rfl (by omega) ?_
        refine z_iload_n rfl rfl ?_
        refine z_iload rfl rfl ?_
        refine z_callS2 rfl rfl rfl rfl (s_max (by omega) (by omega)) ?_
        refine z_iadd rfl ?_
        exfalso; omega
      · refine z_iload rfl rfl ?_
        refine z_iconst rfl ?_
        refine z_icmp_ne rfl (by omega) (by omega) (fun h61 => ?_) (fun h61 => ?_)
        · refine z_aload_n rfl rfl ?_
          refine z_getR rfl rfl rfl rfl ?_
          refine z_iload_n rfl rfl ?_
          refine z_iald rfl rfl (by omega) ?_
          refine z_iload_n rfl rfl ?_
          refine z_iload rfl rfl ?_
          refine z_callS2 rfl rfl rfl rfl (s_min (by omega) (by omega)) ?_
          refine z_iadd rfl ?_
          rw [h5, if_neg (by decide), if_neg (fun z => h55 z.1), if_neg (fun z => z.elim h55 h61)] at eg
          exact z_iret rfl rfl ⟨by rw [eg], rfl, rfl⟩
        · refine z_aload_n rfl rfl ?_
          refine z_getR rfl rfl rfl rfl ?_
          refine z_iload_n rfl rfl ?_
          refine z_iald rfl rfl (by omega) ?_
          refine z_iload_n rfl rfl ?_
          refine z_iload rfl rfl ?_
          refine z_callS2 rfl rfl rfl rfl (s_max (by omega) (by omega)) ?_
          refine z_iadd rfl ?_
          rw [h5, if_neg (by decide), if_neg (fun z => h42 z.1), if_pos (Or.inr h61)] at eg
          exact z_iret rfl rfl ⟨by rw [eg], rfl, rfl⟩
    · refine z_iload rfl rfl ?_
      refine z_iconst rfl ?_
      refine z_icmp_ne rfl (by omega) (by omega) (fun h48 => ?_) (fun h48 => ?_)
      · refine z_iload_n rfl rfl ?_
        refine z_iconst rfl ?_
        refine z_icmp_eq rfl (by omega) (by omega) (fun h55 => ?_) (fun h55 => ?_)
        · refine z_aload_n rfl rfl ?_
          refine z_getR rfl rfl rfl rfl ?_
          refine z_iload_n rfl rfl ?_
          refine z_iald rfl rfl (by omega) ?_
          refine z_iload_n rfl rfl ?_
          refine z_iload rfl rfl ?_
          refine z_callS2 rfl rfl rfl rfl (s_max (by omega) (by omega)) ?_
          refine z_iadd rfl ?_
          rw [h5, if_neg (by decide), if_neg (fun z => h48 z.2), if_pos (Or.inl h55)] at eg
          exact z_iret rfl rfl ⟨by rw [eg], rfl, rfl⟩
        · refine z_iload rfl rfl ?_
          refine z_iconst rfl ?_
          refine z_icmp_ne rfl (by omega) (by omega) (fun h61 => ?_) (fun h61 => ?_)
          · refine z_aload_n rfl rfl ?_
            refine z_getR rfl rfl rfl rfl ?_
            refine z_iload_n rfl rfl ?_
            refine z_iald rfl rfl (by omega) ?_
            refine z_iload_n rfl rfl ?_
            refine z_iload rfl rfl ?_
            refine z_callS2 rfl rfl rfl rfl (s_min (by omega) (by omega)) ?_
            refine z_iadd rfl ?_
            rw [h5, if_neg (by decide), if_neg (fun z => h55 z.1), if_neg (fun z => z.elim h55 h61)] at eg
            exact z_iret rfl rfl ⟨by rw [eg], rfl, rfl⟩
          · refine z_aload_n rfl rfl ?_
            refine z_getR rfl rfl rfl rfl ?_
            refine z_iload_n rfl rfl ?_
            refine z_iald rfl rfl (by omega) ?_
            refine z_iload_n rfl rfl ?_
            refine z_iload rfl rfl ?_
            refine z_callS2 rfl rfl rfl rfl (s_max (by omega) (by omega)) ?_
            refine z_iadd rfl ?_
            rw [h5, if_neg (by decide), if_neg (fun z => h48 z.2), if_pos (Or.inr h61)] at eg
            exact z_iret rfl rfl ⟨by rw [eg], rfl, rfl⟩
      · refine z_iconst rfl ?_
        rw [h5, if_neg (by decide), if_pos ⟨h42, h48⟩] at eg
        exact z_iret rfl rfl ⟨by rw [eg], rfl, rfl⟩
  · refine z_aload_n rfl rfl ?_
    refine z_getR rfl rfl rfl rfl ?_
    refine z_iload_n rfl rfl ?_
    refine z_iald rfl rfl (by omega) ?_
    rw [h5, if_pos rfl] at eg
    exact z_iret rfl rfl ⟨by rw [eg], rfl, rfl⟩
theorem l_forget {Z : ZW} {J : Int64} {nb : Nat} (hnb : Z 14 0 = nb) (hnb2 : nb ≤ 24) : ∀ (d t : Nat) (Z' : ZW), t + d = nb → (∀ q, 0 ≤ q → q < (t : Int) → Z' 31 q = -1) → (∀ (k : Nat) (j : Int), k ≠ 31 → Z' k j = Z k j) → OkZ none 54 2 [some (.ref 24), some (.ref 13), some (.int (I t))] [] Z' J (fun r Z' J' => r = none ∧ J' = J ∧ RelW Z Z' (fun _ => -1) nb) := by
  intro d
  induction d with
  | zero =>
    intro t Z' ht h1 hf
    have e14 : Z' 14 0 = nb := by rw [hf 14 0 (by decide)]; exact hnb
    have e : t = nb := by omega
    subst e
    refine z_iload_n rfl rfl ?_
    refine z_aload_n rfl rfl ?_
    refine z_getI (bi := 0) rfl rfl rfl rfl ?_
    refine z_icmp_ge rfl (by omega) (by omega) (fun h7 => ?_) (fun h7 => ?_)
    · exact z_vret rfl rfl ⟨rfl, rfl, h1, hf⟩
    · omega
  | succ d ih =>
    intro t Z' ht h1 hf
    have e14 : Z' 14 0 = nb := by rw [hf 14 0 (by decide)]; exact hnb
    refine z_iload_n rfl rfl ?_
    refine z_aload_n rfl rfl ?_
    refine z_getI (bi := 0) rfl rfl rfl rfl ?_
    refine z_icmp_ge rfl (by omega) (by omega) (fun h7 => ?_) (fun h7 => ?_)
    · omega
    · refine z_aload_n rfl rfl ?_
      refine z_getR rfl rfl rfl rfl ?_
      refine z_iload_n rfl rfl ?_
      refine z_iconst rfl ?_
      refine z_iast rfl rfl (by omega) ?_
      refine z_iinc rfl rfl rfl rfl ?_
      refine z_goto rfl ?_
      refine ih (t + 1) _ (by omega) ?_ ?_
      · intro q q0 q1
        by_cases hq : q = t
        · simp [up, hq]
        · simp only [up]; rw [if_neg (fun z => hq z.2)]; exact h1 q q0 (by omega)
      · intro k j hk
        simp only [up]; rw [if_neg (fun q => hk q.1)]; exact hf k j hk
theorem s_forget {Z : ZW} {J : Int64} {nb : Nat} (hnb : Z 14 0 = nb) (hnb2 : nb ≤ 24) : Mz 54 [.ref 24, .ref 13] Z J (fun r Z' J' => r = none ∧ J' = J ∧ RelW Z Z' (fun _ => -1) nb) := by
  unfold Mz
  refine z_iconst rfl ?_
  refine z_istore_n rfl rfl rfl ?_
  exact l_forget hnb hnb2 nb 0 Z (by omega) (fun q q0 q1 => absurd q1 (by omega)) (fun _ _ _ => rfl)
theorem stg_in {Z0 : ZW} {nb : Nat} {B k : Int} {W : FI} (hFT : FTok (Z0 17) (Z0 18) (Z0 25) nb) (h : wB nb B W) (hB : 0 ≤ B) (h0 : 0 ≤ k) (h1 : k < nb) : wB nb (B + 216) ((gs (gfr (Z0 25) (Z0 17) (Z0 18) nb)) W k) := by
  unfold gs
  split
  · exact wB_up h (gfr_in hFT h hB h0 h1)
  · exact wB_mono h (by omega)
theorem wIg_in {Z0 : ZW} {nb : Nat} (hFT : FTok (Z0 17) (Z0 18) (Z0 25) nb) : ∀ (k : Nat) (B : Int) (W : FI), k ≤ nb → wB nb B W → 0 ≤ B → wB nb (B + 216 * k) (wI (gs (gfr (Z0 25) (Z0 17) (Z0 18) nb)) k W) := by
  intro k
  induction k with
  | zero => intro B W _ h _; exact wB_mono h (by omega)
  | succ k ih =>
    intro B W hk h hB
    exact wB_mono (ih (B + 216) _ (by omega) (stg_in hFT h hB (by omega) (by omega)) (by omega)) (by omega)
set_option maxHeartbeats 4000000 in
theorem l_gin {Z0 : ZW} {J : Int64} {nb : Nat} {Φ : ZΦ} {x3 : Int} (hnb : Z0 14 0 = nb) (hnb2 : nb ≤ 24) (hFT : FTok (Z0 17) (Z0 18) (Z0 25) nb) : ∀ (k : Nat) (W : FI) (c : Bool) (B : Int) (x5 : Option Value) (Z' : ZW), k ≤ nb → wB nb B W → 0 ≤ B → B + 216 * k ≤ 1000000 → RelW Z0 Z' W nb →
    (∀ (Z2 : ZW) (y5 : Option Value), RelW Z0 Z2 (wI (gs (gfr (Z0 25) (Z0 17) (Z0 18) nb)) k W) nb → OkZ none 58 83 [some (.ref 24), some (.ref 13), some (bI (wC (gs (gfr (Z0 25) (Z0 17) (Z0 18) nb)) (gsB (gfr (Z0 25) (Z0 17) (Z0 18) nb)) k W c)), some (.int (I x3)), some (.int (I (-1))), y5] [] Z2 J Φ) →
    OkZ none 58 31 [some (.ref 24), some (.ref 13), some (bI c), some (.int (I x3)), some (.int (I ((k : Int) - 1))), x5] [] Z' J Φ := by
  intro k
  induction k with
  | zero =>
    intro W c B x5 Z' _ _ _ _ hR hk
    refine z_iload rfl rfl ?_
    refine z_if_lt rfl (by omega) (fun h33 => ?_) (fun h33 => ?_)
    · exact hk Z' x5 hR
    · exfalso; omega
  | succ k ih =>
    intro W c B x5 Z' hkn hW hB0 hB hR hk
    have e14 : Z' 14 0 = nb := by rw [hR.2 14 0 (by decide)]; exact hnb
    have ek : ((k + 1 : Nat) : Int) - 1 = k := by omega
    rw [ek]
    have e17 : Z' 17 = Z0 17 := by funext j; exact hR.2 17 j (by decide)
    have e18 : Z' 18 = Z0 18 := by funext j; exact hR.2 18 j (by decide)
    have e25 : Z' 25 = Z0 25 := by funext j; exact hR.2 25 j (by decide)
    have e8 : enB Z' = enB Z0 := by funext p; exact enB_congr (hR.2 14 _ (by decide))
    have e31 : Z' 31 k = W k := hR.1 k (by omega) (by omega)
    have hWk := hW k (by omega) (by omega)
    have hfr := gfr_in  hFT hW hB0 (show (0 : Int) ≤ k by omega) (show (k : Int) < nb by omega)
    obtain ⟨v, ev⟩ : ∃ v, v = (gfr (Z0 25) (Z0 17) (Z0 18) nb) W k := ⟨_, rfl⟩
    rw [← ev] at hfr
    have hcall : D 57 [.ref 24, .ref 13, .int (I (k : Int))] Z' J (some (.int (I v))) Z' J := by
      have hW' : wB nb B (Z' 31) := fun b b0 b1 => by rw [hR.1 b b0 b1]; exact hW b b0 b1
      have := s_gfrom (Z := Z') (J := J) (nb := nb) (B := B) (b := k) e14 hnb2 (by rw [e17, e18, e25]; exact hFT) (by omega) hW' (by omega)
      rw [e17, e18, e25] at this
      have e9 : (gfr (Z0 25) (Z0 17) (Z0 18) nb) (Z' 31) k = (gfr (Z0 25) (Z0 17) (Z0 18) nb) W k := by
        unfold gfr gf1
        rw [wy_rel hR, wy_rel hR]
      rwa [e9, ← ev] at this
    have hin := stg_in (k := (k : Int)) hFT hW hB0 (by omega) (by omega)
    have K60 : ∀ u, u = (if W k = -1 then v else -1) → OkZ none 58 60 [some (.ref 24), some (.ref 13), some (bI c), some (.int (I x3)), some (.int (I (k : Int))), some (.int (I u))] [] Z' J Φ := by
      intro u hu
      have hur : RG u := by rw [hu]; unfold RG; split <;> omega
      refine z_iload rfl rfl ?_
      refine z_iconst rfl ?_
      refine z_icmp_eq rfl (by omega) (by omega) (fun h63 => ?_) (fun h63 => ?_)
      · refine z_iinc rfl rfl rfl rfl ?_
        refine z_goto rfl ?_
        have hsb : gsB (gfr (Z0 25) (Z0 17) (Z0 18) nb) W k = false := by unfold gsB; rw [← ev]; apply decide_eq_false; intro z; rw [if_pos z.1] at hu; exact z.2 (by rw [← hu]; exact h63)
        have hst : gs (gfr (Z0 25) (Z0 17) (Z0 18) nb) W k = W := by unfold gs; rw [hsb]; rfl
        rw [hst] at hin
        have hk2 : ∀ (Z2 : ZW) (y5 : Option Value), RelW Z0 Z2 (wI (gs (gfr (Z0 25) (Z0 17) (Z0 18) nb)) k W) nb → OkZ none 58 83 [some (.ref 24), some (.ref 13), some (bI (wC (gs (gfr (Z0 25) (Z0 17) (Z0 18) nb)) (gsB (gfr (Z0 25) (Z0 17) (Z0 18) nb)) k W c)), some (.int (I x3)), some (.int (I (-1))), y5] [] Z2 J Φ := by
          intro Z2 y5 h2
          have q := hk Z2 y5
          rw [show wI (gs (gfr (Z0 25) (Z0 17) (Z0 18) nb)) (k + 1) W = wI (gs (gfr (Z0 25) (Z0 17) (Z0 18) nb)) k ((gs (gfr (Z0 25) (Z0 17) (Z0 18) nb)) W k) from rfl, show wC (gs (gfr (Z0 25) (Z0 17) (Z0 18) nb)) (gsB (gfr (Z0 25) (Z0 17) (Z0 18) nb)) (k + 1) W c = wC (gs (gfr (Z0 25) (Z0 17) (Z0 18) nb)) (gsB (gfr (Z0 25) (Z0 17) (Z0 18) nb)) k ((gs (gfr (Z0 25) (Z0 17) (Z0 18) nb)) W k) (c || (gsB (gfr (Z0 25) (Z0 17) (Z0 18) nb)) W k) from rfl, hst, hsb, Bool.or_false] at q
          exact q h2
        exact ih W c (B + 216) _ Z' (by omega) hin (by omega) (by omega) hR hk2
      · refine z_aload_n rfl rfl ?_
        refine z_getR rfl rfl rfl rfl ?_
        refine z_iload rfl rfl ?_
        refine z_iload rfl rfl ?_
        refine z_iast rfl rfl (by omega) ?_
        refine z_iconst rfl ?_
        refine z_istore_n rfl rfl rfl ?_
        refine z_iinc rfl rfl rfl rfl ?_
        refine z_goto rfl ?_
        have hW1 : W k = -1 := Decidable.byContradiction (fun z => h63 (by rw [hu, if_neg z]))
        rw [if_pos hW1] at hu
        have hsb : gsB (gfr (Z0 25) (Z0 17) (Z0 18) nb) W k = true := by unfold gsB; rw [← ev, ← hu]; exact decide_eq_true ⟨hW1, h63⟩
        have hst : gs (gfr (Z0 25) (Z0 17) (Z0 18) nb) W k = updF W k v := by unfold gs; rw [hsb, ← ev]; rfl
        rw [hst] at hin
        rw [hu]
        have hk2 : ∀ (Z2 : ZW) (y5 : Option Value), RelW Z0 Z2 (wI (gs (gfr (Z0 25) (Z0 17) (Z0 18) nb)) k (updF W k v)) nb → OkZ none 58 83 [some (.ref 24), some (.ref 13), some (bI (wC (gs (gfr (Z0 25) (Z0 17) (Z0 18) nb)) (gsB (gfr (Z0 25) (Z0 17) (Z0 18) nb)) k (updF W k v) true)), some (.int (I x3)), some (.int (I (-1))), y5] [] Z2 J Φ := by
          intro Z2 y5 h2
          have q := hk Z2 y5
          rw [show wI (gs (gfr (Z0 25) (Z0 17) (Z0 18) nb)) (k + 1) W = wI (gs (gfr (Z0 25) (Z0 17) (Z0 18) nb)) k ((gs (gfr (Z0 25) (Z0 17) (Z0 18) nb)) W k) from rfl, show wC (gs (gfr (Z0 25) (Z0 17) (Z0 18) nb)) (gsB (gfr (Z0 25) (Z0 17) (Z0 18) nb)) (k + 1) W c = wC (gs (gfr (Z0 25) (Z0 17) (Z0 18) nb)) (gsB (gfr (Z0 25) (Z0 17) (Z0 18) nb)) k ((gs (gfr (Z0 25) (Z0 17) (Z0 18) nb)) W k) (c || (gsB (gfr (Z0 25) (Z0 17) (Z0 18) nb)) W k) from rfl, hst, hsb, Bool.or_true] at q
          exact q h2
        exact ih (updF W k v) true (B + 216) _ _ (by omega) hin (by omega) (by omega) (RelW_up hR k v) hk2
    refine z_iload rfl rfl ?_
    refine z_if_lt rfl (by omega) (fun h33 => ?_) (fun h33 => ?_)
    · exfalso; omega
    · refine z_aload_n rfl rfl ?_
      refine z_getR rfl rfl rfl rfl ?_
      refine z_iload rfl rfl ?_
      refine z_iald rfl rfl (by omega) ?_
      refine z_iconst rfl ?_
      refine z_icmp_ne rfl (by omega) (by omega) (fun h44 => ?_) (fun h44 => ?_)
      · refine z_iconst rfl ?_
        refine z_istore rfl rfl rfl ?_
        exact K60 _ (by rw [if_neg (by rw [← e31]; exact h44)])
      · refine z_aload_n rfl rfl ?_
        refine z_aload_n rfl rfl ?_
        refine z_iload rfl rfl ?_
        refine z_callV2 rfl rfl rfl rfl rfl rfl (hcall) ?_
        refine z_goto rfl ?_
        refine z_istore rfl rfl rfl ?_
        exact K60 _ (by rw [if_pos (by rw [← e31]; exact h44)])
theorem l_gout {Z0 : ZW} {J : Int64} {nb : Nat} {R : FI} (hnb : Z0 14 0 = nb) (hnb2 : nb ≤ 24) (hFT : FTok (Z0 17) (Z0 18) (Z0 25) nb) : ∀ (d t : Nat) (W : FI) (c : Bool) (B : Int) (x4 x5 : Option Value) (Z' : ZW), t + d = nb → wB nb B W → 0 ≤ B → B + 5184 * d ≤ 900000 → RelW Z0 Z' W nb → R = wR (gs (gfr (Z0 25) (Z0 17) (Z0 18) nb)) (gsB (gfr (Z0 25) (Z0 17) (Z0 18) nb)) nb d W c →
    OkZ none 58 9 [some (.ref 24), some (.ref 13), some (bI c), some (.int (I t)), x4, x5] [] Z' J (fun r Z' J' => J' = J ∧ r = some (.int (I (if nb = 0 then 0 else R 0))) ∧ ∀ (k : Nat) (j : Int), k ≠ 31 → Z' k j = Z0 k j) := by
  have hend : ∀ (W : FI) (Z' : ZW) (c : Bool) (t : Int) (x4 x5 : Option Value), RelW Z0 Z' W nb → R = W → OkZ none 58 89 [some (.ref 24), some (.ref 13), some (bI c), some (.int (I t)), x4, x5] [] Z' J (fun r Z' J' => J' = J ∧ r = some (.int (I (if nb = 0 then 0 else R 0))) ∧ ∀ (k : Nat) (j : Int), k ≠ 31 → Z' k j = Z0 k j) := by
    intro W Z' c t x4 x5 hR hRW
    have e14 : Z' 14 0 = nb := by rw [hR.2 14 0 (by decide)]; exact hnb
    refine z_aload_n rfl rfl ?_
    refine z_iconst rfl ?_
    refine z_callV1 rfl rfl rfl rfl rfl rfl (s_ghas (by omega) (by omega)) ?_
    refine z_ifb_eq rfl (fun h94 => ?_) (fun h94 => ?_)
    · refine z_iconst rfl ?_
      exact z_iret rfl rfl ⟨rfl, by rw [if_pos (Decidable.byContradiction (fun z => of_decide_eq_false h94 ⟨by omega, by omega⟩))], hR.2⟩
    · refine z_aload_n rfl rfl ?_
      refine z_getR rfl rfl rfl rfl ?_
      refine z_iconst rfl ?_
      refine z_iald rfl rfl (by omega) ?_
      refine z_goto rfl ?_
      exact z_iret rfl rfl ⟨rfl, by rw [if_neg (by have := of_decide_eq_true h94; omega), hRW, hR.1 0 (by omega) (by have := of_decide_eq_true h94; omega)], hR.2⟩
  intro d
  induction d with
  | zero =>
    intro t W c B x4 x5 Z' ht hW hB0 hB hR hRW
    have e14 : Z' 14 0 = nb := by rw [hR.2 14 0 (by decide)]; exact hnb
    refine z_iload_n rfl rfl ?_
    refine z_aload_n rfl rfl ?_
    refine z_getI (bi := 0) rfl rfl rfl rfl ?_
    refine z_icmp_ge rfl (by omega) (by omega) (fun h14 => ?_) (fun h14 => ?_)
    · exact hend W Z' c t x4 x5 hR hRW
    · exfalso; omega
  | succ d ih =>
    intro t W c B x4 x5 Z' ht hW hB0 hB hR hRW
    have e14 : Z' 14 0 = nb := by rw [hR.2 14 0 (by decide)]; exact hnb
    have hRW2 : R = if c then wR (gs (gfr (Z0 25) (Z0 17) (Z0 18) nb)) (gsB (gfr (Z0 25) (Z0 17) (Z0 18) nb)) nb d (wI (gs (gfr (Z0 25) (Z0 17) (Z0 18) nb)) nb W) (wC (gs (gfr (Z0 25) (Z0 17) (Z0 18) nb)) (gsB (gfr (Z0 25) (Z0 17) (Z0 18) nb)) nb W false) else W := hRW
    have hin := wIg_in (Z0 := Z0) hFT nb B W (Nat.le_refl _) hW hB0
    refine z_iload_n rfl rfl ?_
    refine z_aload_n rfl rfl ?_
    refine z_getI (bi := 0) rfl rfl rfl rfl ?_
    refine z_icmp_ge rfl (by omega) (by omega) (fun h14 => ?_) (fun h14 => ?_)
    · exfalso; omega
    · refine z_iload_n rfl rfl ?_
      refine z_ifb_eq rfl (fun h18 => ?_) (fun h18 => ?_)
      · rw [h18] at hRW2
        have hh := hend W Z' c t x4 x5 hR (by rw [hRW2]; rfl)
        exact hh
      · refine z_iconst rfl ?_
        refine z_istore_n rfl rfl rfl ?_
        refine z_aload_n rfl rfl ?_
        refine z_getI (bi := 0) rfl rfl rfl rfl ?_
        refine z_iconst rfl ?_
        refine z_isub rfl ?_
        refine z_istore rfl rfl rfl ?_
        rw [h18] at hRW2
        rw [e14]
        refine l_gin hnb hnb2 hFT nb W false B x5 Z' (Nat.le_refl _) hW hB0 (by omega) hR (fun Z2 y5 h2 => ?_)
        refine z_iinc rfl rfl rfl rfl ?_
        refine z_goto rfl ?_
        exact ih (t + 1) _ _ (B + 216 * nb) _ _ Z2 (by omega) hin (by omega) (by omega) h2 (by rw [hRW2]; rfl)
theorem s_gway {Z : ZW} {J : Int64} {nb : Nat} (hnb : Z 14 0 = nb) (hnb2 : nb ≤ 24) (hFT : FTok (Z 17) (Z 18) (Z 25) nb) : Mz 58 [.ref 24, .ref 13] Z J (fun r Z' J' => J' = J ∧ r = some (.int (I (if nb = 0 then 0 else wR (gs (gfr (Z 25) (Z 17) (Z 18) nb)) (gsB (gfr (Z 25) (Z 17) (Z 18) nb)) nb nb (fun _ => -1) true 0))) ∧ ∀ (k : Nat) (j : Int), k ≠ 31 → Z' k j = Z k j) := by
  unfold Mz
  refine z_aload_n rfl rfl ?_
  refine z_aload_n rfl rfl ?_
  refine z_callV1g rfl rfl rfl rfl rfl rfl (s_forget hnb hnb2) (fun r2 Z2 J2 q2 => ?_)
  obtain ⟨rfl, rfl, hR⟩ := q2
  show OkZ none 58 5 _ [] _ _ _
  refine z_iconst rfl ?_
  refine z_istore_n rfl rfl rfl ?_
  refine z_iconst rfl ?_
  refine z_istore_n rfl rfl rfl ?_
  exact l_gout hnb hnb2 hFT nb 0 (fun _ => -1) true 0 _ _ Z2 (by omega) (fun b _ _ => by dsimp only; omega) (by omega) (by omega) hR rfl
theorem stl_in {Z0 : ZW} {nb : Nat} {B k : Int} {W : FI} (hFT : FTok (Z0 17) (Z0 18) (Z0 25) nb) (h : wB nb B W) (hB : 0 ≤ B) (h0 : 0 ≤ k) (h1 : k < nb) : wB nb (B + 216) ((ls (lfr (Z0 25) (Z0 17) (Z0 18) (enB Z0) nb)) W k) := by
  unfold ls
  split
  · exact wB_up h (lfr_in hFT h hB h0 h1)
  · exact wB_mono h (by omega)
theorem wIl_in {Z0 : ZW} {nb : Nat} (hFT : FTok (Z0 17) (Z0 18) (Z0 25) nb) : ∀ (k : Nat) (B : Int) (W : FI), k ≤ nb → wB nb B W → 0 ≤ B → wB nb (B + 216 * k) (wI (ls (lfr (Z0 25) (Z0 17) (Z0 18) (enB Z0) nb)) k W) := by
  intro k
  induction k with
  | zero => intro B W _ h _; exact wB_mono h (by omega)
  | succ k ih =>
    intro B W hk h hB
    exact wB_mono (ih (B + 216) _ (by omega) (stl_in hFT h hB (by omega) (by omega)) (by omega)) (by omega)
set_option maxHeartbeats 4000000 in
theorem l_lin {Z0 : ZW} {J : Int64} {nb : Nat} {Φ : ZΦ} {x3 : Int} (hnb : Z0 14 0 = nb) (hnb2 : nb ≤ 24) (hFT : FTok (Z0 17) (Z0 18) (Z0 25) nb) : ∀ (k : Nat) (W : FI) (c : Bool) (B : Int) (x5 : Option Value) (Z' : ZW), k ≤ nb → wB nb B W → 0 ≤ B → B + 216 * k ≤ 1000000 → RelW Z0 Z' W nb →
    (∀ (Z2 : ZW) (y5 : Option Value), RelW Z0 Z2 (wI (ls (lfr (Z0 25) (Z0 17) (Z0 18) (enB Z0) nb)) k W) nb → OkZ none 60 74 [some (.ref 24), some (.ref 13), some (bI (wC (ls (lfr (Z0 25) (Z0 17) (Z0 18) (enB Z0) nb)) (lsB (lfr (Z0 25) (Z0 17) (Z0 18) (enB Z0) nb)) k W c)), some (.int (I x3)), some (.int (I (-1))), y5] [] Z2 J Φ) →
    OkZ none 60 31 [some (.ref 24), some (.ref 13), some (bI c), some (.int (I x3)), some (.int (I ((k : Int) - 1))), x5] [] Z' J Φ := by
  intro k
  induction k with
  | zero =>
    intro W c B x5 Z' _ _ _ _ hR hk
    refine z_iload rfl rfl ?_
    refine z_if_lt rfl (by omega) (fun h33 => ?_) (fun h33 => ?_)
    · exact hk Z' x5 hR
    · exfalso; omega
  | succ k ih =>
    intro W c B x5 Z' hkn hW hB0 hB hR hk
    have e14 : Z' 14 0 = nb := by rw [hR.2 14 0 (by decide)]; exact hnb
    have ek : ((k + 1 : Nat) : Int) - 1 = k := by omega
    rw [ek]
    have e17 : Z' 17 = Z0 17 := by funext j; exact hR.2 17 j (by decide)
    have e18 : Z' 18 = Z0 18 := by funext j; exact hR.2 18 j (by decide)
    have e25 : Z' 25 = Z0 25 := by funext j; exact hR.2 25 j (by decide)
    have e8 : enB Z' = enB Z0 := by funext p; exact enB_congr (hR.2 14 _ (by decide))
    have e31 : Z' 31 k = W k := hR.1 k (by omega) (by omega)
    have hWk := hW k (by omega) (by omega)
    have hfr := lfr_in (E := enB Z0) hFT hW hB0 (show (0 : Int) ≤ k by omega) (show (k : Int) < nb by omega)
    obtain ⟨v, ev⟩ : ∃ v, v = (lfr (Z0 25) (Z0 17) (Z0 18) (enB Z0) nb) W k := ⟨_, rfl⟩
    rw [← ev] at hfr
    have hcall : D 59 [.ref 24, .ref 13, .int (I (k : Int))] Z' J (some (.int (I v))) Z' J := by
      have hW' : wB nb B (Z' 31) := fun b b0 b1 => by rw [hR.1 b b0 b1]; exact hW b b0 b1
      have := s_lfrom (Z := Z') (J := J) (nb := nb) (B := B) (b := k) e14 hnb2 (by rw [e17, e18, e25]; exact hFT) (by omega) hW' (by omega)
      rw [e17, e18, e25, e8] at this
      have e9 : (lfr (Z0 25) (Z0 17) (Z0 18) (enB Z0) nb) (Z' 31) k = (lfr (Z0 25) (Z0 17) (Z0 18) (enB Z0) nb) W k := by
        unfold lfr
        rw [wy_rel hR, wy_rel hR]
      rwa [e9, ← ev] at this
    have hin := stl_in (k := (k : Int)) hFT hW hB0 (by omega) (by omega)
    refine z_iload rfl rfl ?_
    refine z_if_lt rfl (by omega) (fun h33 => ?_) (fun h33 => ?_)
    · exfalso; omega
    · refine z_aload_n rfl rfl ?_
      refine z_aload_n rfl rfl ?_
      refine z_iload rfl rfl ?_
      refine z_callV2 rfl rfl rfl rfl rfl rfl (hcall) ?_
      refine z_istore rfl rfl rfl ?_
      refine z_iload rfl rfl ?_
      refine z_aload_n rfl rfl ?_
      refine z_getR rfl rfl rfl rfl ?_
      refine z_iload rfl rfl ?_
      refine z_iald rfl rfl (by omega) ?_
      refine z_icmp_eq rfl (by omega) (by omega) (fun h54 => ?_) (fun h54 => ?_)
      · refine z_iinc rfl rfl rfl rfl ?_
        refine z_goto rfl ?_
        have hsb : lsB (lfr (Z0 25) (Z0 17) (Z0 18) (enB Z0) nb) W k = false := by unfold lsB; rw [← ev]; exact decide_eq_false (fun z => z (by rw [← e31]; exact h54))
        have hst : ls (lfr (Z0 25) (Z0 17) (Z0 18) (enB Z0) nb) W k = W := by unfold ls; rw [hsb]; rfl
        rw [hst] at hin
        have hk2 : ∀ (Z2 : ZW) (y5 : Option Value), RelW Z0 Z2 (wI (ls (lfr (Z0 25) (Z0 17) (Z0 18) (enB Z0) nb)) k W) nb → OkZ none 60 74 [some (.ref 24), some (.ref 13), some (bI (wC (ls (lfr (Z0 25) (Z0 17) (Z0 18) (enB Z0) nb)) (lsB (lfr (Z0 25) (Z0 17) (Z0 18) (enB Z0) nb)) k W c)), some (.int (I x3)), some (.int (I (-1))), y5] [] Z2 J Φ := by
          intro Z2 y5 h2
          have q := hk Z2 y5
          rw [show wI (ls (lfr (Z0 25) (Z0 17) (Z0 18) (enB Z0) nb)) (k + 1) W = wI (ls (lfr (Z0 25) (Z0 17) (Z0 18) (enB Z0) nb)) k ((ls (lfr (Z0 25) (Z0 17) (Z0 18) (enB Z0) nb)) W k) from rfl, show wC (ls (lfr (Z0 25) (Z0 17) (Z0 18) (enB Z0) nb)) (lsB (lfr (Z0 25) (Z0 17) (Z0 18) (enB Z0) nb)) (k + 1) W c = wC (ls (lfr (Z0 25) (Z0 17) (Z0 18) (enB Z0) nb)) (lsB (lfr (Z0 25) (Z0 17) (Z0 18) (enB Z0) nb)) k ((ls (lfr (Z0 25) (Z0 17) (Z0 18) (enB Z0) nb)) W k) (c || (lsB (lfr (Z0 25) (Z0 17) (Z0 18) (enB Z0) nb)) W k) from rfl, hst, hsb, Bool.or_false] at q
          exact q h2
        exact ih W c (B + 216) _ Z' (by omega) hin (by omega) (by omega) hR hk2
      · refine z_aload_n rfl rfl ?_
        refine z_getR rfl rfl rfl rfl ?_
        refine z_iload rfl rfl ?_
        refine z_iload rfl rfl ?_
        refine z_iast rfl rfl (by omega) ?_
        refine z_iconst rfl ?_
        refine z_istore_n rfl rfl rfl ?_
        refine z_iinc rfl rfl rfl rfl ?_
        refine z_goto rfl ?_
        have hsb : lsB (lfr (Z0 25) (Z0 17) (Z0 18) (enB Z0) nb) W k = true := by unfold lsB; rw [← ev]; exact decide_eq_true (fun z => h54 (by rw [e31]; exact z))
        have hst : ls (lfr (Z0 25) (Z0 17) (Z0 18) (enB Z0) nb) W k = updF W k v := by unfold ls; rw [hsb, ← ev]; rfl
        rw [hst] at hin
        have hk2 : ∀ (Z2 : ZW) (y5 : Option Value), RelW Z0 Z2 (wI (ls (lfr (Z0 25) (Z0 17) (Z0 18) (enB Z0) nb)) k (updF W k v)) nb → OkZ none 60 74 [some (.ref 24), some (.ref 13), some (bI (wC (ls (lfr (Z0 25) (Z0 17) (Z0 18) (enB Z0) nb)) (lsB (lfr (Z0 25) (Z0 17) (Z0 18) (enB Z0) nb)) k (updF W k v) true)), some (.int (I x3)), some (.int (I (-1))), y5] [] Z2 J Φ := by
          intro Z2 y5 h2
          have q := hk Z2 y5
          rw [show wI (ls (lfr (Z0 25) (Z0 17) (Z0 18) (enB Z0) nb)) (k + 1) W = wI (ls (lfr (Z0 25) (Z0 17) (Z0 18) (enB Z0) nb)) k ((ls (lfr (Z0 25) (Z0 17) (Z0 18) (enB Z0) nb)) W k) from rfl, show wC (ls (lfr (Z0 25) (Z0 17) (Z0 18) (enB Z0) nb)) (lsB (lfr (Z0 25) (Z0 17) (Z0 18) (enB Z0) nb)) (k + 1) W c = wC (ls (lfr (Z0 25) (Z0 17) (Z0 18) (enB Z0) nb)) (lsB (lfr (Z0 25) (Z0 17) (Z0 18) (enB Z0) nb)) k ((ls (lfr (Z0 25) (Z0 17) (Z0 18) (enB Z0) nb)) W k) (c || (lsB (lfr (Z0 25) (Z0 17) (Z0 18) (enB Z0) nb)) W k) from rfl, hst, hsb, Bool.or_true] at q
          exact q h2
        exact ih (updF W k v) true (B + 216) _ _ (by omega) hin (by omega) (by omega) (RelW_up hR k v) hk2
theorem l_lout {Z0 : ZW} {J : Int64} {nb : Nat} {R : FI} (hnb : Z0 14 0 = nb) (hnb2 : nb ≤ 24) (hFT : FTok (Z0 17) (Z0 18) (Z0 25) nb) : ∀ (d t : Nat) (W : FI) (c : Bool) (B : Int) (x4 x5 : Option Value) (Z' : ZW), t + d = nb → wB nb B W → 0 ≤ B → B + 5184 * d ≤ 900000 → RelW Z0 Z' W nb → R = wR (ls (lfr (Z0 25) (Z0 17) (Z0 18) (enB Z0) nb)) (lsB (lfr (Z0 25) (Z0 17) (Z0 18) (enB Z0) nb)) nb d W c →
    OkZ none 60 9 [some (.ref 24), some (.ref 13), some (bI c), some (.int (I t)), x4, x5] [] Z' J (fun r Z' J' => J' = J ∧ r = some (.int (I (if nb = 0 then 0 else R 0))) ∧ ∀ (k : Nat) (j : Int), k ≠ 31 → Z' k j = Z0 k j) := by
  have hend : ∀ (W : FI) (Z' : ZW) (c : Bool) (t : Int) (x4 x5 : Option Value), RelW Z0 Z' W nb → R = W → OkZ none 60 80 [some (.ref 24), some (.ref 13), some (bI c), some (.int (I t)), x4, x5] [] Z' J (fun r Z' J' => J' = J ∧ r = some (.int (I (if nb = 0 then 0 else R 0))) ∧ ∀ (k : Nat) (j : Int), k ≠ 31 → Z' k j = Z0 k j) := by
    intro W Z' c t x4 x5 hR hRW
    have e14 : Z' 14 0 = nb := by rw [hR.2 14 0 (by decide)]; exact hnb
    refine z_aload_n rfl rfl ?_
    refine z_iconst rfl ?_
    refine z_callV1 rfl rfl rfl rfl rfl rfl (s_ghas (by omega) (by omega)) ?_
    refine z_ifb_eq rfl (fun h85 => ?_) (fun h85 => ?_)
    · refine z_iconst rfl ?_
      exact z_iret rfl rfl ⟨rfl, by rw [if_pos (Decidable.byContradiction (fun z => of_decide_eq_false h85 ⟨by omega, by omega⟩))], hR.2⟩
    · refine z_aload_n rfl rfl ?_
      refine z_getR rfl rfl rfl rfl ?_
      refine z_iconst rfl ?_
      refine z_iald rfl rfl (by omega) ?_
      refine z_goto rfl ?_
      exact z_iret rfl rfl ⟨rfl, by rw [if_neg (by have := of_decide_eq_true h85; omega), hRW, hR.1 0 (by omega) (by have := of_decide_eq_true h85; omega)], hR.2⟩
  intro d
  induction d with
  | zero =>
    intro t W c B x4 x5 Z' ht hW hB0 hB hR hRW
    have e14 : Z' 14 0 = nb := by rw [hR.2 14 0 (by decide)]; exact hnb
    refine z_iload_n rfl rfl ?_
    refine z_aload_n rfl rfl ?_
    refine z_getI (bi := 0) rfl rfl rfl rfl ?_
    refine z_icmp_ge rfl (by omega) (by omega) (fun h14 => ?_) (fun h14 => ?_)
    · exact hend W Z' c t x4 x5 hR hRW
    · exfalso; omega
  | succ d ih =>
    intro t W c B x4 x5 Z' ht hW hB0 hB hR hRW
    have e14 : Z' 14 0 = nb := by rw [hR.2 14 0 (by decide)]; exact hnb
    have hRW2 : R = if c then wR (ls (lfr (Z0 25) (Z0 17) (Z0 18) (enB Z0) nb)) (lsB (lfr (Z0 25) (Z0 17) (Z0 18) (enB Z0) nb)) nb d (wI (ls (lfr (Z0 25) (Z0 17) (Z0 18) (enB Z0) nb)) nb W) (wC (ls (lfr (Z0 25) (Z0 17) (Z0 18) (enB Z0) nb)) (lsB (lfr (Z0 25) (Z0 17) (Z0 18) (enB Z0) nb)) nb W false) else W := hRW
    have hin := wIl_in (Z0 := Z0) hFT nb B W (Nat.le_refl _) hW hB0
    refine z_iload_n rfl rfl ?_
    refine z_aload_n rfl rfl ?_
    refine z_getI (bi := 0) rfl rfl rfl rfl ?_
    refine z_icmp_ge rfl (by omega) (by omega) (fun h14 => ?_) (fun h14 => ?_)
    · exfalso; omega
    · refine z_iload_n rfl rfl ?_
      refine z_ifb_eq rfl (fun h18 => ?_) (fun h18 => ?_)
      · rw [h18] at hRW2
        have hh := hend W Z' c t x4 x5 hR (by rw [hRW2]; rfl)
        exact hh
      · refine z_iconst rfl ?_
        refine z_istore_n rfl rfl rfl ?_
        refine z_aload_n rfl rfl ?_
        refine z_getI (bi := 0) rfl rfl rfl rfl ?_
        refine z_iconst rfl ?_
        refine z_isub rfl ?_
        refine z_istore rfl rfl rfl ?_
        rw [h18] at hRW2
        rw [e14]
        refine l_lin hnb hnb2 hFT nb W false B x5 Z' (Nat.le_refl _) hW hB0 (by omega) hR (fun Z2 y5 h2 => ?_)
        refine z_iinc rfl rfl rfl rfl ?_
        refine z_goto rfl ?_
        exact ih (t + 1) _ _ (B + 216 * nb) _ _ Z2 (by omega) hin (by omega) (by omega) h2 (by rw [hRW2]; rfl)
theorem s_lway {Z : ZW} {J : Int64} {nb : Nat} (hnb : Z 14 0 = nb) (hnb2 : nb ≤ 24) (hFT : FTok (Z 17) (Z 18) (Z 25) nb) : Mz 60 [.ref 24, .ref 13] Z J (fun r Z' J' => J' = J ∧ r = some (.int (I (if nb = 0 then 0 else wR (ls (lfr (Z 25) (Z 17) (Z 18) (enB Z) nb)) (lsB (lfr (Z 25) (Z 17) (Z 18) (enB Z) nb)) nb nb (fun _ => -1) true 0))) ∧ ∀ (k : Nat) (j : Int), k ≠ 31 → Z' k j = Z k j) := by
  unfold Mz
  refine z_aload_n rfl rfl ?_
  refine z_aload_n rfl rfl ?_
  refine z_callV1g rfl rfl rfl rfl rfl rfl (s_forget hnb hnb2) (fun r2 Z2 J2 q2 => ?_)
  obtain ⟨rfl, rfl, hR⟩ := q2
  show OkZ none 60 5 _ [] _ _ _
  refine z_iconst rfl ?_
  refine z_istore_n rfl rfl rfl ?_
  refine z_iconst rfl ?_
  refine z_istore_n rfl rfl rfl ?_
  exact l_lout hnb hnb2 hFT nb 0 (fun _ => -1) true 0 _ _ Z2 (by omega) (fun b _ _ => by dsimp only; omega) (by omega) (by omega) hR rfl
end
section
/-! the class: Prices.update, analyse -/
def gC (co op rb : FI) (n : Nat) (b : Int) : Int := bcF (fun i => co (op i)) (gblk op rb n) n b
def gK (co op rb : FI) (n : Nat) (h : Int) : Int := ccF (gH op rb n) (gC co op rb n) (gnb op rb n) h
def gG (co op rb : FI) (n : Nat) : Int := if gnb op rb n = 0 then 0 else wR (gs (gfr (gC co op rb n) (gF op rb n) (gT op rb n) (gnb op rb n))) (gsB (gfr (gC co op rb n) (gF op rb n) (gT op rb n) (gnb op rb n))) (gnb op rb n) (gnb op rb n) (fun _ => -1) true 0
def gL (co op rb : FI) (n : Nat) : Int := if gnb op rb n = 0 then 0 else wR (ls (lfr (gC co op rb n) (gF op rb n) (gT op rb n) (gE op rb n) (gnb op rb n))) (lsB (lfr (gC co op rb n) (gF op rb n) (gT op rb n) (gE op rb n) (gnb op rb n))) (gnb op rb n) (gnb op rb n) (fun _ => -1) true 0
def gBE (co op rb : FI) (n : Nat) : FI := beF (gst op rb n) (gC co op rb n) (gnb op rb n)
def gCE (co op rb : FI) (n : Nat) : FI := beF (gst op rb n) (fun b => if gH op rb n b = b then gK co op rb n (gH op rb n b) else 0) (gnb op rb n)
theorem bcF_congr {ic bl ic' bl' : FI} {n : Nat} (h : ∀ t : Nat, t < n → ic t = ic' t ∧ bl t = bl' t) (b : Int) : bcF ic bl n b = bcF ic' bl' n b := by
  induction n with
  | zero => rfl
  | succ t ih =>
    have h1 := h t (by omega)
    have h2 := ih (fun s hs => h s (by omega))
    simp only [bcF, h1.1, h1.2, h2]
theorem ccF_congr {H C H' C' : FI} {n : Nat} (h : ∀ t : Nat, t < n → H t = H' t ∧ C t = C' t) (b : Int) : ccF H C n b = ccF H' C' n b := by
  induction n with
  | zero => rfl
  | succ t ih =>
    have h1 := h t (by omega)
    have h2 := ih (fun s hs => h s (by omega))
    simp only [ccF, h1.1, h1.2, h2]
theorem beF_congr {H C H' C' : FI} {n : Nat} (h : ∀ t : Nat, t < n → H t = H' t ∧ C t = C' t) (b : Int) : beF H C n b = beF H' C' n b := by
  induction n with
  | zero => rfl
  | succ t ih =>
    have h1 := h t (by omega)
    have h2 := ih (fun s hs => h s (by omega))
    simp only [beF, h1.1, h1.2, h2]
theorem wI_congr {st st' : FI → Int → FI} {nb : Nat} (h : ∀ (W : FI) (t : Nat), t < nb → st W t = st' W t) : ∀ (k : Nat) (W : FI), k ≤ nb → wI st k W = wI st' k W := by
  intro k
  induction k with
  | zero => intro W _; rfl
  | succ k ih => intro W hk; simp only [wI]; rw [h W k (by omega), ih _ (by omega)]
theorem wC_congr {st st' : FI → Int → FI} {sb sb' : FI → Int → Bool} {nb : Nat} (h : ∀ (W : FI) (t : Nat), t < nb → st W t = st' W t ∧ sb W t = sb' W t) : ∀ (k : Nat) (W : FI) (c : Bool), k ≤ nb → wC st sb k W c = wC st' sb' k W c := by
  intro k
  induction k with
  | zero => intro W c _; rfl
  | succ k ih => intro W c hk; simp only [wC]; rw [(h W k (by omega)).1, (h W k (by omega)).2, ih _ _ (by omega)]
theorem wR_congr {st st' : FI → Int → FI} {sb sb' : FI → Int → Bool} {nb : Nat} (h : ∀ (W : FI) (t : Nat), t < nb → st W t = st' W t ∧ sb W t = sb' W t) : ∀ (d : Nat) (W : FI) (c : Bool), wR st sb nb d W c = wR st' sb' nb d W c := by
  intro d
  induction d with
  | zero => intro W c; rfl
  | succ d ih => intro W c; simp only [wR]; rw [wI_congr (fun W t ht => (h W t ht).1) nb W (Nat.le_refl _), wC_congr h nb W false (Nat.le_refl _), ih]
theorem gs_congr {f f' : FI → FI} {W : FI} {k : Int} (h : f W k = f' W k) : gs f W k = gs f' W k ∧ gsB f W k = gsB f' W k := by
  have e : gsB f W k = gsB f' W k := by unfold gsB; rw [h]
  exact ⟨by unfold gs; rw [e, h], e⟩
theorem ls_congr {f f' : FI → FI} {W : FI} {k : Int} (h : f W k = f' W k) : ls f W k = ls f' W k ∧ lsB f W k = lsB f' W k := by
  have e : lsB f W k = lsB f' W k := by unfold lsB; rw [h]
  exact ⟨by unfold ls; rw [e, h], e⟩
theorem gfr_at {C F T C' F' T' : FI} {nb : Nat} {W : FI} {b : Int} (h1 : C b = C' b) (h2 : F b = F' b) (h3 : T b = T' b) : gfr C F T nb W b = gfr C' F' T' nb W b := by
  unfold gfr gf1
  rw [h1, h2, h3]
theorem lfr_at {C F T C' F' T' : FI} {E E' : Int → Bool} {nb : Nat} {W : FI} {b : Int} (h1 : C b = C' b) (h2 : F b = F' b) (h3 : T b = T' b) (h4 : E b = E' b) : lfr C F T E nb W b = lfr C' F' T' E' nb W b := by
  unfold lfr
  rw [h1, h2, h3]
  simp only [h4]
theorem wRg_congr {C F T C' F' T' : FI} {nb : Nat} (h : ∀ b, 0 ≤ b → b < (nb : Int) → C b = C' b ∧ F b = F' b ∧ T b = T' b) (d : Nat) (W : FI) (c : Bool) : wR (gs (gfr C F T nb)) (gsB (gfr C F T nb)) nb d W c = wR (gs (gfr C' F' T' nb)) (gsB (gfr C' F' T' nb)) nb d W c :=
  wR_congr (fun W t ht => gs_congr (gfr_at (h t (by omega) (by omega)).1 (h t (by omega) (by omega)).2.1 (h t (by omega) (by omega)).2.2)) d W c
theorem wRl_congr {C F T C' F' T' : FI} {E E' : Int → Bool} {nb : Nat} (h : ∀ b, 0 ≤ b → b < (nb : Int) → C b = C' b ∧ F b = F' b ∧ T b = T' b ∧ E b = E' b) (d : Nat) (W : FI) (c : Bool) : wR (ls (lfr C F T E nb)) (lsB (lfr C F T E nb)) nb d W c = wR (ls (lfr C' F' T' E' nb)) (lsB (lfr C' F' T' E' nb)) nb d W c :=
  wR_congr (fun W t ht => ls_congr (lfr_at (h t (by omega) (by omega)).1 (h t (by omega) (by omega)).2.1 (h t (by omega) (by omega)).2.2.1 (h t (by omega) (by omega)).2.2.2)) d W c
def PP (co op rb : FI) (n : Nat) (Z : ZW) : Prop := (∀ i, 0 ≤ i → i < (n : Int) → Z 27 i = co (op i) ∧ Z 29 i = gBE co op rb n i ∧ Z 30 i = gCE co op rb n i) ∧ (∀ b, 0 ≤ b → b < (gnb op rb n : Int) → Z 25 b = gC co op rb n b ∧ Z 26 b = gK co op rb n (gH op rb n b)) ∧ Z 24 0 = gG co op rb n ∧ Z 24 1 = gL co op rb n
/-- what is owed of the control flow itself: heads lie among the blocks and are their own; block costs are small -/
def GOK (co op rb : FI) (n : Nat) : Prop := ∀ b, 0 ≤ b → b < (gnb op rb n : Int) → (0 ≤ gH op rb n b ∧ gH op rb n b < gnb op rb n) ∧ gH op rb n (gH op rb n b) = gH op rb n b ∧ 1 ≤ gC co op rb n b ∧ gC co op rb n b ≤ 216
set_option maxHeartbeats 4000000 in
theorem s_pupdate {Z : ZW} {J : Int64} {n : Nat} {co op rb : FI} (h5 : Z 5 = op) (h8 : Z 8 = co) (hn : Z 4 0 = n) (hn2 : n ≤ 24) (hop : OPok op rb n) (hG : GP op rb n Z) (hK : GOK co op rb n) : Mz 61 [.ref 24, .ref 3, .ref 13] Z J (fun r Z' J' => r = none ∧ J' = J ∧ PP co op rb n Z' ∧ ∀ (k : Nat) (j : Int), (k < 24 ∨ k = 28 ∨ 31 < k) → Z' k j = Z k j) := by
  unfold Mz
  obtain ⟨g1, g2, g3, g4⟩ := hG
  have hg := gnb_le op rb n
  obtain ⟨nb, enb⟩ : ∃ nb, nb = gnb op rb n := ⟨_, rfl⟩
  rw [← enb] at g1 g4 hg
  refine z_aload_n rfl rfl ?_
  refine z_aload_n rfl rfl ?_
  refine z_aload_n rfl rfl ?_
  refine z_callV2g rfl rfl rfl rfl rfl rfl (s_sumI hn hn2 g1 (by omega) (fun i i0 i1 => by rw [h5]; exact ⟨(hop i i0 i1).1, (hop i i0 i1).2.1⟩) (fun i i0 i1 => by rw [g3 i i0 i1, enb]; exact gblk_in i0 i1)) (fun r3 Z3 J3 q3 => ?_)
  obtain ⟨rfl, rfl, a1, a2, a3⟩ := q3
  show OkZ none 61 6 _ [] _ _ _
  have b25 : ∀ b, 0 ≤ b → b < (nb : Int) → Z3 25 b = gC co op rb n b := by intro b b0 b1; rw [a2 b b0 b1]; exact bcF_congr (fun t ht => ⟨by rw [h5, h8], g3 t (by omega) (by omega)⟩) b
  have b27 : ∀ i, 0 ≤ i → i < (n : Int) → Z3 27 i = co (op i) := by intro i i0 i1; rw [a1 i i0 i1, h5, h8]
  have b14 : Z3 14 0 = nb := by rw [a3 14 0 (by decide) (by decide)]; exact g1
  have b20 : ∀ b, 0 ≤ b → b < (nb : Int) → Z3 20 b = gH op rb n b := by intro b b0 b1; rw [a3 20 _ (by decide) (by decide)]; exact (g4 b b0 b1).2.2.2.2.1
  refine z_aload_n rfl rfl ?_
  refine z_aload_n rfl rfl ?_
  refine z_callV1g rfl rfl rfl rfl rfl rfl (s_sumC b14 (by omega) (fun b b0 b1 => by rw [b20 b b0 b1, enb]; exact (hK b b0 (by rw [← enb]; exact b1)).1) (fun b b0 b1 => by have q := hK b b0 (by rw [← enb]; exact b1); rw [b20 b b0 b1, b20 _ q.1.1 (by rw [enb]; exact q.1.2)]; exact q.2.1)) (fun r8 Z8 J8 q8 => ?_)
  obtain ⟨rfl, rfl, c1, c2⟩ := q8
  show OkZ none 61 11 _ [] _ _ _
  have c26 : ∀ b, 0 ≤ b → b < (nb : Int) → Z8 26 b = gK co op rb n (gH op rb n b) := by intro b b0 b1; rw [c1 b b0 b1, b20 b b0 b1, gK, ← enb]; exact ccF_congr (fun t ht => ⟨b20 t (by omega) (by omega), b25 t (by omega) (by omega)⟩) _
  have c4 : Z8 4 0 = n := by rw [c2 4 0 (by decide), a3 4 0 (by decide) (by decide)]; exact hn
  have c14 : Z8 14 0 = nb := by rw [c2 14 0 (by decide)]; exact b14
  have c16 : ∀ b, 0 ≤ b → b < (nb : Int) → Z8 16 b = gst op rb n b := by intro b b0 b1; rw [c2 16 _ (by decide), a3 16 _ (by decide) (by decide)]; exact (g4 b b0 b1).1
  have c20 : ∀ b, 0 ≤ b → b < (nb : Int) → Z8 20 b = gH op rb n b := by intro b b0 b1; rw [c2 20 _ (by decide)]; exact b20 b b0 b1
  have c25 : ∀ b, 0 ≤ b → b < (nb : Int) → Z8 25 b = gC co op rb n b := by intro b b0 b1; rw [c2 25 _ (by decide)]; exact b25 b b0 b1
  refine z_aload_n rfl rfl ?_
  refine z_aload_n rfl rfl ?_
  refine z_aload_n rfl rfl ?_
  refine z_callV2g rfl rfl rfl rfl rfl rfl (s_mark c4 hn2 c14 (by omega) (fun b b0 b1 => by have q := gst_in (op := op) (rb := rb) (n := n) b0 (by rw [← enb]; exact b1); have q2 := hK b b0 (by rw [← enb]; exact b1); rw [c16 b b0 b1, c20 b b0 b1]; unfold RG; omega)) (fun r14 Z14 J14 q14 => ?_)
  obtain ⟨rfl, rfl, d1, d2⟩ := q14
  show OkZ none 61 17 _ [] _ _ _
  have d29 : ∀ i, 0 ≤ i → i < (n : Int) → Z14 29 i = gBE co op rb n i ∧ Z14 30 i = gCE co op rb n i := by intro i i0 i1; rw [(d1 i i0 i1).1, (d1 i i0 i1).2, gBE, gCE, ← enb]; exact ⟨beF_congr (fun t ht => ⟨c16 t (by omega) (by omega), c25 t (by omega) (by omega)⟩) i, beF_congr (fun t ht => ⟨c16 t (by omega) (by omega), by rw [c20 t (by omega) (by omega), c26 t (by omega) (by omega)]⟩) i⟩
  have e14 : Z14 14 0 = nb := by rw [d2 14 0 (by decide) (by decide)]; exact c14
  have eF : ∀ b, 0 ≤ b → b < (nb : Int) → Z14 25 b = gC co op rb n b ∧ Z14 17 b = gF op rb n b ∧ Z14 18 b = gT op rb n b ∧ enB Z14 b = gE op rb n b := by intro b b0 b1; refine ⟨by rw [d2 25 _ (by decide) (by decide)]; exact c25 b b0 b1, ?_, ?_, by rw [enB_congr (d2 14 (8 + b) (by decide) (by decide)), enB_congr (c2 14 (8 + b) (by decide)), enB_congr (a3 14 (8 + b) (by decide) (by decide))]; exact (g4 b b0 b1).2.2.2.2.2⟩ <;> rw [d2 _ _ (by decide) (by decide), c2 _ _ (by decide), a3 _ _ (by decide) (by decide)] <;> simp only [g4 b b0 b1]
  have eFT : FTok (Z14 17) (Z14 18) (Z14 25) nb := by
    intro b b0 b1
    have q := eF b b0 b1
    have b2 : b < (gnb op rb n : Int) := by rw [← enb]; exact b1
    have q1 := gF_in (op := op) (rb := rb) (n := n) b0 b2
    have q2 := gT_in hop b0 b2
    have q3 := hK b b0 b2
    rw [q.1, q.2.1, q.2.2.1, enb]
    exact ⟨q1, q2, q3.2.2⟩
  refine z_aload_n rfl rfl ?_
  refine z_aload_n rfl rfl ?_
  refine z_aload_n rfl rfl ?_
  refine z_callV1g rfl rfl rfl rfl rfl rfl (s_gway e14 (by omega) eFT) (fun r20 Z20 J20 q20 => ?_)
  obtain ⟨rfl, rfl, f1⟩ := q20
  have vG : (if nb = 0 then 0 else wR (gs (gfr (Z14 25) (Z14 17) (Z14 18) nb)) (gsB (gfr (Z14 25) (Z14 17) (Z14 18) nb)) nb nb (fun _ => -1) true 0) = gG co op rb n := by rw [gG, ← enb, wRg_congr (fun b b0 b1 => ⟨(eF b b0 b1).1, (eF b b0 b1).2.1, (eF b b0 b1).2.2.1⟩)]
  rw [vG]
  show OkZ none 61 23 _ (.int (I (gG co op rb n)) :: _) _ _ _
  refine z_putI (bi := 0) rfl rfl rfl rfl rfl ?_
  refine z_aload_n rfl rfl ?_
  refine z_aload_n rfl rfl ?_
  refine z_aload_n rfl rfl ?_
  obtain ⟨Z1, hZ1⟩ : ∃ Z1, Z1 = up Z20 24 0 (gG co op rb n) := ⟨_, rfl⟩
  rw [← hZ1]
  have u1 : ∀ (k : Nat) (j : Int), k ≠ 24 → k ≠ 31 → Z1 k j = Z14 k j := by intro k j k1 k2; rw [hZ1]; simp only [up]; rw [if_neg (fun z => k1 z.1)]; exact f1 k j k2
  refine z_callV1g rfl rfl rfl rfl rfl rfl (s_lway (by rw [u1 14 0 (by decide) (by decide)]; exact e14) (by omega) (by rw [show Z1 17 = Z14 17 from by funext j; exact u1 17 j (by decide) (by decide), show Z1 18 = Z14 18 from by funext j; exact u1 18 j (by decide) (by decide), show Z1 25 = Z14 25 from by funext j; exact u1 25 j (by decide) (by decide)]; exact eFT)) (fun r29 Z29 J29 q29 => ?_)
  obtain ⟨rfl, rfl, k1⟩ := q29
  have vL : (if nb = 0 then 0 else wR (ls (lfr (Z1 25) (Z1 17) (Z1 18) (enB Z1) nb)) (lsB (lfr (Z1 25) (Z1 17) (Z1 18) (enB Z1) nb)) nb nb (fun _ => -1) true 0) = gL co op rb n := by rw [gL, ← enb, wRl_congr (C' := gC co op rb n) (F' := gF op rb n) (T' := gT op rb n) (E' := gE op rb n) (fun b b0 b1 => ⟨by rw [u1 25 _ (by decide) (by decide)]; exact (eF b b0 b1).1, by rw [u1 17 _ (by decide) (by decide)]; exact (eF b b0 b1).2.1, by rw [u1 18 _ (by decide) (by decide)]; exact (eF b b0 b1).2.2.1, by rw [enB_congr (u1 14 (8 + b) (by decide) (by decide))]; exact (eF b b0 b1).2.2.2⟩)]
  rw [vL]
  show OkZ none 61 32 _ (.int (I (gL co op rb n)) :: _) _ _ _
  refine z_putI (bi := 1) rfl rfl rfl rfl rfl ?_
  have w1 : ∀ (k : Nat) (j : Int), k ≠ 24 → k ≠ 31 → up Z29 24 1 (gL co op rb n) k j = Z14 k j := by intro k j q1 q2; simp only [up]; rw [if_neg (fun z => q1 z.1), k1 k j q2]; exact u1 k j q1 q2
  refine z_vret rfl rfl ⟨rfl, rfl, ⟨fun i i0 i1 => ?_, fun b b0 b1 => ?_, ?_, ?_⟩, fun k j hk => ?_⟩
  · rw [w1 27 _ (by decide) (by decide), w1 29 _ (by decide) (by decide), w1 30 _ (by decide) (by decide), d2 27 _ (by decide) (by decide), c2 27 _ (by decide)]; exact ⟨b27 i i0 i1, d29 i i0 i1⟩
  · rw [← enb] at b1; rw [w1 25 _ (by decide) (by decide), w1 26 _ (by decide) (by decide), d2 26 _ (by decide) (by decide)]; exact ⟨(eF b b0 b1).1, c26 b b0 b1⟩
  · simp only [up]; rw [if_neg (fun z => absurd z.2 (by decide)), k1 24 0 (by decide), hZ1]; simp [up]
  · simp [up]
  · rw [w1 k j (by omega) (by omega), d2 k j (by omega) (by omega), c2 k j (by omega)]; exact a3 k j (by omega) (by omega)
theorem s_analyse {Z : ZW} {J : Int64} {n : Nat} (hn : Z 4 0 = n) (hn2 : n ≤ 24) (hop : OPok (Z 5) (Z 7) n) (hK : GOK (Z 8) (Z 5) (Z 7) n) : Mz 69 [.ref 0] Z J (fun r Z' J' => r = none ∧ J' = J ∧ GP (Z 5) (Z 7) n Z' ∧ PP (Z 8) (Z 5) (Z 7) n Z' ∧ ∀ (k : Nat) (j : Int), (k < 14 ∨ k = 28 ∨ 31 < k) → Z' k j = Z k j) := by
  unfold Mz
  refine z_aload_n rfl rfl ?_
  refine z_getR rfl rfl rfl rfl ?_
  refine z_aload_n rfl rfl ?_
  refine z_getR rfl rfl rfl rfl ?_
  refine z_callV1g rfl rfl rfl rfl rfl rfl (s_gupdate hn hn2 hop) (fun r8 Z8 J8 q8 => ?_)
  obtain ⟨rfl, rfl, hG, hf⟩ := q8
  show OkZ none 69 11 _ [] _ _ _
  refine z_aload_n rfl rfl ?_
  refine z_getR rfl rfl rfl rfl ?_
  refine z_aload_n rfl rfl ?_
  refine z_getR rfl rfl rfl rfl ?_
  refine z_aload_n rfl rfl ?_
  refine z_getR rfl rfl rfl rfl ?_
  have e5 : Z8 5 = Z 5 := by funext j; exact hf 5 j (by omega)
  have e8 : Z8 8 = Z 8 := by funext j; exact hf 8 j (by omega)
  refine z_callV2g rfl rfl rfl rfl rfl rfl (s_pupdate e5 e8 (by rw [hf 4 0 (by omega)]; exact hn) hn2 hop hG hK) (fun r23 Z23 J23 q23 => ?_)
  obtain ⟨rfl, rfl, hP, hf2⟩ := q23
  show OkZ none 69 26 _ [] _ _ _
  refine z_vret rfl rfl ⟨rfl, rfl, ?_, hP, fun k j hk => ?_⟩
  · obtain ⟨g1, g2, g3, g4⟩ := hG
    refine ⟨by rw [hf2 14 0 (by omega)]; exact g1, by rw [hf2 14 1 (by omega)]; exact g2, fun i i0 i1 => by rw [hf2 15 _ (by omega)]; exact g3 i i0 i1, fun b b0 b1 => ?_⟩
    rw [hf2 16 _ (by omega), hf2 17 _ (by omega), hf2 18 _ (by omega), hf2 19 _ (by omega), hf2 20 _ (by omega), enB_congr (hf2 14 (8 + b) (by omega))]
    exact g4 b b0 b1
  · rw [hf2 k j (by omega)]; exact hf k j (by omega)
end
section
/-! the class: runs -/
def nR (o a b : Int) (v : FI) : FI := if o = 0 then updF v a (v a + b) else if o = 1 then updF v a b else if o = 2 then updF v a (v b) else if o = 3 then updF v a (v a - v b) else v
def nA (o a b : Int) (v : FI) (i : Int) : Int := if o < 4 then i + 1 else if o = 4 then b else if o = 5 then (if I (v a) = 0 then b else i + 1) else if o = 6 then (if I (v a) < 0 then b else i + 1) else 24
/-- a run's result: status, steps, remaining, charges, stop, registers -/
abbrev RES : Type := Int × Int × Int × Int × Int × FI
def rn (n : Nat) (op ra rb ic en : FI) : Nat → Nat → Int → Bool → Int → Int → FI → RES
  | 0, s, at_, _, rem, ch, v => if 0 ≤ at_ ∧ at_ < n then (2, s, rem, ch, at_, v) else (0, s, rem, ch, -1, v)
  | d + 1, s, at_, paid, rem, ch, v =>
    if 0 ≤ at_ ∧ at_ < n then
      let paid1 := if 0 < en at_ then decide (en at_ ≤ rem) else paid
      let rem1 := if 0 < en at_ ∧ en at_ ≤ rem then rem - en at_ else rem
      let ch1 := if 0 < en at_ ∧ en at_ ≤ rem then ch + 1 else ch
      if paid1 then rn n op ra rb ic en d (s + 1) (nA (op at_) (ra at_) (rb at_) v at_) paid1 rem1 ch1 (nR (op at_) (ra at_) (rb at_) v)
      else if ic at_ ≤ rem1 then rn n op ra rb ic en d (s + 1) (nA (op at_) (ra at_) (rb at_) v at_) paid1 (rem1 - ic at_) (ch1 + 1) (nR (op at_) (ra at_) (rb at_) v)
      else (1, s, rem1, ch1, at_, v)
    else (0, s, rem, ch, -1, v)
def WFP (op ra rb : FI) (n : Nat) : Prop := ∀ i, 0 ≤ i → i < (n : Int) → (0 ≤ op i ∧ op i ≤ 7) ∧ (0 ≤ ra i ∧ ra i ≤ 3) ∧ (-99 ≤ rb i ∧ rb i ≤ 99) ∧ ((op i = 2 ∨ op i = 3) → 0 ≤ rb i ∧ rb i ≤ 3) ∧ (4 ≤ op i → 0 ≤ rb i ∧ rb i ≤ 24)
theorem nA_in {op ra rb : FI} {n : Nat} (h : WFP op ra rb n) (hn : n ≤ 24) {i : Int} (h0 : 0 ≤ i) (h1 : i < n) (v : FI) : 0 ≤ nA (op i) (ra i) (rb i) v i ∧ nA (op i) (ra i) (rb i) v i ≤ 24 := by
  obtain ⟨a1, a2, a3, a4, a5⟩ := h i h0 h1
  unfold nA
  split
  · omega
  · have := a5 (by omega)
    split
    · omega
    · split
      · split <;> omega
      · split
        · split <;> omega
        · omega
theorem s_valueOf_59 {Z : ZW} {J : Int64} {r : Int} (hr : RG r) : D 19 [.ref 59, .int (I r)] Z J (some (.int (I (if 0 ≤ r ∧ r < 4 then Z 60 r else 0)))) Z J := by
  unfold D Mz
  refine z_iload_n rfl rfl ?_
  refine z_if_lt rfl (by omega) (fun h1 => ?_) (fun h1 => ?_)
  · refine z_iconst rfl ?_
    exact z_iret rfl rfl ⟨by rw [if_neg (by omega)], rfl, rfl⟩
  · refine z_iload_n rfl rfl ?_
    refine z_iconst rfl ?_
    refine z_icmp_ge rfl (by omega) (by omega) (fun h6 => ?_) (fun h6 => ?_)
    · refine z_iconst rfl ?_
      exact z_iret rfl rfl ⟨by rw [if_neg (by omega)], rfl, rfl⟩
    · refine z_aload_n rfl rfl ?_
      refine z_getR rfl rfl rfl rfl ?_
      refine z_iload_n rfl rfl ?_
      refine z_iald rfl rfl (by omega) ?_
      refine z_goto rfl ?_
      exact z_iret rfl rfl ⟨by rw [if_pos (by omega)], rfl, rfl⟩
theorem s_put_59 {Z : ZW} {J : Int64} {r w : Int} (hr : 0 ≤ r ∧ r < 4) : D 20 [.ref 59, .int (I r), .int (I w)] Z J none (up Z 60 r w) J := by
  unfold D Mz
  refine z_iload_n rfl rfl ?_
  refine z_if_lt rfl (by omega) (fun h1 => ?_) (fun h1 => ?_)
  · exfalso; omega
  · refine z_iload_n rfl rfl ?_
    refine z_iconst rfl ?_
    refine z_icmp_ge rfl (by omega) (by omega) (fun h6 => ?_) (fun h6 => ?_)
    · exfalso; omega
    · refine z_aload_n rfl rfl ?_
      refine z_getR rfl rfl rfl rfl ?_
      refine z_iload_n rfl rfl ?_
      refine z_iload_n rfl rfl ?_
      refine z_iast rfl rfl (by omega) ?_
      exact z_vret rfl rfl ⟨rfl, rfl, rfl⟩
theorem s_finish_59 {Z : ZW} {J : Int64} {a b : Int} : D 18 [.ref 59, .int (I a), .int (I b)] Z J none (up (up Z 59 0 a) 59 4 b) J := by
  unfold D Mz
  refine z_aload_n rfl rfl ?_
  refine z_iload_n rfl rfl ?_
  refine z_putI (bi := 0) rfl rfl rfl rfl rfl ?_
  refine z_aload_n rfl rfl ?_
  refine z_iload_n rfl rfl ?_
  refine z_putI (bi := 4) rfl rfl rfl rfl rfl ?_
  exact z_vret rfl rfl ⟨rfl, rfl, rfl⟩
theorem s_pay_59 {Z : ZW} {J : Int64} {p : Int} (hp : RG p) (hz : RG (Z 59 2)) : D 17 [.ref 59, .int (I p)] Z J (some (bI (decide (p ≤ Z 59 2)))) (if p ≤ Z 59 2 then up (up Z 59 2 (Z 59 2 - p)) 59 3 (Z 59 3 + 1) else Z) J := by
  unfold D Mz
  refine z_aload_n rfl rfl ?_
  refine z_getI (bi := 2) rfl rfl rfl rfl ?_
  refine z_iload_n rfl rfl ?_
  refine z_icmp_ge rfl (by omega) (by omega) (fun h5 => ?_) (fun h5 => ?_)
  · refine z_aload_n rfl rfl ?_
    refine z_dup rfl rfl ?_
    refine z_getI (bi := 2) rfl rfl rfl rfl ?_
    refine z_iload_n rfl rfl ?_
    refine z_isub rfl ?_
    refine z_putI (bi := 2) rfl rfl rfl rfl rfl ?_
    refine z_aload_n rfl rfl ?_
    refine z_dup rfl rfl ?_
    refine z_getI (bi := 3) rfl rfl rfl rfl ?_
    refine z_iconst rfl ?_
    refine z_iadd rfl ?_
    refine z_putI (bi := 3) rfl rfl rfl rfl rfl ?_
    refine z_iconst rfl ?_
    exact z_bret1 rfl rfl ⟨bz1 (decide_eq_true h5), by rw [if_pos h5]; rfl, rfl⟩
  · refine z_iconst rfl ?_
    exact z_bret0 rfl rfl ⟨bz0 (decide_eq_false h5), by rw [if_neg h5], rfl⟩
theorem s_begin_59 {Z : ZW} {J : Int64} {bu : Int} : Mz 15 [.ref 59, .int (I bu)] Z J (fun r Z' J' => r = none ∧ J' = J ∧ Z' 59 0 = 0 ∧ Z' 59 2 = bu ∧ Z' 59 3 = 0 ∧ Z' 59 4 = -1 ∧ (∀ q, 0 ≤ q → q < (4 : Int) → Z' 60 q = 0) ∧ ∀ (k : Nat) (j : Int), k ≠ 59 → k ≠ 60 → Z' k j = Z k j) := by
  unfold Mz
  refine z_aload_n rfl rfl ?_
  refine z_iconst rfl ?_
  refine z_putI (bi := 0) rfl rfl rfl rfl rfl ?_
  refine z_aload_n rfl rfl ?_
  refine z_iload_n rfl rfl ?_
  refine z_putI (bi := 2) rfl rfl rfl rfl rfl ?_
  refine z_aload_n rfl rfl ?_
  refine z_iconst rfl ?_
  refine z_putI (bi := 3) rfl rfl rfl rfl rfl ?_
  refine z_aload_n rfl rfl ?_
  refine z_iconst rfl ?_
  refine z_putI (bi := 4) rfl rfl rfl rfl rfl ?_
  refine z_iconst rfl ?_
  refine z_istore_n rfl rfl rfl ?_
  refine z_iload_n rfl rfl ?_
  refine z_iconst rfl ?_
  refine z_icmp_ge rfl (by omega) (by omega) (fun h24 => ?_) (fun h24 => ?_)
  · exfalso; omega
  · refine z_aload_n rfl rfl ?_
    refine z_getR rfl rfl rfl rfl ?_
    refine z_iload_n rfl rfl ?_
    refine z_iconst rfl ?_
    refine z_iast rfl rfl (by omega) ?_
    refine z_iinc rfl rfl rfl rfl ?_
    refine z_goto rfl ?_
    refine z_iload_n rfl rfl ?_
    refine z_iconst rfl ?_
    refine z_icmp_ge rfl (by omega) (by omega) (fun h24 => ?_) (fun h24 => ?_)
    · exfalso; omega
    · refine z_aload_n rfl rfl ?_
      refine z_getR rfl rfl rfl rfl ?_
      refine z_iload_n rfl rfl ?_
      refine z_iconst rfl ?_
      refine z_iast rfl rfl (by omega) ?_
      refine z_iinc rfl rfl rfl rfl ?_
      refine z_goto rfl ?_
      refine z_iload_n rfl rfl ?_
      refine z_iconst rfl ?_
      refine z_icmp_ge rfl (by omega) (by omega) (fun h24 => ?_) (fun h24 => ?_)
      · exfalso; omega
      · refine z_aload_n rfl rfl ?_
        refine z_getR rfl rfl rfl rfl ?_
        refine z_iload_n rfl rfl ?_
        refine z_iconst rfl ?_
        refine z_iast rfl rfl (by omega) ?_
        refine z_iinc rfl rfl rfl rfl ?_
        refine z_goto rfl ?_
        refine z_iload_n rfl rfl ?_
        refine z_iconst rfl ?_
        refine z_icmp_ge rfl (by omega) (by omega) (fun h24 => ?_) (fun h24 => ?_)
        · exfalso; omega
        · refine z_aload_n rfl rfl ?_
          refine z_getR rfl rfl rfl rfl ?_
          refine z_iload_n rfl rfl ?_
          refine z_iconst rfl ?_
          refine z_iast rfl rfl (by omega) ?_
          refine z_iinc rfl rfl rfl rfl ?_
          refine z_goto rfl ?_
          refine z_iload_n rfl rfl ?_
          refine z_iconst rfl ?_
          refine z_icmp_ge rfl (by omega) (by omega) (fun h24 => ?_) (fun h24 => ?_)
          · refine z_vret rfl rfl ⟨rfl, rfl, by simp [up], by simp [up], by simp [up], by simp [up], fun q q0 q1 => ?_, fun k j k1 k2 => by simp [up, k1, k2]⟩
            have hq : q = 0 ∨ q = 1 ∨ q = 2 ∨ q = 3 := by omega
            rcases hq with rfl | rfl | rfl | rfl <;> simp [up]
          · exfalso; omega
set_option maxHeartbeats 4000000 in
theorem s_perform_59 {Z : ZW} {J : Int64} {n : Nat} {i : Int} (hn2 : n ≤ 24) (hw : WFP (Z 5) (Z 6) (Z 7) n) (h0 : 0 ≤ i ∧ i < n) : Mz 21 [.ref 59, .ref 3, .int (I i)] Z J (fun r Z' J' => r = some (.int (I (nA (Z 5 i) (Z 6 i) (Z 7 i) (Z 60) i))) ∧ J' = J ∧ (∀ q, 0 ≤ q → q < (4 : Int) → Z' 60 q = nR (Z 5 i) (Z 6 i) (Z 7 i) (Z 60) q) ∧ ∀ (k : Nat) (j : Int), k ≠ 60 → Z' k j = Z k j) := by
  unfold Mz
  obtain ⟨a1, a2, a3, a4, a5⟩ := hw i h0.1 h0.2
  have ev : (if 0 ≤ Z 6 i ∧ Z 6 i < 4 then Z 60 (Z 6 i) else 0) = Z 60 (Z 6 i) := if_pos (by omega)
  have hc : Z 5 i = 0 ∨ Z 5 i = 1 ∨ Z 5 i = 2 ∨ Z 5 i = 3 ∨ Z 5 i = 4 ∨ Z 5 i = 5 ∨ Z 5 i = 6 ∨ Z 5 i = 7 := by omega
  refine z_aload_n rfl rfl ?_
  refine z_getR rfl rfl rfl rfl ?_
  refine z_iload_n rfl rfl ?_
  refine z_iald rfl rfl (by omega) ?_
  refine z_istore_n rfl rfl rfl ?_
  refine z_aload_n rfl rfl ?_
  refine z_getR rfl rfl rfl rfl ?_
  refine z_iload_n rfl rfl ?_
  refine z_iald rfl rfl (by omega) ?_
  refine z_istore rfl rfl rfl ?_
  refine z_aload_n rfl rfl ?_
  refine z_iload_n rfl rfl ?_
  refine z_callV1 rfl rfl rfl rfl rfl rfl (s_valueOf_59 (by omega)) ?_
  rw [ev]
  refine z_istore rfl rfl rfl ?_
  refine z_aload_n rfl rfl ?_
  refine z_getR rfl rfl rfl rfl ?_
  refine z_iload_n rfl rfl ?_
  refine z_iald rfl rfl (by omega) ?_
  rcases hc with h | h | h | h | h | h | h | h <;> rw [h]
  · refine z_swIn (tgt := 72) rfl (by decide) (by decide) (by decide) rfl rfl ?_
    refine z_aload_n rfl rfl ?_
    refine z_iload_n rfl rfl ?_
    refine z_iload rfl rfl ?_
    refine z_iload rfl rfl ?_
    refine z_iadd rfl ?_
    refine z_callV2v rfl rfl rfl rfl rfl rfl (s_put_59 (by omega)) ?_
    refine z_iload_n rfl rfl ?_
    refine z_iconst rfl ?_
    refine z_iadd rfl ?_
    exact z_iret rfl rfl ⟨by simp [nA], rfl, fun q q0 q1 => by simp [nR, updF, up], fun k j hk => by simp [up, hk]⟩
  · refine z_swIn (tgt := 86) rfl (by decide) (by decide) (by decide) rfl rfl ?_
    refine z_aload_n rfl rfl ?_
    refine z_iload_n rfl rfl ?_
    refine z_iload rfl rfl ?_
    refine z_callV2v rfl rfl rfl rfl rfl rfl (s_put_59 (by omega)) ?_
    refine z_iload_n rfl rfl ?_
    refine z_iconst rfl ?_
    refine z_iadd rfl ?_
    exact z_iret rfl rfl ⟨by simp [nA], rfl, fun q q0 q1 => by simp [nR, updF, up], fun k j hk => by simp [up, hk]⟩
  · refine z_swIn (tgt := 97) rfl (by decide) (by decide) (by decide) rfl rfl ?_
    have hb := a4 (by omega)
    have eb : (if 0 ≤ Z 7 i ∧ Z 7 i < 4 then Z 60 (Z 7 i) else 0) = Z 60 (Z 7 i) := if_pos (by omega)
    refine z_aload_n rfl rfl ?_
    refine z_iload_n rfl rfl ?_
    refine z_aload_n rfl rfl ?_
    refine z_iload rfl rfl ?_
    refine z_callV1 rfl rfl rfl rfl rfl rfl (s_valueOf_59 (by omega)) ?_
    rw [eb]
    refine z_callV2v rfl rfl rfl rfl rfl rfl (s_put_59 (by omega)) ?_
    refine z_iload_n rfl rfl ?_
    refine z_iconst rfl ?_
    refine z_iadd rfl ?_
    exact z_iret rfl rfl ⟨by simp [nA], rfl, fun q q0 q1 => by simp [nR, updF, up], fun k j hk => by simp [up, hk]⟩
  · refine z_swIn (tgt := 112) rfl (by decide) (by decide) (by decide) rfl rfl ?_
    have hb := a4 (by omega)
    have eb : (if 0 ≤ Z 7 i ∧ Z 7 i < 4 then Z 60 (Z 7 i) else 0) = Z 60 (Z 7 i) := if_pos (by omega)
    refine z_aload_n rfl rfl ?_
    refine z_iload_n rfl rfl ?_
    refine z_iload rfl rfl ?_
    refine z_aload_n rfl rfl ?_
    refine z_iload rfl rfl ?_
    refine z_callV1 rfl rfl rfl rfl rfl rfl (s_valueOf_59 (by omega)) ?_
    rw [eb]
    refine z_isub rfl ?_
    refine z_callV2v rfl rfl rfl rfl rfl rfl (s_put_59 (by omega)) ?_
    refine z_iload_n rfl rfl ?_
    refine z_iconst rfl ?_
    refine z_iadd rfl ?_
    exact z_iret rfl rfl ⟨by simp [nA], rfl, fun q q0 q1 => by simp [nR, updF, up], fun k j hk => by simp [up, hk]⟩
  · refine z_swIn (tgt := 130) rfl (by decide) (by decide) (by decide) rfl rfl ?_
    refine z_iload rfl rfl ?_
    exact z_iret rfl rfl ⟨by simp [nA], rfl, fun q q0 q1 => by simp [nR], fun k j hk => rfl⟩
  · refine z_swIn (tgt := 133) rfl (by decide) (by decide) (by decide) rfl rfl ?_
    refine z_iload rfl rfl ?_
    refine z_rif_ne rfl (fun h135 => ?_) (fun h135 => ?_)
    · refine z_iload_n rfl rfl ?_
      refine z_iconst rfl ?_
      refine z_iadd rfl ?_
      exact z_iret rfl rfl ⟨by simp [nA, h135], rfl, fun q q0 q1 => by simp [nR], fun k j hk => rfl⟩
    · refine z_iload rfl rfl ?_
      refine z_goto rfl ?_
      exact z_iret rfl rfl ⟨by simp [nA, h135], rfl, fun q q0 q1 => by simp [nR], fun k j hk => rfl⟩
  · refine z_swIn (tgt := 147) rfl (by decide) (by decide) (by decide) rfl rfl ?_
    refine z_iload rfl rfl ?_
    refine z_rif_ge rfl (fun h149 => ?_) (fun h149 => ?_)
    · refine z_iload_n rfl rfl ?_
      refine z_iconst rfl ?_
      refine z_iadd rfl ?_
      exact z_iret rfl rfl ⟨by simp [nA, Int32.not_lt.mpr h149], rfl, fun q q0 q1 => by simp [nR], fun k j hk => rfl⟩
    · refine z_iload rfl rfl ?_
      refine z_goto rfl ?_
      exact z_iret rfl rfl ⟨by simp [nA, Int32.not_le.mp h149], rfl, fun q q0 q1 => by simp [nR], fun k j hk => rfl⟩
  · refine z_swOut (tgt := 161) rfl (by decide) (by decide) rfl ?_
    refine z_bipush rfl (by decide) ?_
    exact z_iret rfl rfl ⟨by simp [nA], rfl, fun q q0 q1 => by simp [nR], fun k j hk => rfl⟩
theorem s_valueOf_61 {Z : ZW} {J : Int64} {r : Int} (hr : RG r) : D 19 [.ref 61, .int (I r)] Z J (some (.int (I (if 0 ≤ r ∧ r < 4 then Z 62 r else 0)))) Z J := by
  unfold D Mz
  refine z_iload_n rfl rfl ?_
  refine z_if_lt rfl (by omega) (fun h1 => ?_) (fun h1 => ?_)
  · refine z_iconst rfl ?_
    exact z_iret rfl rfl ⟨by rw [if_neg (by omega)], rfl, rfl⟩
  · refine z_iload_n rfl rfl ?_
    refine z_iconst rfl ?_
    refine z_icmp_ge rfl (by omega) (by omega) (fun h6 => ?_) (fun h6 => ?_)
    · refine z_iconst rfl ?_
      exact z_iret rfl rfl ⟨by rw [if_neg (by omega)], rfl, rfl⟩
    · refine z_aload_n rfl rfl ?_
      refine z_getR rfl rfl rfl rfl ?_
      refine z_iload_n rfl rfl ?_
      refine z_iald rfl rfl (by omega) ?_
      refine z_goto rfl ?_
      exact z_iret rfl rfl ⟨by rw [if_pos (by omega)], rfl, rfl⟩
theorem s_put_61 {Z : ZW} {J : Int64} {r w : Int} (hr : 0 ≤ r ∧ r < 4) : D 20 [.ref 61, .int (I r), .int (I w)] Z J none (up Z 62 r w) J := by
  unfold D Mz
  refine z_iload_n rfl rfl ?_
  refine z_if_lt rfl (by omega) (fun h1 => ?_) (fun h1 => ?_)
  · exfalso; omega
  · refine z_iload_n rfl rfl ?_
    refine z_iconst rfl ?_
    refine z_icmp_ge rfl (by omega) (by omega) (fun h6 => ?_) (fun h6 => ?_)
    · exfalso; omega
    · refine z_aload_n rfl rfl ?_
      refine z_getR rfl rfl rfl rfl ?_
      refine z_iload_n rfl rfl ?_
      refine z_iload_n rfl rfl ?_
      refine z_iast rfl rfl (by omega) ?_
      exact z_vret rfl rfl ⟨rfl, rfl, rfl⟩
theorem s_finish_61 {Z : ZW} {J : Int64} {a b : Int} : D 18 [.ref 61, .int (I a), .int (I b)] Z J none (up (up Z 61 0 a) 61 4 b) J := by
  unfold D Mz
  refine z_aload_n rfl rfl ?_
  refine z_iload_n rfl rfl ?_
  refine z_putI (bi := 0) rfl rfl rfl rfl rfl ?_
  refine z_aload_n rfl rfl ?_
  refine z_iload_n rfl rfl ?_
  refine z_putI (bi := 4) rfl rfl rfl rfl rfl ?_
  exact z_vret rfl rfl ⟨rfl, rfl, rfl⟩
theorem s_pay_61 {Z : ZW} {J : Int64} {p : Int} (hp : RG p) (hz : RG (Z 61 2)) : D 17 [.ref 61, .int (I p)] Z J (some (bI (decide (p ≤ Z 61 2)))) (if p ≤ Z 61 2 then up (up Z 61 2 (Z 61 2 - p)) 61 3 (Z 61 3 + 1) else Z) J := by
  unfold D Mz
  refine z_aload_n rfl rfl ?_
  refine z_getI (bi := 2) rfl rfl rfl rfl ?_
  refine z_iload_n rfl rfl ?_
  refine z_icmp_ge rfl (by omega) (by omega) (fun h5 => ?_) (fun h5 => ?_)
  · refine z_aload_n rfl rfl ?_
    refine z_dup rfl rfl ?_
    refine z_getI (bi := 2) rfl rfl rfl rfl ?_
    refine z_iload_n rfl rfl ?_
    refine z_isub rfl ?_
    refine z_putI (bi := 2) rfl rfl rfl rfl rfl ?_
    refine z_aload_n rfl rfl ?_
    refine z_dup rfl rfl ?_
    refine z_getI (bi := 3) rfl rfl rfl rfl ?_
    refine z_iconst rfl ?_
    refine z_iadd rfl ?_
    refine z_putI (bi := 3) rfl rfl rfl rfl rfl ?_
    refine z_iconst rfl ?_
    exact z_bret1 rfl rfl ⟨bz1 (decide_eq_true h5), by rw [if_pos h5]; rfl, rfl⟩
  · refine z_iconst rfl ?_
    exact z_bret0 rfl rfl ⟨bz0 (decide_eq_false h5), by rw [if_neg h5], rfl⟩
theorem s_begin_61 {Z : ZW} {J : Int64} {bu : Int} : Mz 15 [.ref 61, .int (I bu)] Z J (fun r Z' J' => r = none ∧ J' = J ∧ Z' 61 0 = 0 ∧ Z' 61 2 = bu ∧ Z' 61 3 = 0 ∧ Z' 61 4 = -1 ∧ (∀ q, 0 ≤ q → q < (4 : Int) → Z' 62 q = 0) ∧ ∀ (k : Nat) (j : Int), k ≠ 61 → k ≠ 62 → Z' k j = Z k j) := by
  unfold Mz
  refine z_aload_n rfl rfl ?_
  refine z_iconst rfl ?_
  refine z_putI (bi := 0) rfl rfl rfl rfl rfl ?_
  refine z_aload_n rfl rfl ?_
  refine z_iload_n rfl rfl ?_
  refine z_putI (bi := 2) rfl rfl rfl rfl rfl ?_
  refine z_aload_n rfl rfl ?_
  refine z_iconst rfl ?_
  refine z_putI (bi := 3) rfl rfl rfl rfl rfl ?_
  refine z_aload_n rfl rfl ?_
  refine z_iconst rfl ?_
  refine z_putI (bi := 4) rfl rfl rfl rfl rfl ?_
  refine z_iconst rfl ?_
  refine z_istore_n rfl rfl rfl ?_
  refine z_iload_n rfl rfl ?_
  refine z_iconst rfl ?_
  refine z_icmp_ge rfl (by omega) (by omega) (fun h24 => ?_) (fun h24 => ?_)
  · exfalso; omega
  · refine z_aload_n rfl rfl ?_
    refine z_getR rfl rfl rfl rfl ?_
    refine z_iload_n rfl rfl ?_
    refine z_iconst rfl ?_
    refine z_iast rfl rfl (by omega) ?_
    refine z_iinc rfl rfl rfl rfl ?_
    refine z_goto rfl ?_
    refine z_iload_n rfl rfl ?_
    refine z_iconst rfl ?_
    refine z_icmp_ge rfl (by omega) (by omega) (fun h24 => ?_) (fun h24 => ?_)
    · exfalso; omega
    · refine z_aload_n rfl rfl ?_
      refine z_getR rfl rfl rfl rfl ?_
      refine z_iload_n rfl rfl ?_
      refine z_iconst rfl ?_
      refine z_iast rfl rfl (by omega) ?_
      refine z_iinc rfl rfl rfl rfl ?_
      refine z_goto rfl ?_
      refine z_iload_n rfl rfl ?_
      refine z_iconst rfl ?_
      refine z_icmp_ge rfl (by omega) (by omega) (fun h24 => ?_) (fun h24 => ?_)
      · exfalso; omega
      · refine z_aload_n rfl rfl ?_
        refine z_getR rfl rfl rfl rfl ?_
        refine z_iload_n rfl rfl ?_
        refine z_iconst rfl ?_
        refine z_iast rfl rfl (by omega) ?_
        refine z_iinc rfl rfl rfl rfl ?_
        refine z_goto rfl ?_
        refine z_iload_n rfl rfl ?_
        refine z_iconst rfl ?_
        refine z_icmp_ge rfl (by omega) (by omega) (fun h24 => ?_) (fun h24 => ?_)
        · exfalso; omega
        · refine z_aload_n rfl rfl ?_
          refine z_getR rfl rfl rfl rfl ?_
          refine z_iload_n rfl rfl ?_
          refine z_iconst rfl ?_
          refine z_iast rfl rfl (by omega) ?_
          refine z_iinc rfl rfl rfl rfl ?_
          refine z_goto rfl ?_
          refine z_iload_n rfl rfl ?_
          refine z_iconst rfl ?_
          refine z_icmp_ge rfl (by omega) (by omega) (fun h24 => ?_) (fun h24 => ?_)
          · refine z_vret rfl rfl ⟨rfl, rfl, by simp [up], by simp [up], by simp [up], by simp [up], fun q q0 q1 => ?_, fun k j k1 k2 => by simp [up, k1, k2]⟩
            have hq : q = 0 ∨ q = 1 ∨ q = 2 ∨ q = 3 := by omega
            rcases hq with rfl | rfl | rfl | rfl <;> simp [up]
          · exfalso; omega
set_option maxHeartbeats 4000000 in
theorem s_perform_61 {Z : ZW} {J : Int64} {n : Nat} {i : Int} (hn2 : n ≤ 24) (hw : WFP (Z 5) (Z 6) (Z 7) n) (h0 : 0 ≤ i ∧ i < n) : Mz 21 [.ref 61, .ref 3, .int (I i)] Z J (fun r Z' J' => r = some (.int (I (nA (Z 5 i) (Z 6 i) (Z 7 i) (Z 62) i))) ∧ J' = J ∧ (∀ q, 0 ≤ q → q < (4 : Int) → Z' 62 q = nR (Z 5 i) (Z 6 i) (Z 7 i) (Z 62) q) ∧ ∀ (k : Nat) (j : Int), k ≠ 62 → Z' k j = Z k j) := by
  unfold Mz
  obtain ⟨a1, a2, a3, a4, a5⟩ := hw i h0.1 h0.2
  have ev : (if 0 ≤ Z 6 i ∧ Z 6 i < 4 then Z 62 (Z 6 i) else 0) = Z 62 (Z 6 i) := if_pos (by omega)
  have hc : Z 5 i = 0 ∨ Z 5 i = 1 ∨ Z 5 i = 2 ∨ Z 5 i = 3 ∨ Z 5 i = 4 ∨ Z 5 i = 5 ∨ Z 5 i = 6 ∨ Z 5 i = 7 := by omega
  refine z_aload_n rfl rfl ?_
  refine z_getR rfl rfl rfl rfl ?_
  refine z_iload_n rfl rfl ?_
  refine z_iald rfl rfl (by omega) ?_
  refine z_istore_n rfl rfl rfl ?_
  refine z_aload_n rfl rfl ?_
  refine z_getR rfl rfl rfl rfl ?_
  refine z_iload_n rfl rfl ?_
  refine z_iald rfl rfl (by omega) ?_
  refine z_istore rfl rfl rfl ?_
  refine z_aload_n rfl rfl ?_
  refine z_iload_n rfl rfl ?_
  refine z_callV1 rfl rfl rfl rfl rfl rfl (s_valueOf_61 (by omega)) ?_
  rw [ev]
  refine z_istore rfl rfl rfl ?_
  refine z_aload_n rfl rfl ?_
  refine z_getR rfl rfl rfl rfl ?_
  refine z_iload_n rfl rfl ?_
  refine z_iald rfl rfl (by omega) ?_
  rcases hc with h | h | h | h | h | h | h | h <;> rw [h]
  · refine z_swIn (tgt := 72) rfl (by decide) (by decide) (by decide) rfl rfl ?_
    refine z_aload_n rfl rfl ?_
    refine z_iload_n rfl rfl ?_
    refine z_iload rfl rfl ?_
    refine z_iload rfl rfl ?_
    refine z_iadd rfl ?_
    refine z_callV2v rfl rfl rfl rfl rfl rfl (s_put_61 (by omega)) ?_
    refine z_iload_n rfl rfl ?_
    refine z_iconst rfl ?_
    refine z_iadd rfl ?_
    exact z_iret rfl rfl ⟨by simp [nA], rfl, fun q q0 q1 => by simp [nR, updF, up], fun k j hk => by simp [up, hk]⟩
  · refine z_swIn (tgt := 86) rfl (by decide) (by decide) (by decide) rfl rfl ?_
    refine z_aload_n rfl rfl ?_
    refine z_iload_n rfl rfl ?_
    refine z_iload rfl rfl ?_
    refine z_callV2v rfl rfl rfl rfl rfl rfl (s_put_61 (by omega)) ?_
    refine z_iload_n rfl rfl ?_
    refine z_iconst rfl ?_
    refine z_iadd rfl ?_
    exact z_iret rfl rfl ⟨by simp [nA], rfl, fun q q0 q1 => by simp [nR, updF, up], fun k j hk => by simp [up, hk]⟩
  · refine z_swIn (tgt := 97) rfl (by decide) (by decide) (by decide) rfl rfl ?_
    have hb := a4 (by omega)
    have eb : (if 0 ≤ Z 7 i ∧ Z 7 i < 4 then Z 62 (Z 7 i) else 0) = Z 62 (Z 7 i) := if_pos (by omega)
    refine z_aload_n rfl rfl ?_
    refine z_iload_n rfl rfl ?_
    refine z_aload_n rfl rfl ?_
    refine z_iload rfl rfl ?_
    refine z_callV1 rfl rfl rfl rfl rfl rfl (s_valueOf_61 (by omega)) ?_
    rw [eb]
    refine z_callV2v rfl rfl rfl rfl rfl rfl (s_put_61 (by omega)) ?_
    refine z_iload_n rfl rfl ?_
    refine z_iconst rfl ?_
    refine z_iadd rfl ?_
    exact z_iret rfl rfl ⟨by simp [nA], rfl, fun q q0 q1 => by simp [nR, updF, up], fun k j hk => by simp [up, hk]⟩
  · refine z_swIn (tgt := 112) rfl (by decide) (by decide) (by decide) rfl rfl ?_
    have hb := a4 (by omega)
    have eb : (if 0 ≤ Z 7 i ∧ Z 7 i < 4 then Z 62 (Z 7 i) else 0) = Z 62 (Z 7 i) := if_pos (by omega)
    refine z_aload_n rfl rfl ?_
    refine z_iload_n rfl rfl ?_
    refine z_iload rfl rfl ?_
    refine z_aload_n rfl rfl ?_
    refine z_iload rfl rfl ?_
    refine z_callV1 rfl rfl rfl rfl rfl rfl (s_valueOf_61 (by omega)) ?_
    rw [eb]
    refine z_isub rfl ?_
    refine z_callV2v rfl rfl rfl rfl rfl rfl (s_put_61 (by omega)) ?_
    refine z_iload_n rfl rfl ?_
    refine z_iconst rfl ?_
    refine z_iadd rfl ?_
    exact z_iret rfl rfl ⟨by simp [nA], rfl, fun q q0 q1 => by simp [nR, updF, up], fun k j hk => by simp [up, hk]⟩
  · refine z_swIn (tgt := 130) rfl (by decide) (by decide) (by decide) rfl rfl ?_
    refine z_iload rfl rfl ?_
    exact z_iret rfl rfl ⟨by simp [nA], rfl, fun q q0 q1 => by simp [nR], fun k j hk => rfl⟩
  · refine z_swIn (tgt := 133) rfl (by decide) (by decide) (by decide) rfl rfl ?_
    refine z_iload rfl rfl ?_
    refine z_rif_ne rfl (fun h135 => ?_) (fun h135 => ?_)
    · refine z_iload_n rfl rfl ?_
      refine z_iconst rfl ?_
      refine z_iadd rfl ?_
      exact z_iret rfl rfl ⟨by simp [nA, h135], rfl, fun q q0 q1 => by simp [nR], fun k j hk => rfl⟩
    · refine z_iload rfl rfl ?_
      refine z_goto rfl ?_
      exact z_iret rfl rfl ⟨by simp [nA, h135], rfl, fun q q0 q1 => by simp [nR], fun k j hk => rfl⟩
  · refine z_swIn (tgt := 147) rfl (by decide) (by decide) (by decide) rfl rfl ?_
    refine z_iload rfl rfl ?_
    refine z_rif_ge rfl (fun h149 => ?_) (fun h149 => ?_)
    · refine z_iload_n rfl rfl ?_
      refine z_iconst rfl ?_
      refine z_iadd rfl ?_
      exact z_iret rfl rfl ⟨by simp [nA, Int32.not_lt.mpr h149], rfl, fun q q0 q1 => by simp [nR], fun k j hk => rfl⟩
    · refine z_iload rfl rfl ?_
      refine z_goto rfl ?_
      exact z_iret rfl rfl ⟨by simp [nA, Int32.not_le.mp h149], rfl, fun q q0 q1 => by simp [nR], fun k j hk => rfl⟩
  · refine z_swOut (tgt := 161) rfl (by decide) (by decide) rfl ?_
    refine z_bipush rfl (by decide) ?_
    exact z_iret rfl rfl ⟨by simp [nA], rfl, fun q q0 q1 => by simp [nR], fun k j hk => rfl⟩
end
section
/-! the class: Execution.execute is rn -/
theorem nR_congr {o a b : Int} {v v' : FI} (h : ∀ q, 0 ≤ q → q < (4 : Int) → v q = v' q) (ha : 0 ≤ a ∧ a < 4) (hb : (o = 2 ∨ o = 3) → 0 ≤ b ∧ b < 4) : ∀ q, 0 ≤ q → q < (4 : Int) → nR o a b v q = nR o a b v' q := by
  intro q q0 q1
  have h1 := h q q0 q1
  have h2 := h a ha.1 ha.2
  unfold nR
  by_cases c0 : o = 0
  · simp [c0, updF, h1, h2]
  · by_cases c1 : o = 1
    · simp [c1, updF, h1]
    · by_cases c2 : o = 2
      · have h3 := h b (hb (Or.inl c2)).1 (hb (Or.inl c2)).2
        simp [c2, updF, h1, h3]
      · by_cases c3 : o = 3
        · have h3 := h b (hb (Or.inr c3)).1 (hb (Or.inr c3)).2
          simp [c3, updF, h1, h2, h3]
        · simp [c0, c1, c2, c3, h1]
theorem nA_congr {o a b i : Int} {v v' : FI} (h : v a = v' a) : nA o a b v i = nA o a b v' i := by
  unfold nA
  rw [h]
def PX_59 (Z : ZW) (q : RES) (Z' : ZW) : Prop := Z' 59 0 = q.1 ∧ Z' 59 1 = q.2.1 ∧ Z' 59 2 = q.2.2.1 ∧ Z' 59 3 = q.2.2.2.1 ∧ Z' 59 4 = q.2.2.2.2.1 ∧ (∀ r, 0 ≤ r → r < (4 : Int) → Z' 60 r = q.2.2.2.2.2 r) ∧ ∀ (k : Nat) (j : Int), k ≠ 59 → k ≠ 60 → Z' k j = Z k j
set_option maxHeartbeats 4000000 in
theorem l_exec_59_0 {Z : ZW} {J : Int64} {n : Nat} {bu : Int} {q : RES} (hn : Z 4 0 = n) (hn2 : n ≤ 24) (hw : WFP (Z 5) (Z 6) (Z 7) n) (hc : ∀ i, 0 ≤ i → i < (n : Int) → (0 ≤ Z 27 i ∧ Z 27 i ≤ 9) ∧ (0 ≤ Z 28 i ∧ Z 28 i ≤ 10000)) : ∀ (d t : Nat) (a : Int) (paid : Bool) (rem ch : Int) (v : FI) (Z' : ZW), t + d = 3000 → (0 ≤ a ∧ a ≤ 24) → (0 ≤ rem ∧ rem ≤ 30000) → PX_59 Z (0, t, rem, ch, -1, v) Z' → q = rn n (Z 5) (Z 6) (Z 7) (Z 27) (Z 28) d t a paid rem ch v → OkZ none 22 24 [some (.ref 59), some (.ref 3), some (.ref 24), some (.int (I 0)), some (.int (I bu)), some (.ref 28), some (bI paid), some (.int (I a))] [] Z' J (fun r Z' J' => r = none ∧ J' = J ∧ PX_59 Z q Z') := by
  intro d
  induction d with
  | zero =>
    intro t a paid rem ch v Z' ht ha hrem hP hq
    obtain ⟨p0, p1, p2, p3, p4, p5, p6⟩ := id hP
    have e4 : Z' 4 0 = n := by rw [p6 4 0 (by decide) (by decide)]; exact hn
    have p1 : Z' 59 1 = t := p1
    have hq2 : q = if 0 ≤ a ∧ a < (n : Int) then (2, (t : Int), rem, ch, a, v) else (0, (t : Int), rem, ch, -1, v) := hq
    refine z_aload_n rfl rfl ?_
    refine z_getI (bi := 1) rfl rfl rfl rfl ?_
    refine z_sipush rfl (by decide) ?_
    refine z_icmp_ge rfl (by omega) (by omega) (fun h31 => ?_) (fun h31 => ?_)
    · refine z_aload_n rfl rfl ?_
      refine z_iload rfl rfl ?_
      refine z_callV1 rfl rfl rfl rfl rfl rfl (s_has (by omega) (by omega)) ?_
      refine z_ifb_eq rfl (fun h117 => ?_) (fun h117 => ?_)
      · have hno := of_decide_eq_false h117
        rw [if_neg (by rw [← e4]; exact hno)] at hq2
        exact z_vret rfl rfl ⟨rfl, rfl, by rw [hq2]; exact hP⟩
      · refine z_aload_n rfl rfl ?_
        refine z_iconst rfl ?_
        refine z_iload rfl rfl ?_
        refine z_callV2v rfl rfl rfl rfl rfl rfl (s_finish_59) ?_
        have hyes := of_decide_eq_true h117
        rw [if_pos (by rw [← e4]; exact hyes)] at hq2
        refine z_vret rfl rfl ⟨rfl, rfl, ?_⟩
        rw [hq2]
        refine ⟨by simp [up], by simp [up, p1], by simpa [up] using p2, by simpa [up] using p3, by simp [up], fun r r0 r1 => by simpa [up] using p5 r r0 r1, fun k j k1 k2 => by simpa [up, k1] using p6 k j k1 k2⟩
    · exfalso; omega
  | succ d ih =>
    intro t a paid rem ch v Z' ht ha hrem hP hq
    obtain ⟨p0, p1, p2, p3, p4, p5, p6⟩ := id hP
    have e4 : Z' 4 0 = n := by rw [p6 4 0 (by decide) (by decide)]; exact hn
    have p1 : Z' 59 1 = t := p1
    by_cases hin : 0 ≤ a ∧ a < (n : Int)
    rotate_left
    · have hq2 : q = (0, (t : Int), rem, ch, -1, v) := by rw [hq]; unfold rn; rw [if_neg hin]
      refine z_aload_n rfl rfl ?_
      refine z_getI (bi := 1) rfl rfl rfl rfl ?_
      refine z_sipush rfl (by decide) ?_
      refine z_icmp_ge rfl (by omega) (by omega) (fun h31 => ?_) (fun h31 => ?_)
      · refine z_aload_n rfl rfl ?_
        refine z_iload rfl rfl ?_
        refine z_callV1 rfl rfl rfl rfl rfl rfl (s_has (by omega) (by omega)) ?_
        refine z_ifb_eq rfl (fun h117 => ?_) (fun h117 => ?_)
        · exact z_vret rfl rfl ⟨rfl, rfl, by rw [hq2]; exact hP⟩
        · exact absurd (of_decide_eq_true h117) (by rw [e4]; exact hin)
      · refine z_aload_n rfl rfl ?_
        refine z_iload rfl rfl ?_
        refine z_callV1 rfl rfl rfl rfl rfl rfl (s_has (by omega) (by omega)) ?_
        refine z_ifb_eq rfl (fun h40 => ?_) (fun h40 => ?_)
        · refine z_aload_n rfl rfl ?_
          refine z_iload rfl rfl ?_
          refine z_callV1 rfl rfl rfl rfl rfl rfl (s_has (by omega) (by omega)) ?_
          refine z_ifb_eq rfl (fun h117 => ?_) (fun h117 => ?_)
          · exact z_vret rfl rfl ⟨rfl, rfl, by rw [hq2]; exact hP⟩
          · exact absurd (of_decide_eq_true h117) (by rw [e4]; exact hin)
        · exact absurd (of_decide_eq_true h40) (by rw [e4]; exact hin)
    have hca := hc a hin.1 hin.2
    have e27 : Z' 27 a = Z 27 a := p6 27 _ (by decide) (by decide)
    have een : Z' 28 a = Z 28 a := p6 28 _ (by decide) (by decide)
    obtain ⟨w1, w2, w3, w4, w5⟩ := hw a hin.1 hin.2
    obtain ⟨b, eb⟩ : ∃ b, b = (if 0 < Z 28 a then decide (Z 28 a ≤ rem) else paid) := ⟨_, rfl⟩
    obtain ⟨m, em⟩ : ∃ m, m = (if 0 < Z 28 a ∧ Z 28 a ≤ rem then rem - Z 28 a else rem) := ⟨_, rfl⟩
    obtain ⟨g, eg⟩ : ∃ g, g = (if 0 < Z 28 a ∧ Z 28 a ≤ rem then ch + 1 else ch) := ⟨_, rfl⟩
    have hm : 0 ≤ m ∧ m ≤ 30000 := by rw [em]; split <;> omega
    have hq2 : q = if b then rn n (Z 5) (Z 6) (Z 7) (Z 27) (Z 28) d (t + 1) (nA (Z 5 a) (Z 6 a) (Z 7 a) v a) b m g (nR (Z 5 a) (Z 6 a) (Z 7 a) v) else if Z 27 a ≤ m then rn n (Z 5) (Z 6) (Z 7) (Z 27) (Z 28) d (t + 1) (nA (Z 5 a) (Z 6 a) (Z 7 a) v a) b (m - Z 27 a) (g + 1) (nR (Z 5 a) (Z 6 a) (Z 7 a) v) else (1, (t : Int), m, g, a, v) := by
      rw [hq, eb, em, eg]
      show (if 0 ≤ a ∧ a < (n : Int) then _ else _) = _
      rw [if_pos hin]
    have K89 : ∀ (m2 g2 : Int) (Z2 : ZW), (0 ≤ m2 ∧ m2 ≤ 30000) → PX_59 Z (0, t, m2, g2, -1, v) Z2 → q = rn n (Z 5) (Z 6) (Z 7) (Z 27) (Z 28) d (t + 1) (nA (Z 5 a) (Z 6 a) (Z 7 a) v a) b m2 g2 (nR (Z 5 a) (Z 6 a) (Z 7 a) v) → OkZ none 22 89 [some (.ref 59), some (.ref 3), some (.ref 24), some (.int (I 0)), some (.int (I bu)), some (.ref 28), some (bI b), some (.int (I a))] [] Z2 J (fun r Z' J' => r = none ∧ J' = J ∧ PX_59 Z q Z') := by
      intro m2 g2 Z2 hm2 hP2 hq3
      obtain ⟨r0, r1, r2, r3, r4, r5, r6⟩ := hP2
      have f5 : Z2 5 = Z 5 := by funext j; exact r6 5 j (by decide) (by decide)
      have f6 : Z2 6 = Z 6 := by funext j; exact r6 6 j (by decide) (by decide)
      have f7 : Z2 7 = Z 7 := by funext j; exact r6 7 j (by decide) (by decide)
      have hpf := s_perform_59 (Z := Z2) (J := J) (n := n) (i := a) hn2 (by rw [f5, f6, f7]; exact hw) hin
      rw [f5, f6, f7, nA_congr (r5 (Z 6 a) (by omega) (by omega))] at hpf
      have hna := nA_in hw hn2 hin.1 hin.2 v
      refine z_aload_n rfl rfl ?_
      refine z_aload_n rfl rfl ?_
      refine z_iload rfl rfl ?_
      refine z_callV2g rfl rfl rfl rfl rfl rfl (hpf) (fun r93 Z93 J93 q93 => ?_)
      obtain ⟨rfl, rfl, y1, y2⟩ := q93
      show OkZ none 22 96 _ (.int (I (nA (Z 5 a) (Z 6 a) (Z 7 a) v a)) :: []) _ _ _
      refine z_istore rfl rfl rfl ?_
      refine z_aload_n rfl rfl ?_
      refine z_dup rfl rfl ?_
      refine z_getI (bi := 1) rfl rfl rfl rfl ?_
      refine z_iconst rfl ?_
      refine z_iadd rfl ?_
      refine z_putI (bi := 1) rfl rfl rfl rfl rfl ?_
      refine z_goto rfl ?_
      refine ih (t + 1) _ b m2 g2 _ _ (by omega) hna hm2 ?_ hq3
      refine ⟨by simp only [up]; rw [if_neg (fun z => absurd z.2 (by decide)), y2 59 0 (by decide)]; exact r0, ?_, by simp only [up]; rw [if_neg (fun z => absurd z.2 (by decide)), y2 59 2 (by decide)]; exact r2, by simp only [up]; rw [if_neg (fun z => absurd z.2 (by decide)), y2 59 3 (by decide)]; exact r3, by simp only [up]; rw [if_neg (fun z => absurd z.2 (by decide)), y2 59 4 (by decide)]; exact r4, fun r z0 z1 => ?_, fun k j k1 k2 => ?_⟩
      · have r1 : Z2 59 1 = t := r1
        have : Z93 59 1 = t := by rw [y2 59 1 (by decide)]; exact r1
        simp only [up]; rw [if_pos ⟨trivial, trivial⟩, this]; rfl
      · simp only [up]; rw [if_neg (fun z => absurd z.1 (by decide)), y1 r z0 z1]; exact nR_congr r5 (by omega) (fun z => by have := w4 z; omega) r z0 z1
      · simp only [up]; rw [if_neg (fun z => k1 z.1), y2 k j k2]; exact r6 k j k1 k2
    have K62 : ∀ (Z2 : ZW), PX_59 Z (0, t, m, g, -1, v) Z2 → OkZ none 22 62 [some (.ref 59), some (.ref 3), some (.ref 24), some (.int (I 0)), some (.int (I bu)), some (.ref 28), some (bI b), some (.int (I a))] [] Z2 J (fun r Z' J' => r = none ∧ J' = J ∧ PX_59 Z q Z') := by
      intro Z2 hP2
      obtain ⟨r0, r1, r2, r3, r4, r5, r6⟩ := id hP2
      have r2 : Z2 59 2 = m := r2
      have r3 : Z2 59 3 = g := r3
      have r1 : Z2 59 1 = t := r1
      have f27 : Z2 27 a = Z 27 a := r6 27 _ (by decide) (by decide)
      refine z_iload rfl rfl ?_
      refine z_ifb_ne rfl (fun h64 => ?_) (fun h64 => ?_)
      · rw [h64, if_pos rfl] at hq2
        exact K89 m g Z2 hm hP2 (by rw [hq2, h64])
      · refine z_aload_n rfl rfl ?_
        refine z_aload_n rfl rfl ?_
        refine z_getR rfl rfl rfl rfl ?_
        refine z_iload rfl rfl ?_
        refine z_iald rfl rfl (by omega) ?_
        refine z_callV1 rfl rfl rfl rfl rfl rfl (s_pay_59 (by rw [f27]; omega) (by rw [r2]; omega)) ?_
        refine z_ifb_ne rfl (fun h78 => ?_) (fun h78 => ?_)
        · have hle := of_decide_eq_true h78
          rw [f27, r2] at hle
          rw [h64, if_neg (by decide), if_pos hle] at hq2
          rw [f27, r2, if_pos hle, r3]
          refine K89 (m - Z 27 a) (g + 1) _ (by omega) ?_ (by rw [hq2, h64])
          exact ⟨by simpa [up] using r0, by simpa [up] using r1, by simp [up], by simp [up], by simpa [up] using r4, fun r z0 z1 => by simpa [up] using r5 r z0 z1, fun k j k1 k2 => by simpa [up, k1] using r6 k j k1 k2⟩
        · refine z_aload_n rfl rfl ?_
          refine z_iconst rfl ?_
          refine z_iload rfl rfl ?_
          refine z_callV2v rfl rfl rfl rfl rfl rfl (s_finish_59) ?_
          have hgt := of_decide_eq_false h78
          rw [f27, r2] at hgt
          rw [h64, if_neg (by decide), if_neg hgt] at hq2
          rw [f27, r2, if_neg hgt]
          refine z_vret rfl rfl ⟨rfl, rfl, ?_⟩
          rw [hq2]
          exact ⟨by simp [up], by simpa [up] using r1, by simpa [up] using r2, by simpa [up] using r3, by simp [up], fun r z0 z1 => by simpa [up] using r5 r z0 z1, fun k j k1 k2 => by simpa [up, k1] using r6 k j k1 k2⟩
    have p2 : Z' 59 2 = rem := p2
    have p3 : Z' 59 3 = ch := p3
    refine z_aload_n rfl rfl ?_
    refine z_getI (bi := 1) rfl rfl rfl rfl ?_
    refine z_sipush rfl (by decide) ?_
    refine z_icmp_ge rfl (by omega) (by omega) (fun h31 => ?_) (fun h31 => ?_)
    · exfalso; omega
    · refine z_aload_n rfl rfl ?_
      refine z_iload rfl rfl ?_
      refine z_callV1 rfl rfl rfl rfl rfl rfl (s_has (by omega) (by omega)) ?_
      refine z_ifb_eq rfl (fun h40 => ?_) (fun h40 => ?_)
      · exact absurd (show 0 ≤ a ∧ a < Z' 4 0 by omega) (of_decide_eq_false h40)
      · refine z_aload rfl rfl ?_
        refine z_iload rfl rfl ?_
        refine z_iald rfl rfl (by omega) ?_
        refine z_if_le rfl (by omega) (fun h48 => ?_) (fun h48 => ?_)
        · have hno : ¬ 0 < Z 28 a := by rw [← een]; omega
          rw [if_neg hno] at eb
          rw [if_neg (fun z => hno z.1)] at em eg
          rw [eb, em, eg] at K62
          exact K62 Z' hP
        · refine z_aload_n rfl rfl ?_
          refine z_aload rfl rfl ?_
          refine z_iload rfl rfl ?_
          refine z_iald rfl rfl (by omega) ?_
          refine z_callV1 rfl rfl rfl rfl rfl rfl (s_pay_59 (by rw [een]; omega) (by rw [p2]; omega)) ?_
          refine z_istore rfl rfl rfl ?_
          have hpos : 0 < Z 28 a := by rw [← een]; omega
          rw [if_pos hpos] at eb
          rw [een, p2, p3, ← eb]
          by_cases hle : Z 28 a ≤ rem
          · rw [if_pos ⟨hpos, hle⟩] at em eg
            rw [if_pos hle]
            refine K62 _ ?_
            rw [em, eg]
            exact ⟨by simpa [up] using p0, by simpa [up] using p1, by simp [up], by simp [up], by simpa [up] using p4, fun r z0 z1 => by simpa [up] using p5 r z0 z1, fun k j k1 k2 => by simpa [up, k1] using p6 k j k1 k2⟩
          · rw [if_neg (fun z => hle z.2)] at em eg
            rw [if_neg hle]
            refine K62 _ ?_
            rw [em, eg]
            exact hP
theorem s_exec_59_0 {Z : ZW} {J : Int64} {n : Nat} {bu : Int} (hn : Z 4 0 = n) (hn2 : n ≤ 24) (hw : WFP (Z 5) (Z 6) (Z 7) n) (hc : ∀ i, 0 ≤ i → i < (n : Int) → (0 ≤ Z 27 i ∧ Z 27 i ≤ 9) ∧ (0 ≤ Z 28 i ∧ Z 28 i ≤ 10000)) (hbu : 0 ≤ bu ∧ bu ≤ 30000) : Mz 22 [.ref 59, .ref 3, .ref 24, .int (I 0), .int (I bu)] Z J (fun r Z' J' => r = none ∧ J' = J ∧ PX_59 Z (rn n (Z 5) (Z 6) (Z 7) (Z 27) (Z 28) 3000 0 0 false bu 0 (fun _ => 0)) Z') := by
  unfold Mz
  refine z_aload_n rfl rfl ?_
  refine z_iload_n rfl rfl ?_
  refine z_callV1 rfl rfl rfl rfl rfl rfl (s_entries0) ?_
  refine z_astore rfl rfl rfl ?_
  refine z_aload_n rfl rfl ?_
  refine z_iload rfl rfl ?_
  refine z_callV1g rfl rfl rfl rfl rfl rfl (s_begin_59) (fun r10 Z10 J10 q10 => ?_)
  obtain ⟨rfl, rfl, b0, b2, b3, b4, b5, b6⟩ := q10
  show OkZ none 22 13 _ [] _ _ _
  refine z_iconst rfl ?_
  refine z_istore rfl rfl rfl ?_
  refine z_iconst rfl ?_
  refine z_istore rfl rfl rfl ?_
  refine z_aload_n rfl rfl ?_
  refine z_iconst rfl ?_
  refine z_putI (bi := 1) rfl rfl rfl rfl rfl ?_
  obtain ⟨Z1, hZ1⟩ : ∃ Z1, Z1 = up Z10 59 1 0 := ⟨_, rfl⟩
  rw [← hZ1]
  have g6 : ∀ (k : Nat) (j : Int), k ≠ 59 → k ≠ 60 → Z1 k j = Z k j := by intro k j k1 k2; rw [hZ1]; simp only [up]; rw [if_neg (fun z => k1 z.1)]; exact b6 k j k1 k2
  exact l_exec_59_0 (Z := Z) hn hn2 hw hc 3000 0 0 false bu 0 (fun _ => 0) Z1 (by omega) (by omega) hbu ⟨by rw [hZ1]; simpa [up] using b0, by rw [hZ1]; simp [up], by rw [hZ1]; simpa [up] using b2, by rw [hZ1]; simpa [up] using b3, by rw [hZ1]; simpa [up] using b4, fun r z0 z1 => by rw [hZ1]; simpa [up] using b5 r z0 z1, g6⟩ rfl
set_option maxHeartbeats 4000000 in
theorem l_exec_59_1 {Z : ZW} {J : Int64} {n : Nat} {bu : Int} {q : RES} (hn : Z 4 0 = n) (hn2 : n ≤ 24) (hw : WFP (Z 5) (Z 6) (Z 7) n) (hc : ∀ i, 0 ≤ i → i < (n : Int) → (0 ≤ Z 27 i ∧ Z 27 i ≤ 9) ∧ (0 ≤ Z 29 i ∧ Z 29 i ≤ 10000)) : ∀ (d t : Nat) (a : Int) (paid : Bool) (rem ch : Int) (v : FI) (Z' : ZW), t + d = 3000 → (0 ≤ a ∧ a ≤ 24) → (0 ≤ rem ∧ rem ≤ 30000) → PX_59 Z (0, t, rem, ch, -1, v) Z' → q = rn n (Z 5) (Z 6) (Z 7) (Z 27) (Z 29) d t a paid rem ch v → OkZ none 22 24 [some (.ref 59), some (.ref 3), some (.ref 24), some (.int (I 1)), some (.int (I bu)), some (.ref 29), some (bI paid), some (.int (I a))] [] Z' J (fun r Z' J' => r = none ∧ J' = J ∧ PX_59 Z q Z') := by
  intro d
  induction d with
  | zero =>
    intro t a paid rem ch v Z' ht ha hrem hP hq
    obtain ⟨p0, p1, p2, p3, p4, p5, p6⟩ := id hP
    have e4 : Z' 4 0 = n := by rw [p6 4 0 (by decide) (by decide)]; exact hn
    have p1 : Z' 59 1 = t := p1
    have hq2 : q = if 0 ≤ a ∧ a < (n : Int) then (2, (t : Int), rem, ch, a, v) else (0, (t : Int), rem, ch, -1, v) := hq
    refine z_aload_n rfl rfl ?_
    refine z_getI (bi := 1) rfl rfl rfl rfl ?_
    refine z_sipush rfl (by decide) ?_
    refine z_icmp_ge rfl (by omega) (by omega) (fun h31 => ?_) (fun h31 => ?_)
    · refine z_aload_n rfl rfl ?_
      refine z_iload rfl rfl ?_
      refine z_callV1 rfl rfl rfl rfl rfl rfl (s_has (by omega) (by omega)) ?_
      refine z_ifb_eq rfl (fun h117 => ?_) (fun h117 => ?_)
      · have hno := of_decide_eq_false h117
        rw [if_neg (by rw [← e4]; exact hno)] at hq2
        exact z_vret rfl rfl ⟨rfl, rfl, by rw [hq2]; exact hP⟩
      · refine z_aload_n rfl rfl ?_
        refine z_iconst rfl ?_
        refine z_iload rfl rfl ?_
        refine z_callV2v rfl rfl rfl rfl rfl rfl (s_finish_59) ?_
        have hyes := of_decide_eq_true h117
        rw [if_pos (by rw [← e4]; exact hyes)] at hq2
        refine z_vret rfl rfl ⟨rfl, rfl, ?_⟩
        rw [hq2]
        refine ⟨by simp [up], by simp [up, p1], by simpa [up] using p2, by simpa [up] using p3, by simp [up], fun r r0 r1 => by simpa [up] using p5 r r0 r1, fun k j k1 k2 => by simpa [up, k1] using p6 k j k1 k2⟩
    · exfalso; omega
  | succ d ih =>
    intro t a paid rem ch v Z' ht ha hrem hP hq
    obtain ⟨p0, p1, p2, p3, p4, p5, p6⟩ := id hP
    have e4 : Z' 4 0 = n := by rw [p6 4 0 (by decide) (by decide)]; exact hn
    have p1 : Z' 59 1 = t := p1
    by_cases hin : 0 ≤ a ∧ a < (n : Int)
    rotate_left
    · have hq2 : q = (0, (t : Int), rem, ch, -1, v) := by rw [hq]; unfold rn; rw [if_neg hin]
      refine z_aload_n rfl rfl ?_
      refine z_getI (bi := 1) rfl rfl rfl rfl ?_
      refine z_sipush rfl (by decide) ?_
      refine z_icmp_ge rfl (by omega) (by omega) (fun h31 => ?_) (fun h31 => ?_)
      · refine z_aload_n rfl rfl ?_
        refine z_iload rfl rfl ?_
        refine z_callV1 rfl rfl rfl rfl rfl rfl (s_has (by omega) (by omega)) ?_
        refine z_ifb_eq rfl (fun h117 => ?_) (fun h117 => ?_)
        · exact z_vret rfl rfl ⟨rfl, rfl, by rw [hq2]; exact hP⟩
        · exact absurd (of_decide_eq_true h117) (by rw [e4]; exact hin)
      · refine z_aload_n rfl rfl ?_
        refine z_iload rfl rfl ?_
        refine z_callV1 rfl rfl rfl rfl rfl rfl (s_has (by omega) (by omega)) ?_
        refine z_ifb_eq rfl (fun h40 => ?_) (fun h40 => ?_)
        · refine z_aload_n rfl rfl ?_
          refine z_iload rfl rfl ?_
          refine z_callV1 rfl rfl rfl rfl rfl rfl (s_has (by omega) (by omega)) ?_
          refine z_ifb_eq rfl (fun h117 => ?_) (fun h117 => ?_)
          · exact z_vret rfl rfl ⟨rfl, rfl, by rw [hq2]; exact hP⟩
          · exact absurd (of_decide_eq_true h117) (by rw [e4]; exact hin)
        · exact absurd (of_decide_eq_true h40) (by rw [e4]; exact hin)
    have hca := hc a hin.1 hin.2
    have e27 : Z' 27 a = Z 27 a := p6 27 _ (by decide) (by decide)
    have een : Z' 29 a = Z 29 a := p6 29 _ (by decide) (by decide)
    obtain ⟨w1, w2, w3, w4, w5⟩ := hw a hin.1 hin.2
    obtain ⟨b, eb⟩ : ∃ b, b = (if 0 < Z 29 a then decide (Z 29 a ≤ rem) else paid) := ⟨_, rfl⟩
    obtain ⟨m, em⟩ : ∃ m, m = (if 0 < Z 29 a ∧ Z 29 a ≤ rem then rem - Z 29 a else rem) := ⟨_, rfl⟩
    obtain ⟨g, eg⟩ : ∃ g, g = (if 0 < Z 29 a ∧ Z 29 a ≤ rem then ch + 1 else ch) := ⟨_, rfl⟩
    have hm : 0 ≤ m ∧ m ≤ 30000 := by rw [em]; split <;> omega
    have hq2 : q = if b then rn n (Z 5) (Z 6) (Z 7) (Z 27) (Z 29) d (t + 1) (nA (Z 5 a) (Z 6 a) (Z 7 a) v a) b m g (nR (Z 5 a) (Z 6 a) (Z 7 a) v) else if Z 27 a ≤ m then rn n (Z 5) (Z 6) (Z 7) (Z 27) (Z 29) d (t + 1) (nA (Z 5 a) (Z 6 a) (Z 7 a) v a) b (m - Z 27 a) (g + 1) (nR (Z 5 a) (Z 6 a) (Z 7 a) v) else (1, (t : Int), m, g, a, v) := by
      rw [hq, eb, em, eg]
      show (if 0 ≤ a ∧ a < (n : Int) then _ else _) = _
      rw [if_pos hin]
    have K89 : ∀ (m2 g2 : Int) (Z2 : ZW), (0 ≤ m2 ∧ m2 ≤ 30000) → PX_59 Z (0, t, m2, g2, -1, v) Z2 → q = rn n (Z 5) (Z 6) (Z 7) (Z 27) (Z 29) d (t + 1) (nA (Z 5 a) (Z 6 a) (Z 7 a) v a) b m2 g2 (nR (Z 5 a) (Z 6 a) (Z 7 a) v) → OkZ none 22 89 [some (.ref 59), some (.ref 3), some (.ref 24), some (.int (I 1)), some (.int (I bu)), some (.ref 29), some (bI b), some (.int (I a))] [] Z2 J (fun r Z' J' => r = none ∧ J' = J ∧ PX_59 Z q Z') := by
      intro m2 g2 Z2 hm2 hP2 hq3
      obtain ⟨r0, r1, r2, r3, r4, r5, r6⟩ := hP2
      have f5 : Z2 5 = Z 5 := by funext j; exact r6 5 j (by decide) (by decide)
      have f6 : Z2 6 = Z 6 := by funext j; exact r6 6 j (by decide) (by decide)
      have f7 : Z2 7 = Z 7 := by funext j; exact r6 7 j (by decide) (by decide)
      have hpf := s_perform_59 (Z := Z2) (J := J) (n := n) (i := a) hn2 (by rw [f5, f6, f7]; exact hw) hin
      rw [f5, f6, f7, nA_congr (r5 (Z 6 a) (by omega) (by omega))] at hpf
      have hna := nA_in hw hn2 hin.1 hin.2 v
      refine z_aload_n rfl rfl ?_
      refine z_aload_n rfl rfl ?_
      refine z_iload rfl rfl ?_
      refine z_callV2g rfl rfl rfl rfl rfl rfl (hpf) (fun r93 Z93 J93 q93 => ?_)
      obtain ⟨rfl, rfl, y1, y2⟩ := q93
      show OkZ none 22 96 _ (.int (I (nA (Z 5 a) (Z 6 a) (Z 7 a) v a)) :: []) _ _ _
      refine z_istore rfl rfl rfl ?_
      refine z_aload_n rfl rfl ?_
      refine z_dup rfl rfl ?_
      refine z_getI (bi := 1) rfl rfl rfl rfl ?_
      refine z_iconst rfl ?_
      refine z_iadd rfl ?_
      refine z_putI (bi := 1) rfl rfl rfl rfl rfl ?_
      refine z_goto rfl ?_
      refine ih (t + 1) _ b m2 g2 _ _ (by omega) hna hm2 ?_ hq3
      refine ⟨by simp only [up]; rw [if_neg (fun z => absurd z.2 (by decide)), y2 59 0 (by decide)]; exact r0, ?_, by simp only [up]; rw [if_neg (fun z => absurd z.2 (by decide)), y2 59 2 (by decide)]; exact r2, by simp only [up]; rw [if_neg (fun z => absurd z.2 (by decide)), y2 59 3 (by decide)]; exact r3, by simp only [up]; rw [if_neg (fun z => absurd z.2 (by decide)), y2 59 4 (by decide)]; exact r4, fun r z0 z1 => ?_, fun k j k1 k2 => ?_⟩
      · have r1 : Z2 59 1 = t := r1
        have : Z93 59 1 = t := by rw [y2 59 1 (by decide)]; exact r1
        simp only [up]; rw [if_pos ⟨trivial, trivial⟩, this]; rfl
      · simp only [up]; rw [if_neg (fun z => absurd z.1 (by decide)), y1 r z0 z1]; exact nR_congr r5 (by omega) (fun z => by have := w4 z; omega) r z0 z1
      · simp only [up]; rw [if_neg (fun z => k1 z.1), y2 k j k2]; exact r6 k j k1 k2
    have K62 : ∀ (Z2 : ZW), PX_59 Z (0, t, m, g, -1, v) Z2 → OkZ none 22 62 [some (.ref 59), some (.ref 3), some (.ref 24), some (.int (I 1)), some (.int (I bu)), some (.ref 29), some (bI b), some (.int (I a))] [] Z2 J (fun r Z' J' => r = none ∧ J' = J ∧ PX_59 Z q Z') := by
      intro Z2 hP2
      obtain ⟨r0, r1, r2, r3, r4, r5, r6⟩ := id hP2
      have r2 : Z2 59 2 = m := r2
      have r3 : Z2 59 3 = g := r3
      have r1 : Z2 59 1 = t := r1
      have f27 : Z2 27 a = Z 27 a := r6 27 _ (by decide) (by decide)
      refine z_iload rfl rfl ?_
      refine z_ifb_ne rfl (fun h64 => ?_) (fun h64 => ?_)
      · rw [h64, if_pos rfl] at hq2
        exact K89 m g Z2 hm hP2 (by rw [hq2, h64])
      · refine z_aload_n rfl rfl ?_
        refine z_aload_n rfl rfl ?_
        refine z_getR rfl rfl rfl rfl ?_
        refine z_iload rfl rfl ?_
        refine z_iald rfl rfl (by omega) ?_
        refine z_callV1 rfl rfl rfl rfl rfl rfl (s_pay_59 (by rw [f27]; omega) (by rw [r2]; omega)) ?_
        refine z_ifb_ne rfl (fun h78 => ?_) (fun h78 => ?_)
        · have hle := of_decide_eq_true h78
          rw [f27, r2] at hle
          rw [h64, if_neg (by decide), if_pos hle] at hq2
          rw [f27, r2, if_pos hle, r3]
          refine K89 (m - Z 27 a) (g + 1) _ (by omega) ?_ (by rw [hq2, h64])
          exact ⟨by simpa [up] using r0, by simpa [up] using r1, by simp [up], by simp [up], by simpa [up] using r4, fun r z0 z1 => by simpa [up] using r5 r z0 z1, fun k j k1 k2 => by simpa [up, k1] using r6 k j k1 k2⟩
        · refine z_aload_n rfl rfl ?_
          refine z_iconst rfl ?_
          refine z_iload rfl rfl ?_
          refine z_callV2v rfl rfl rfl rfl rfl rfl (s_finish_59) ?_
          have hgt := of_decide_eq_false h78
          rw [f27, r2] at hgt
          rw [h64, if_neg (by decide), if_neg hgt] at hq2
          rw [f27, r2, if_neg hgt]
          refine z_vret rfl rfl ⟨rfl, rfl, ?_⟩
          rw [hq2]
          exact ⟨by simp [up], by simpa [up] using r1, by simpa [up] using r2, by simpa [up] using r3, by simp [up], fun r z0 z1 => by simpa [up] using r5 r z0 z1, fun k j k1 k2 => by simpa [up, k1] using r6 k j k1 k2⟩
    have p2 : Z' 59 2 = rem := p2
    have p3 : Z' 59 3 = ch := p3
    refine z_aload_n rfl rfl ?_
    refine z_getI (bi := 1) rfl rfl rfl rfl ?_
    refine z_sipush rfl (by decide) ?_
    refine z_icmp_ge rfl (by omega) (by omega) (fun h31 => ?_) (fun h31 => ?_)
    · exfalso; omega
    · refine z_aload_n rfl rfl ?_
      refine z_iload rfl rfl ?_
      refine z_callV1 rfl rfl rfl rfl rfl rfl (s_has (by omega) (by omega)) ?_
      refine z_ifb_eq rfl (fun h40 => ?_) (fun h40 => ?_)
      · exact absurd (show 0 ≤ a ∧ a < Z' 4 0 by omega) (of_decide_eq_false h40)
      · refine z_aload rfl rfl ?_
        refine z_iload rfl rfl ?_
        refine z_iald rfl rfl (by omega) ?_
        refine z_if_le rfl (by omega) (fun h48 => ?_) (fun h48 => ?_)
        · have hno : ¬ 0 < Z 29 a := by rw [← een]; omega
          rw [if_neg hno] at eb
          rw [if_neg (fun z => hno z.1)] at em eg
          rw [eb, em, eg] at K62
          exact K62 Z' hP
        · refine z_aload_n rfl rfl ?_
          refine z_aload rfl rfl ?_
          refine z_iload rfl rfl ?_
          refine z_iald rfl rfl (by omega) ?_
          refine z_callV1 rfl rfl rfl rfl rfl rfl (s_pay_59 (by rw [een]; omega) (by rw [p2]; omega)) ?_
          refine z_istore rfl rfl rfl ?_
          have hpos : 0 < Z 29 a := by rw [← een]; omega
          rw [if_pos hpos] at eb
          rw [een, p2, p3, ← eb]
          by_cases hle : Z 29 a ≤ rem
          · rw [if_pos ⟨hpos, hle⟩] at em eg
            rw [if_pos hle]
            refine K62 _ ?_
            rw [em, eg]
            exact ⟨by simpa [up] using p0, by simpa [up] using p1, by simp [up], by simp [up], by simpa [up] using p4, fun r z0 z1 => by simpa [up] using p5 r z0 z1, fun k j k1 k2 => by simpa [up, k1] using p6 k j k1 k2⟩
          · rw [if_neg (fun z => hle z.2)] at em eg
            rw [if_neg hle]
            refine K62 _ ?_
            rw [em, eg]
            exact hP
theorem s_exec_59_1 {Z : ZW} {J : Int64} {n : Nat} {bu : Int} (hn : Z 4 0 = n) (hn2 : n ≤ 24) (hw : WFP (Z 5) (Z 6) (Z 7) n) (hc : ∀ i, 0 ≤ i → i < (n : Int) → (0 ≤ Z 27 i ∧ Z 27 i ≤ 9) ∧ (0 ≤ Z 29 i ∧ Z 29 i ≤ 10000)) (hbu : 0 ≤ bu ∧ bu ≤ 30000) : Mz 22 [.ref 59, .ref 3, .ref 24, .int (I 1), .int (I bu)] Z J (fun r Z' J' => r = none ∧ J' = J ∧ PX_59 Z (rn n (Z 5) (Z 6) (Z 7) (Z 27) (Z 29) 3000 0 0 false bu 0 (fun _ => 0)) Z') := by
  unfold Mz
  refine z_aload_n rfl rfl ?_
  refine z_iload_n rfl rfl ?_
  refine z_callV1 rfl rfl rfl rfl rfl rfl (s_entries1) ?_
  refine z_astore rfl rfl rfl ?_
  refine z_aload_n rfl rfl ?_
  refine z_iload rfl rfl ?_
  refine z_callV1g rfl rfl rfl rfl rfl rfl (s_begin_59) (fun r10 Z10 J10 q10 => ?_)
  obtain ⟨rfl, rfl, b0, b2, b3, b4, b5, b6⟩ := q10
  show OkZ none 22 13 _ [] _ _ _
  refine z_iconst rfl ?_
  refine z_istore rfl rfl rfl ?_
  refine z_iconst rfl ?_
  refine z_istore rfl rfl rfl ?_
  refine z_aload_n rfl rfl ?_
  refine z_iconst rfl ?_
  refine z_putI (bi := 1) rfl rfl rfl rfl rfl ?_
  obtain ⟨Z1, hZ1⟩ : ∃ Z1, Z1 = up Z10 59 1 0 := ⟨_, rfl⟩
  rw [← hZ1]
  have g6 : ∀ (k : Nat) (j : Int), k ≠ 59 → k ≠ 60 → Z1 k j = Z k j := by intro k j k1 k2; rw [hZ1]; simp only [up]; rw [if_neg (fun z => k1 z.1)]; exact b6 k j k1 k2
  exact l_exec_59_1 (Z := Z) hn hn2 hw hc 3000 0 0 false bu 0 (fun _ => 0) Z1 (by omega) (by omega) hbu ⟨by rw [hZ1]; simpa [up] using b0, by rw [hZ1]; simp [up], by rw [hZ1]; simpa [up] using b2, by rw [hZ1]; simpa [up] using b3, by rw [hZ1]; simpa [up] using b4, fun r z0 z1 => by rw [hZ1]; simpa [up] using b5 r z0 z1, g6⟩ rfl
set_option maxHeartbeats 4000000 in
theorem l_exec_59_2 {Z : ZW} {J : Int64} {n : Nat} {bu : Int} {q : RES} (hn : Z 4 0 = n) (hn2 : n ≤ 24) (hw : WFP (Z 5) (Z 6) (Z 7) n) (hc : ∀ i, 0 ≤ i → i < (n : Int) → (0 ≤ Z 27 i ∧ Z 27 i ≤ 9) ∧ (0 ≤ Z 30 i ∧ Z 30 i ≤ 10000)) : ∀ (d t : Nat) (a : Int) (paid : Bool) (rem ch : Int) (v : FI) (Z' : ZW), t + d = 3000 → (0 ≤ a ∧ a ≤ 24) → (0 ≤ rem ∧ rem ≤ 30000) → PX_59 Z (0, t, rem, ch, -1, v) Z' → q = rn n (Z 5) (Z 6) (Z 7) (Z 27) (Z 30) d t a paid rem ch v → OkZ none 22 24 [some (.ref 59), some (.ref 3), some (.ref 24), some (.int (I 2)), some (.int (I bu)), some (.ref 30), some (bI paid), some (.int (I a))] [] Z' J (fun r Z' J' => r = none ∧ J' = J ∧ PX_59 Z q Z') := by
  intro d
  induction d with
  | zero =>
    intro t a paid rem ch v Z' ht ha hrem hP hq
    obtain ⟨p0, p1, p2, p3, p4, p5, p6⟩ := id hP
    have e4 : Z' 4 0 = n := by rw [p6 4 0 (by decide) (by decide)]; exact hn
    have p1 : Z' 59 1 = t := p1
    have hq2 : q = if 0 ≤ a ∧ a < (n : Int) then (2, (t : Int), rem, ch, a, v) else (0, (t : Int), rem, ch, -1, v) := hq
    refine z_aload_n rfl rfl ?_
    refine z_getI (bi := 1) rfl rfl rfl rfl ?_
    refine z_sipush rfl (by decide) ?_
    refine z_icmp_ge rfl (by omega) (by omega) (fun h31 => ?_) (fun h31 => ?_)
    · refine z_aload_n rfl rfl ?_
      refine z_iload rfl rfl ?_
      refine z_callV1 rfl rfl rfl rfl rfl rfl (s_has (by omega) (by omega)) ?_
      refine z_ifb_eq rfl (fun h117 => ?_) (fun h117 => ?_)
      · have hno := of_decide_eq_false h117
        rw [if_neg (by rw [← e4]; exact hno)] at hq2
        exact z_vret rfl rfl ⟨rfl, rfl, by rw [hq2]; exact hP⟩
      · refine z_aload_n rfl rfl ?_
        refine z_iconst rfl ?_
        refine z_iload rfl rfl ?_
        refine z_callV2v rfl rfl rfl rfl rfl rfl (s_finish_59) ?_
        have hyes := of_decide_eq_true h117
        rw [if_pos (by rw [← e4]; exact hyes)] at hq2
        refine z_vret rfl rfl ⟨rfl, rfl, ?_⟩
        rw [hq2]
        refine ⟨by simp [up], by simp [up, p1], by simpa [up] using p2, by simpa [up] using p3, by simp [up], fun r r0 r1 => by simpa [up] using p5 r r0 r1, fun k j k1 k2 => by simpa [up, k1] using p6 k j k1 k2⟩
    · exfalso; omega
  | succ d ih =>
    intro t a paid rem ch v Z' ht ha hrem hP hq
    obtain ⟨p0, p1, p2, p3, p4, p5, p6⟩ := id hP
    have e4 : Z' 4 0 = n := by rw [p6 4 0 (by decide) (by decide)]; exact hn
    have p1 : Z' 59 1 = t := p1
    by_cases hin : 0 ≤ a ∧ a < (n : Int)
    rotate_left
    · have hq2 : q = (0, (t : Int), rem, ch, -1, v) := by rw [hq]; unfold rn; rw [if_neg hin]
      refine z_aload_n rfl rfl ?_
      refine z_getI (bi := 1) rfl rfl rfl rfl ?_
      refine z_sipush rfl (by decide) ?_
      refine z_icmp_ge rfl (by omega) (by omega) (fun h31 => ?_) (fun h31 => ?_)
      · refine z_aload_n rfl rfl ?_
        refine z_iload rfl rfl ?_
        refine z_callV1 rfl rfl rfl rfl rfl rfl (s_has (by omega) (by omega)) ?_
        refine z_ifb_eq rfl (fun h117 => ?_) (fun h117 => ?_)
        · exact z_vret rfl rfl ⟨rfl, rfl, by rw [hq2]; exact hP⟩
        · exact absurd (of_decide_eq_true h117) (by rw [e4]; exact hin)
      · refine z_aload_n rfl rfl ?_
        refine z_iload rfl rfl ?_
        refine z_callV1 rfl rfl rfl rfl rfl rfl (s_has (by omega) (by omega)) ?_
        refine z_ifb_eq rfl (fun h40 => ?_) (fun h40 => ?_)
        · refine z_aload_n rfl rfl ?_
          refine z_iload rfl rfl ?_
          refine z_callV1 rfl rfl rfl rfl rfl rfl (s_has (by omega) (by omega)) ?_
          refine z_ifb_eq rfl (fun h117 => ?_) (fun h117 => ?_)
          · exact z_vret rfl rfl ⟨rfl, rfl, by rw [hq2]; exact hP⟩
          · exact absurd (of_decide_eq_true h117) (by rw [e4]; exact hin)
        · exact absurd (of_decide_eq_true h40) (by rw [e4]; exact hin)
    have hca := hc a hin.1 hin.2
    have e27 : Z' 27 a = Z 27 a := p6 27 _ (by decide) (by decide)
    have een : Z' 30 a = Z 30 a := p6 30 _ (by decide) (by decide)
    obtain ⟨w1, w2, w3, w4, w5⟩ := hw a hin.1 hin.2
    obtain ⟨b, eb⟩ : ∃ b, b = (if 0 < Z 30 a then decide (Z 30 a ≤ rem) else paid) := ⟨_, rfl⟩
    obtain ⟨m, em⟩ : ∃ m, m = (if 0 < Z 30 a ∧ Z 30 a ≤ rem then rem - Z 30 a else rem) := ⟨_, rfl⟩
    obtain ⟨g, eg⟩ : ∃ g, g = (if 0 < Z 30 a ∧ Z 30 a ≤ rem then ch + 1 else ch) := ⟨_, rfl⟩
    have hm : 0 ≤ m ∧ m ≤ 30000 := by rw [em]; split <;> omega
    have hq2 : q = if b then rn n (Z 5) (Z 6) (Z 7) (Z 27) (Z 30) d (t + 1) (nA (Z 5 a) (Z 6 a) (Z 7 a) v a) b m g (nR (Z 5 a) (Z 6 a) (Z 7 a) v) else if Z 27 a ≤ m then rn n (Z 5) (Z 6) (Z 7) (Z 27) (Z 30) d (t + 1) (nA (Z 5 a) (Z 6 a) (Z 7 a) v a) b (m - Z 27 a) (g + 1) (nR (Z 5 a) (Z 6 a) (Z 7 a) v) else (1, (t : Int), m, g, a, v) := by
      rw [hq, eb, em, eg]
      show (if 0 ≤ a ∧ a < (n : Int) then _ else _) = _
      rw [if_pos hin]
    have K89 : ∀ (m2 g2 : Int) (Z2 : ZW), (0 ≤ m2 ∧ m2 ≤ 30000) → PX_59 Z (0, t, m2, g2, -1, v) Z2 → q = rn n (Z 5) (Z 6) (Z 7) (Z 27) (Z 30) d (t + 1) (nA (Z 5 a) (Z 6 a) (Z 7 a) v a) b m2 g2 (nR (Z 5 a) (Z 6 a) (Z 7 a) v) → OkZ none 22 89 [some (.ref 59), some (.ref 3), some (.ref 24), some (.int (I 2)), some (.int (I bu)), some (.ref 30), some (bI b), some (.int (I a))] [] Z2 J (fun r Z' J' => r = none ∧ J' = J ∧ PX_59 Z q Z') := by
      intro m2 g2 Z2 hm2 hP2 hq3
      obtain ⟨r0, r1, r2, r3, r4, r5, r6⟩ := hP2
      have f5 : Z2 5 = Z 5 := by funext j; exact r6 5 j (by decide) (by decide)
      have f6 : Z2 6 = Z 6 := by funext j; exact r6 6 j (by decide) (by decide)
      have f7 : Z2 7 = Z 7 := by funext j; exact r6 7 j (by decide) (by decide)
      have hpf := s_perform_59 (Z := Z2) (J := J) (n := n) (i := a) hn2 (by rw [f5, f6, f7]; exact hw) hin
      rw [f5, f6, f7, nA_congr (r5 (Z 6 a) (by omega) (by omega))] at hpf
      have hna := nA_in hw hn2 hin.1 hin.2 v
      refine z_aload_n rfl rfl ?_
      refine z_aload_n rfl rfl ?_
      refine z_iload rfl rfl ?_
      refine z_callV2g rfl rfl rfl rfl rfl rfl (hpf) (fun r93 Z93 J93 q93 => ?_)
      obtain ⟨rfl, rfl, y1, y2⟩ := q93
      show OkZ none 22 96 _ (.int (I (nA (Z 5 a) (Z 6 a) (Z 7 a) v a)) :: []) _ _ _
      refine z_istore rfl rfl rfl ?_
      refine z_aload_n rfl rfl ?_
      refine z_dup rfl rfl ?_
      refine z_getI (bi := 1) rfl rfl rfl rfl ?_
      refine z_iconst rfl ?_
      refine z_iadd rfl ?_
      refine z_putI (bi := 1) rfl rfl rfl rfl rfl ?_
      refine z_goto rfl ?_
      refine ih (t + 1) _ b m2 g2 _ _ (by omega) hna hm2 ?_ hq3
      refine ⟨by simp only [up]; rw [if_neg (fun z => absurd z.2 (by decide)), y2 59 0 (by decide)]; exact r0, ?_, by simp only [up]; rw [if_neg (fun z => absurd z.2 (by decide)), y2 59 2 (by decide)]; exact r2, by simp only [up]; rw [if_neg (fun z => absurd z.2 (by decide)), y2 59 3 (by decide)]; exact r3, by simp only [up]; rw [if_neg (fun z => absurd z.2 (by decide)), y2 59 4 (by decide)]; exact r4, fun r z0 z1 => ?_, fun k j k1 k2 => ?_⟩
      · have r1 : Z2 59 1 = t := r1
        have : Z93 59 1 = t := by rw [y2 59 1 (by decide)]; exact r1
        simp only [up]; rw [if_pos ⟨trivial, trivial⟩, this]; rfl
      · simp only [up]; rw [if_neg (fun z => absurd z.1 (by decide)), y1 r z0 z1]; exact nR_congr r5 (by omega) (fun z => by have := w4 z; omega) r z0 z1
      · simp only [up]; rw [if_neg (fun z => k1 z.1), y2 k j k2]; exact r6 k j k1 k2
    have K62 : ∀ (Z2 : ZW), PX_59 Z (0, t, m, g, -1, v) Z2 → OkZ none 22 62 [some (.ref 59), some (.ref 3), some (.ref 24), some (.int (I 2)), some (.int (I bu)), some (.ref 30), some (bI b), some (.int (I a))] [] Z2 J (fun r Z' J' => r = none ∧ J' = J ∧ PX_59 Z q Z') := by
      intro Z2 hP2
      obtain ⟨r0, r1, r2, r3, r4, r5, r6⟩ := id hP2
      have r2 : Z2 59 2 = m := r2
      have r3 : Z2 59 3 = g := r3
      have r1 : Z2 59 1 = t := r1
      have f27 : Z2 27 a = Z 27 a := r6 27 _ (by decide) (by decide)
      refine z_iload rfl rfl ?_
      refine z_ifb_ne rfl (fun h64 => ?_) (fun h64 => ?_)
      · rw [h64, if_pos rfl] at hq2
        exact K89 m g Z2 hm hP2 (by rw [hq2, h64])
      · refine z_aload_n rfl rfl ?_
        refine z_aload_n rfl rfl ?_
        refine z_getR rfl rfl rfl rfl ?_
        refine z_iload rfl rfl ?_
        refine z_iald rfl rfl (by omega) ?_
        refine z_callV1 rfl rfl rfl rfl rfl rfl (s_pay_59 (by rw [f27]; omega) (by rw [r2]; omega)) ?_
        refine z_ifb_ne rfl (fun h78 => ?_) (fun h78 => ?_)
        · have hle := of_decide_eq_true h78
          rw [f27, r2] at hle
          rw [h64, if_neg (by decide), if_pos hle] at hq2
          rw [f27, r2, if_pos hle, r3]
          refine K89 (m - Z 27 a) (g + 1) _ (by omega) ?_ (by rw [hq2, h64])
          exact ⟨by simpa [up] using r0, by simpa [up] using r1, by simp [up], by simp [up], by simpa [up] using r4, fun r z0 z1 => by simpa [up] using r5 r z0 z1, fun k j k1 k2 => by simpa [up, k1] using r6 k j k1 k2⟩
        · refine z_aload_n rfl rfl ?_
          refine z_iconst rfl ?_
          refine z_iload rfl rfl ?_
          refine z_callV2v rfl rfl rfl rfl rfl rfl (s_finish_59) ?_
          have hgt := of_decide_eq_false h78
          rw [f27, r2] at hgt
          rw [h64, if_neg (by decide), if_neg hgt] at hq2
          rw [f27, r2, if_neg hgt]
          refine z_vret rfl rfl ⟨rfl, rfl, ?_⟩
          rw [hq2]
          exact ⟨by simp [up], by simpa [up] using r1, by simpa [up] using r2, by simpa [up] using r3, by simp [up], fun r z0 z1 => by simpa [up] using r5 r z0 z1, fun k j k1 k2 => by simpa [up, k1] using r6 k j k1 k2⟩
    have p2 : Z' 59 2 = rem := p2
    have p3 : Z' 59 3 = ch := p3
    refine z_aload_n rfl rfl ?_
    refine z_getI (bi := 1) rfl rfl rfl rfl ?_
    refine z_sipush rfl (by decide) ?_
    refine z_icmp_ge rfl (by omega) (by omega) (fun h31 => ?_) (fun h31 => ?_)
    · exfalso; omega
    · refine z_aload_n rfl rfl ?_
      refine z_iload rfl rfl ?_
      refine z_callV1 rfl rfl rfl rfl rfl rfl (s_has (by omega) (by omega)) ?_
      refine z_ifb_eq rfl (fun h40 => ?_) (fun h40 => ?_)
      · exact absurd (show 0 ≤ a ∧ a < Z' 4 0 by omega) (of_decide_eq_false h40)
      · refine z_aload rfl rfl ?_
        refine z_iload rfl rfl ?_
        refine z_iald rfl rfl (by omega) ?_
        refine z_if_le rfl (by omega) (fun h48 => ?_) (fun h48 => ?_)
        · have hno : ¬ 0 < Z 30 a := by rw [← een]; omega
          rw [if_neg hno] at eb
          rw [if_neg (fun z => hno z.1)] at em eg
          rw [eb, em, eg] at K62
          exact K62 Z' hP
        · refine z_aload_n rfl rfl ?_
          refine z_aload rfl rfl ?_
          refine z_iload rfl rfl ?_
          refine z_iald rfl rfl (by omega) ?_
          refine z_callV1 rfl rfl rfl rfl rfl rfl (s_pay_59 (by rw [een]; omega) (by rw [p2]; omega)) ?_
          refine z_istore rfl rfl rfl ?_
          have hpos : 0 < Z 30 a := by rw [← een]; omega
          rw [if_pos hpos] at eb
          rw [een, p2, p3, ← eb]
          by_cases hle : Z 30 a ≤ rem
          · rw [if_pos ⟨hpos, hle⟩] at em eg
            rw [if_pos hle]
            refine K62 _ ?_
            rw [em, eg]
            exact ⟨by simpa [up] using p0, by simpa [up] using p1, by simp [up], by simp [up], by simpa [up] using p4, fun r z0 z1 => by simpa [up] using p5 r z0 z1, fun k j k1 k2 => by simpa [up, k1] using p6 k j k1 k2⟩
          · rw [if_neg (fun z => hle z.2)] at em eg
            rw [if_neg hle]
            refine K62 _ ?_
            rw [em, eg]
            exact hP
theorem s_exec_59_2 {Z : ZW} {J : Int64} {n : Nat} {bu : Int} (hn : Z 4 0 = n) (hn2 : n ≤ 24) (hw : WFP (Z 5) (Z 6) (Z 7) n) (hc : ∀ i, 0 ≤ i → i < (n : Int) → (0 ≤ Z 27 i ∧ Z 27 i ≤ 9) ∧ (0 ≤ Z 30 i ∧ Z 30 i ≤ 10000)) (hbu : 0 ≤ bu ∧ bu ≤ 30000) : Mz 22 [.ref 59, .ref 3, .ref 24, .int (I 2), .int (I bu)] Z J (fun r Z' J' => r = none ∧ J' = J ∧ PX_59 Z (rn n (Z 5) (Z 6) (Z 7) (Z 27) (Z 30) 3000 0 0 false bu 0 (fun _ => 0)) Z') := by
  unfold Mz
  refine z_aload_n rfl rfl ?_
  refine z_iload_n rfl rfl ?_
  refine z_callV1 rfl rfl rfl rfl rfl rfl (s_entries2) ?_
  refine z_astore rfl rfl rfl ?_
  refine z_aload_n rfl rfl ?_
  refine z_iload rfl rfl ?_
  refine z_callV1g rfl rfl rfl rfl rfl rfl (s_begin_59) (fun r10 Z10 J10 q10 => ?_)
  obtain ⟨rfl, rfl, b0, b2, b3, b4, b5, b6⟩ := q10
  show OkZ none 22 13 _ [] _ _ _
  refine z_iconst rfl ?_
  refine z_istore rfl rfl rfl ?_
  refine z_iconst rfl ?_
  refine z_istore rfl rfl rfl ?_
  refine z_aload_n rfl rfl ?_
  refine z_iconst rfl ?_
  refine z_putI (bi := 1) rfl rfl rfl rfl rfl ?_
  obtain ⟨Z1, hZ1⟩ : ∃ Z1, Z1 = up Z10 59 1 0 := ⟨_, rfl⟩
  rw [← hZ1]
  have g6 : ∀ (k : Nat) (j : Int), k ≠ 59 → k ≠ 60 → Z1 k j = Z k j := by intro k j k1 k2; rw [hZ1]; simp only [up]; rw [if_neg (fun z => k1 z.1)]; exact b6 k j k1 k2
  exact l_exec_59_2 (Z := Z) hn hn2 hw hc 3000 0 0 false bu 0 (fun _ => 0) Z1 (by omega) (by omega) hbu ⟨by rw [hZ1]; simpa [up] using b0, by rw [hZ1]; simp [up], by rw [hZ1]; simpa [up] using b2, by rw [hZ1]; simpa [up] using b3, by rw [hZ1]; simpa [up] using b4, fun r z0 z1 => by rw [hZ1]; simpa [up] using b5 r z0 z1, g6⟩ rfl
def PX_61 (Z : ZW) (q : RES) (Z' : ZW) : Prop := Z' 61 0 = q.1 ∧ Z' 61 1 = q.2.1 ∧ Z' 61 2 = q.2.2.1 ∧ Z' 61 3 = q.2.2.2.1 ∧ Z' 61 4 = q.2.2.2.2.1 ∧ (∀ r, 0 ≤ r → r < (4 : Int) → Z' 62 r = q.2.2.2.2.2 r) ∧ ∀ (k : Nat) (j : Int), k ≠ 61 → k ≠ 62 → Z' k j = Z k j
set_option maxHeartbeats 4000000 in
theorem l_exec_61_0 {Z : ZW} {J : Int64} {n : Nat} {bu : Int} {q : RES} (hn : Z 4 0 = n) (hn2 : n ≤ 24) (hw : WFP (Z 5) (Z 6) (Z 7) n) (hc : ∀ i, 0 ≤ i → i < (n : Int) → (0 ≤ Z 27 i ∧ Z 27 i ≤ 9) ∧ (0 ≤ Z 28 i ∧ Z 28 i ≤ 10000)) : ∀ (d t : Nat) (a : Int) (paid : Bool) (rem ch : Int) (v : FI) (Z' : ZW), t + d = 3000 → (0 ≤ a ∧ a ≤ 24) → (0 ≤ rem ∧ rem ≤ 30000) → PX_61 Z (0, t, rem, ch, -1, v) Z' → q = rn n (Z 5) (Z 6) (Z 7) (Z 27) (Z 28) d t a paid rem ch v → OkZ none 22 24 [some (.ref 61), some (.ref 3), some (.ref 24), some (.int (I 0)), some (.int (I bu)), some (.ref 28), some (bI paid), some (.int (I a))] [] Z' J (fun r Z' J' => r = none ∧ J' = J ∧ PX_61 Z q Z') := by
  intro d
  induction d with
  | zero =>
    intro t a paid rem ch v Z' ht ha hrem hP hq
    obtain ⟨p0, p1, p2, p3, p4, p5, p6⟩ := id hP
    have e4 : Z' 4 0 = n := by rw [p6 4 0 (by decide) (by decide)]; exact hn
    have p1 : Z' 61 1 = t := p1
    have hq2 : q = if 0 ≤ a ∧ a < (n : Int) then (2, (t : Int), rem, ch, a, v) else (0, (t : Int), rem, ch, -1, v) := hq
    refine z_aload_n rfl rfl ?_
    refine z_getI (bi := 1) rfl rfl rfl rfl ?_
    refine z_sipush rfl (by decide) ?_
    refine z_icmp_ge rfl (by omega) (by omega) (fun h31 => ?_) (fun h31 => ?_)
    · refine z_aload_n rfl rfl ?_
      refine z_iload rfl rfl ?_
      refine z_callV1 rfl rfl rfl rfl rfl rfl (s_has (by omega) (by omega)) ?_
      refine z_ifb_eq rfl (fun h117 => ?_) (fun h117 => ?_)
      · have hno := of_decide_eq_false h117
        rw [if_neg (by rw [← e4]; exact hno)] at hq2
        exact z_vret rfl rfl ⟨rfl, rfl, by rw [hq2]; exact hP⟩
      · refine z_aload_n rfl rfl ?_
        refine z_iconst rfl ?_
        refine z_iload rfl rfl ?_
        refine z_callV2v rfl rfl rfl rfl rfl rfl (s_finish_61) ?_
        have hyes := of_decide_eq_true h117
        rw [if_pos (by rw [← e4]; exact hyes)] at hq2
        refine z_vret rfl rfl ⟨rfl, rfl, ?_⟩
        rw [hq2]
        refine ⟨by simp [up], by simp [up, p1], by simpa [up] using p2, by simpa [up] using p3, by simp [up], fun r r0 r1 => by simpa [up] using p5 r r0 r1, fun k j k1 k2 => by simpa [up, k1] using p6 k j k1 k2⟩
    · exfalso; omega
  | succ d ih =>
    intro t a paid rem ch v Z' ht ha hrem hP hq
    obtain ⟨p0, p1, p2, p3, p4, p5, p6⟩ := id hP
    have e4 : Z' 4 0 = n := by rw [p6 4 0 (by decide) (by decide)]; exact hn
    have p1 : Z' 61 1 = t := p1
    by_cases hin : 0 ≤ a ∧ a < (n : Int)
    rotate_left
    · have hq2 : q = (0, (t : Int), rem, ch, -1, v) := by rw [hq]; unfold rn; rw [if_neg hin]
      refine z_aload_n rfl rfl ?_
      refine z_getI (bi := 1) rfl rfl rfl rfl ?_
      refine z_sipush rfl (by decide) ?_
      refine z_icmp_ge rfl (by omega) (by omega) (fun h31 => ?_) (fun h31 => ?_)
      · refine z_aload_n rfl rfl ?_
        refine z_iload rfl rfl ?_
        refine z_callV1 rfl rfl rfl rfl rfl rfl (s_has (by omega) (by omega)) ?_
        refine z_ifb_eq rfl (fun h117 => ?_) (fun h117 => ?_)
        · exact z_vret rfl rfl ⟨rfl, rfl, by rw [hq2]; exact hP⟩
        · exact absurd (of_decide_eq_true h117) (by rw [e4]; exact hin)
      · refine z_aload_n rfl rfl ?_
        refine z_iload rfl rfl ?_
        refine z_callV1 rfl rfl rfl rfl rfl rfl (s_has (by omega) (by omega)) ?_
        refine z_ifb_eq rfl (fun h40 => ?_) (fun h40 => ?_)
        · refine z_aload_n rfl rfl ?_
          refine z_iload rfl rfl ?_
          refine z_callV1 rfl rfl rfl rfl rfl rfl (s_has (by omega) (by omega)) ?_
          refine z_ifb_eq rfl (fun h117 => ?_) (fun h117 => ?_)
          · exact z_vret rfl rfl ⟨rfl, rfl, by rw [hq2]; exact hP⟩
          · exact absurd (of_decide_eq_true h117) (by rw [e4]; exact hin)
        · exact absurd (of_decide_eq_true h40) (by rw [e4]; exact hin)
    have hca := hc a hin.1 hin.2
    have e27 : Z' 27 a = Z 27 a := p6 27 _ (by decide) (by decide)
    have een : Z' 28 a = Z 28 a := p6 28 _ (by decide) (by decide)
    obtain ⟨w1, w2, w3, w4, w5⟩ := hw a hin.1 hin.2
    obtain ⟨b, eb⟩ : ∃ b, b = (if 0 < Z 28 a then decide (Z 28 a ≤ rem) else paid) := ⟨_, rfl⟩
    obtain ⟨m, em⟩ : ∃ m, m = (if 0 < Z 28 a ∧ Z 28 a ≤ rem then rem - Z 28 a else rem) := ⟨_, rfl⟩
    obtain ⟨g, eg⟩ : ∃ g, g = (if 0 < Z 28 a ∧ Z 28 a ≤ rem then ch + 1 else ch) := ⟨_, rfl⟩
    have hm : 0 ≤ m ∧ m ≤ 30000 := by rw [em]; split <;> omega
    have hq2 : q = if b then rn n (Z 5) (Z 6) (Z 7) (Z 27) (Z 28) d (t + 1) (nA (Z 5 a) (Z 6 a) (Z 7 a) v a) b m g (nR (Z 5 a) (Z 6 a) (Z 7 a) v) else if Z 27 a ≤ m then rn n (Z 5) (Z 6) (Z 7) (Z 27) (Z 28) d (t + 1) (nA (Z 5 a) (Z 6 a) (Z 7 a) v a) b (m - Z 27 a) (g + 1) (nR (Z 5 a) (Z 6 a) (Z 7 a) v) else (1, (t : Int), m, g, a, v) := by
      rw [hq, eb, em, eg]
      show (if 0 ≤ a ∧ a < (n : Int) then _ else _) = _
      rw [if_pos hin]
    have K89 : ∀ (m2 g2 : Int) (Z2 : ZW), (0 ≤ m2 ∧ m2 ≤ 30000) → PX_61 Z (0, t, m2, g2, -1, v) Z2 → q = rn n (Z 5) (Z 6) (Z 7) (Z 27) (Z 28) d (t + 1) (nA (Z 5 a) (Z 6 a) (Z 7 a) v a) b m2 g2 (nR (Z 5 a) (Z 6 a) (Z 7 a) v) → OkZ none 22 89 [some (.ref 61), some (.ref 3), some (.ref 24), some (.int (I 0)), some (.int (I bu)), some (.ref 28), some (bI b), some (.int (I a))] [] Z2 J (fun r Z' J' => r = none ∧ J' = J ∧ PX_61 Z q Z') := by
      intro m2 g2 Z2 hm2 hP2 hq3
      obtain ⟨r0, r1, r2, r3, r4, r5, r6⟩ := hP2
      have f5 : Z2 5 = Z 5 := by funext j; exact r6 5 j (by decide) (by decide)
      have f6 : Z2 6 = Z 6 := by funext j; exact r6 6 j (by decide) (by decide)
      have f7 : Z2 7 = Z 7 := by funext j; exact r6 7 j (by decide) (by decide)
      have hpf := s_perform_61 (Z := Z2) (J := J) (n := n) (i := a) hn2 (by rw [f5, f6, f7]; exact hw) hin
      rw [f5, f6, f7, nA_congr (r5 (Z 6 a) (by omega) (by omega))] at hpf
      have hna := nA_in hw hn2 hin.1 hin.2 v
      refine z_aload_n rfl rfl ?_
      refine z_aload_n rfl rfl ?_
      refine z_iload rfl rfl ?_
      refine z_callV2g rfl rfl rfl rfl rfl rfl (hpf) (fun r93 Z93 J93 q93 => ?_)
      obtain ⟨rfl, rfl, y1, y2⟩ := q93
      show OkZ none 22 96 _ (.int (I (nA (Z 5 a) (Z 6 a) (Z 7 a) v a)) :: []) _ _ _
      refine z_istore rfl rfl rfl ?_
      refine z_aload_n rfl rfl ?_
      refine z_dup rfl rfl ?_
      refine z_getI (bi := 1) rfl rfl rfl rfl ?_
      refine z_iconst rfl ?_
      refine z_iadd rfl ?_
      refine z_putI (bi := 1) rfl rfl rfl rfl rfl ?_
      refine z_goto rfl ?_
      refine ih (t + 1) _ b m2 g2 _ _ (by omega) hna hm2 ?_ hq3
      refine ⟨by simp only [up]; rw [if_neg (fun z => absurd z.2 (by decide)), y2 61 0 (by decide)]; exact r0, ?_, by simp only [up]; rw [if_neg (fun z => absurd z.2 (by decide)), y2 61 2 (by decide)]; exact r2, by simp only [up]; rw [if_neg (fun z => absurd z.2 (by decide)), y2 61 3 (by decide)]; exact r3, by simp only [up]; rw [if_neg (fun z => absurd z.2 (by decide)), y2 61 4 (by decide)]; exact r4, fun r z0 z1 => ?_, fun k j k1 k2 => ?_⟩
      · have r1 : Z2 61 1 = t := r1
        have : Z93 61 1 = t := by rw [y2 61 1 (by decide)]; exact r1
        simp only [up]; rw [if_pos ⟨trivial, trivial⟩, this]; rfl
      · simp only [up]; rw [if_neg (fun z => absurd z.1 (by decide)), y1 r z0 z1]; exact nR_congr r5 (by omega) (fun z => by have := w4 z; omega) r z0 z1
      · simp only [up]; rw [if_neg (fun z => k1 z.1), y2 k j k2]; exact r6 k j k1 k2
    have K62 : ∀ (Z2 : ZW), PX_61 Z (0, t, m, g, -1, v) Z2 → OkZ none 22 62 [some (.ref 61), some (.ref 3), some (.ref 24), some (.int (I 0)), some (.int (I bu)), some (.ref 28), some (bI b), some (.int (I a))] [] Z2 J (fun r Z' J' => r = none ∧ J' = J ∧ PX_61 Z q Z') := by
      intro Z2 hP2
      obtain ⟨r0, r1, r2, r3, r4, r5, r6⟩ := id hP2
      have r2 : Z2 61 2 = m := r2
      have r3 : Z2 61 3 = g := r3
      have r1 : Z2 61 1 = t := r1
      have f27 : Z2 27 a = Z 27 a := r6 27 _ (by decide) (by decide)
      refine z_iload rfl rfl ?_
      refine z_ifb_ne rfl (fun h64 => ?_) (fun h64 => ?_)
      · rw [h64, if_pos rfl] at hq2
        exact K89 m g Z2 hm hP2 (by rw [hq2, h64])
      · refine z_aload_n rfl rfl ?_
        refine z_aload_n rfl rfl ?_
        refine z_getR rfl rfl rfl rfl ?_
        refine z_iload rfl rfl ?_
        refine z_iald rfl rfl (by omega) ?_
        refine z_callV1 rfl rfl rfl rfl rfl rfl (s_pay_61 (by rw [f27]; omega) (by rw [r2]; omega)) ?_
        refine z_ifb_ne rfl (fun h78 => ?_) (fun h78 => ?_)
        · have hle := of_decide_eq_true h78
          rw [f27, r2] at hle
          rw [h64, if_neg (by decide), if_pos hle] at hq2
          rw [f27, r2, if_pos hle, r3]
          refine K89 (m - Z 27 a) (g + 1) _ (by omega) ?_ (by rw [hq2, h64])
          exact ⟨by simpa [up] using r0, by simpa [up] using r1, by simp [up], by simp [up], by simpa [up] using r4, fun r z0 z1 => by simpa [up] using r5 r z0 z1, fun k j k1 k2 => by simpa [up, k1] using r6 k j k1 k2⟩
        · refine z_aload_n rfl rfl ?_
          refine z_iconst rfl ?_
          refine z_iload rfl rfl ?_
          refine z_callV2v rfl rfl rfl rfl rfl rfl (s_finish_61) ?_
          have hgt := of_decide_eq_false h78
          rw [f27, r2] at hgt
          rw [h64, if_neg (by decide), if_neg hgt] at hq2
          rw [f27, r2, if_neg hgt]
          refine z_vret rfl rfl ⟨rfl, rfl, ?_⟩
          rw [hq2]
          exact ⟨by simp [up], by simpa [up] using r1, by simpa [up] using r2, by simpa [up] using r3, by simp [up], fun r z0 z1 => by simpa [up] using r5 r z0 z1, fun k j k1 k2 => by simpa [up, k1] using r6 k j k1 k2⟩
    have p2 : Z' 61 2 = rem := p2
    have p3 : Z' 61 3 = ch := p3
    refine z_aload_n rfl rfl ?_
    refine z_getI (bi := 1) rfl rfl rfl rfl ?_
    refine z_sipush rfl (by decide) ?_
    refine z_icmp_ge rfl (by omega) (by omega) (fun h31 => ?_) (fun h31 => ?_)
    · exfalso; omega
    · refine z_aload_n rfl rfl ?_
      refine z_iload rfl rfl ?_
      refine z_callV1 rfl rfl rfl rfl rfl rfl (s_has (by omega) (by omega)) ?_
      refine z_ifb_eq rfl (fun h40 => ?_) (fun h40 => ?_)
      · exact absurd (show 0 ≤ a ∧ a < Z' 4 0 by omega) (of_decide_eq_false h40)
      · refine z_aload rfl rfl ?_
        refine z_iload rfl rfl ?_
        refine z_iald rfl rfl (by omega) ?_
        refine z_if_le rfl (by omega) (fun h48 => ?_) (fun h48 => ?_)
        · have hno : ¬ 0 < Z 28 a := by rw [← een]; omega
          rw [if_neg hno] at eb
          rw [if_neg (fun z => hno z.1)] at em eg
          rw [eb, em, eg] at K62
          exact K62 Z' hP
        · refine z_aload_n rfl rfl ?_
          refine z_aload rfl rfl ?_
          refine z_iload rfl rfl ?_
          refine z_iald rfl rfl (by omega) ?_
          refine z_callV1 rfl rfl rfl rfl rfl rfl (s_pay_61 (by rw [een]; omega) (by rw [p2]; omega)) ?_
          refine z_istore rfl rfl rfl ?_
          have hpos : 0 < Z 28 a := by rw [← een]; omega
          rw [if_pos hpos] at eb
          rw [een, p2, p3, ← eb]
          by_cases hle : Z 28 a ≤ rem
          · rw [if_pos ⟨hpos, hle⟩] at em eg
            rw [if_pos hle]
            refine K62 _ ?_
            rw [em, eg]
            exact ⟨by simpa [up] using p0, by simpa [up] using p1, by simp [up], by simp [up], by simpa [up] using p4, fun r z0 z1 => by simpa [up] using p5 r z0 z1, fun k j k1 k2 => by simpa [up, k1] using p6 k j k1 k2⟩
          · rw [if_neg (fun z => hle z.2)] at em eg
            rw [if_neg hle]
            refine K62 _ ?_
            rw [em, eg]
            exact hP
theorem s_exec_61_0 {Z : ZW} {J : Int64} {n : Nat} {bu : Int} (hn : Z 4 0 = n) (hn2 : n ≤ 24) (hw : WFP (Z 5) (Z 6) (Z 7) n) (hc : ∀ i, 0 ≤ i → i < (n : Int) → (0 ≤ Z 27 i ∧ Z 27 i ≤ 9) ∧ (0 ≤ Z 28 i ∧ Z 28 i ≤ 10000)) (hbu : 0 ≤ bu ∧ bu ≤ 30000) : Mz 22 [.ref 61, .ref 3, .ref 24, .int (I 0), .int (I bu)] Z J (fun r Z' J' => r = none ∧ J' = J ∧ PX_61 Z (rn n (Z 5) (Z 6) (Z 7) (Z 27) (Z 28) 3000 0 0 false bu 0 (fun _ => 0)) Z') := by
  unfold Mz
  refine z_aload_n rfl rfl ?_
  refine z_iload_n rfl rfl ?_
  refine z_callV1 rfl rfl rfl rfl rfl rfl (s_entries0) ?_
  refine z_astore rfl rfl rfl ?_
  refine z_aload_n rfl rfl ?_
  refine z_iload rfl rfl ?_
  refine z_callV1g rfl rfl rfl rfl rfl rfl (s_begin_61) (fun r10 Z10 J10 q10 => ?_)
  obtain ⟨rfl, rfl, b0, b2, b3, b4, b5, b6⟩ := q10
  show OkZ none 22 13 _ [] _ _ _
  refine z_iconst rfl ?_
  refine z_istore rfl rfl rfl ?_
  refine z_iconst rfl ?_
  refine z_istore rfl rfl rfl ?_
  refine z_aload_n rfl rfl ?_
  refine z_iconst rfl ?_
  refine z_putI (bi := 1) rfl rfl rfl rfl rfl ?_
  obtain ⟨Z1, hZ1⟩ : ∃ Z1, Z1 = up Z10 61 1 0 := ⟨_, rfl⟩
  rw [← hZ1]
  have g6 : ∀ (k : Nat) (j : Int), k ≠ 61 → k ≠ 62 → Z1 k j = Z k j := by intro k j k1 k2; rw [hZ1]; simp only [up]; rw [if_neg (fun z => k1 z.1)]; exact b6 k j k1 k2
  exact l_exec_61_0 (Z := Z) hn hn2 hw hc 3000 0 0 false bu 0 (fun _ => 0) Z1 (by omega) (by omega) hbu ⟨by rw [hZ1]; simpa [up] using b0, by rw [hZ1]; simp [up], by rw [hZ1]; simpa [up] using b2, by rw [hZ1]; simpa [up] using b3, by rw [hZ1]; simpa [up] using b4, fun r z0 z1 => by rw [hZ1]; simpa [up] using b5 r z0 z1, g6⟩ rfl
end
section
/-! the class: setups are copied, saved and restored -/
/-- a setup at cell r, its ints at the labels a, a + 1 .. -/
def SC (r a : Nat) : Prop := LAYC[r]? = some (false, 5, a, [none, some (r + 1), some (r + 2), some (r + 3), some (r + 4)]) ∧ LAYC[r + 1]? = some (true, 0, a + 1, List.replicate 24 none) ∧ LAYC[r + 2]? = some (true, 0, a + 2, List.replicate 24 none) ∧ LAYC[r + 3]? = some (true, 0, a + 3, List.replicate 24 none) ∧ LAYC[r + 4]? = some (true, 0, a + 4, List.replicate 8 none)
theorem SC4 : SC 3 4 := ⟨rfl, rfl, rfl, rfl, rfl⟩
theorem SC9 : SC 8 9 := ⟨rfl, rfl, rfl, rfl, rfl⟩
theorem SCp : ∀ k, k < 5 → SC (34 + 5 * k) (34 + 5 * k) := by
  intro k hk
  match k, hk with
  | 0, _ => exact ⟨rfl, rfl, rfl, rfl, rfl⟩
  | 1, _ => exact ⟨rfl, rfl, rfl, rfl, rfl⟩
  | 2, _ => exact ⟨rfl, rfl, rfl, rfl, rfl⟩
  | 3, _ => exact ⟨rfl, rfl, rfl, rfl, rfl⟩
  | 4, _ => exact ⟨rfl, rfl, rfl, rfl, rfl⟩
theorem SC_lt {r a : Nat} (h : SC r a) : r < 80 := (List.getElem?_eq_some_iff.mp h.1).1
theorem blt_of {a b : Nat} (h : a < b) : Nat.blt a b = true := by simpa [Nat.blt] using Nat.ble_eq_true_of_le h
def tkP (Z : ZW) (a b : Nat) : ZW := cpy (cpy (cpy (up Z a 0 (Z b 0)) (b + 1) (a + 1) 24) (b + 2) (a + 2) 24) (b + 3) (a + 3) 24
def tkA (Z : ZW) (a b : Nat) : ZW := cpy (tkP Z a b) (b + 4) (a + 4) 8
theorem s_takeP {Z : ZW} {J : Int64} {r s a b : Nat} (ha : SC r a) (hb : SC s b) : D 45 [.ref r, .ref s] Z J none (tkP Z a b) J := by
  unfold D Mz
  have la := SC_lt ha
  have lb := SC_lt hb
  refine z_aload_n rfl rfl ?_
  refine z_aload_n rfl rfl ?_
  refine z_getI (bi := 0) rfl hb.1 rfl rfl ?_
  refine z_putI (bi := 0) rfl ha.1 rfl rfl rfl ?_
  refine z_aload_n rfl rfl ?_
  refine z_getR rfl hb.1 rfl (blt_of (by omega)) ?_
  refine z_iconst rfl ?_
  refine z_aload_n rfl rfl ?_
  refine z_getR rfl ha.1 rfl (blt_of (by omega)) ?_
  refine z_iconst rfl ?_
  refine z_bipush rfl (by decide) ?_
  refine z_copy rfl hb.2.1 ha.2.1 (by decide) (by decide) (by decide) (Nat.le_of_ble_eq_true rfl) ?_
  refine z_aload_n rfl rfl ?_
  refine z_getR rfl hb.1 rfl (blt_of (by omega)) ?_
  refine z_iconst rfl ?_
  refine z_aload_n rfl rfl ?_
  refine z_getR rfl ha.1 rfl (blt_of (by omega)) ?_
  refine z_iconst rfl ?_
  refine z_bipush rfl (by decide) ?_
  refine z_copy rfl hb.2.2.1 ha.2.2.1 (by decide) (by decide) (by decide) (Nat.le_of_ble_eq_true rfl) ?_
  refine z_aload_n rfl rfl ?_
  refine z_getR rfl hb.1 rfl (blt_of (by omega)) ?_
  refine z_iconst rfl ?_
  refine z_aload_n rfl rfl ?_
  refine z_getR rfl ha.1 rfl (blt_of (by omega)) ?_
  refine z_iconst rfl ?_
  refine z_bipush rfl (by decide) ?_
  refine z_copy rfl hb.2.2.2.1 ha.2.2.2.1 (by decide) (by decide) (by decide) (Nat.le_of_ble_eq_true rfl) ?_
  exact z_vret rfl rfl ⟨rfl, rfl, rfl⟩
theorem s_takeA {Z : ZW} {J : Int64} {r s a b : Nat} (ha : SC r a) (hb : SC s b) : D 46 [.ref r, .ref s] Z J none (tkA Z a b) J := by
  unfold D Mz
  have la := SC_lt ha
  have lb := SC_lt hb
  refine z_aload_n rfl rfl ?_
  refine z_aload_n rfl rfl ?_
  refine z_callV1v rfl rfl ha.1 rfl rfl rfl (s_takeP ha hb) ?_
  refine z_aload_n rfl rfl ?_
  refine z_getR rfl hb.1 rfl (blt_of (by omega)) ?_
  refine z_iconst rfl ?_
  refine z_aload_n rfl rfl ?_
  refine z_getR rfl ha.1 rfl (blt_of (by omega)) ?_
  refine z_iconst rfl ?_
  refine z_bipush rfl (by decide) ?_
  refine z_copy rfl hb.2.2.2.2 ha.2.2.2.2 (by decide) (by decide) (by decide) (Nat.le_of_ble_eq_true rfl) ?_
  exact z_vret rfl rfl ⟨rfl, rfl, rfl⟩
theorem cpy_eq {Z : ZW} {k0 k1 : Nat} {n j : Int} (h0 : 0 ≤ j) (h1 : j < n) : cpy Z k0 k1 n k1 j = Z k0 j := by
  unfold cpy
  rw [if_pos ⟨rfl, h0, h1⟩]
theorem cpy_ne {Z : ZW} {k0 k1 k : Nat} {n j : Int} (h : k ≠ k1) : cpy Z k0 k1 n k j = Z k j := by
  unfold cpy
  rw [if_neg (fun q => h q.1)]
theorem up_eq {Z : ZW} {k : Nat} {j v : Int} : up Z k j v k j = v := by simp [up]
theorem up_ne {Z : ZW} {k k' : Nat} {j j' v : Int} (h : k' ≠ k) : up Z k j v k' j' = Z k' j' := by
  unfold up
  rw [if_neg (fun q => h q.1)]
theorem up_nj {Z : ZW} {k k' : Nat} {j j' v : Int} (h : j' ≠ j) : up Z k j v k' j' = Z k' j' := by
  unfold up
  rw [if_neg (fun q => h q.2)]
/-- the setup at a is that which stood at b -/
def Cp (Z Z' : ZW) (a b : Nat) : Prop := Z' a 0 = Z b 0 ∧ (∀ j, 0 ≤ j → j < (24 : Int) → Z' (a + 1) j = Z (b + 1) j ∧ Z' (a + 2) j = Z (b + 2) j ∧ Z' (a + 3) j = Z (b + 3) j) ∧ (∀ j, 0 ≤ j → j < (8 : Int) → Z' (a + 4) j = Z (b + 4) j)
theorem tkA_ok {Z : ZW} {a b : Nat} (h : a + 4 < b ∨ b + 4 < a) : Cp Z (tkA Z a b) a b ∧ ∀ (k : Nat) (j : Int), (k < a ∨ a + 4 < k) → tkA Z a b k j = Z k j := by
  unfold tkA tkP
  refine ⟨⟨?_, fun j j0 j1 => ⟨?_, ?_, ?_⟩, fun j j0 j1 => ?_⟩, fun k j hk => ?_⟩
  · rw [cpy_ne (by omega), cpy_ne (by omega), cpy_ne (by omega), cpy_ne (by omega), up_eq]
  · rw [cpy_ne (by omega), cpy_ne (by omega), cpy_ne (by omega), cpy_eq j0 j1, up_ne (by omega)]
  · rw [cpy_ne (by omega), cpy_ne (by omega), cpy_eq j0 j1, cpy_ne (by omega), up_ne (by omega)]
  · rw [cpy_ne (by omega), cpy_eq j0 j1, cpy_ne (by omega), cpy_ne (by omega), up_ne (by omega)]
  · rw [cpy_eq j0 j1, cpy_ne (by omega), cpy_ne (by omega), cpy_ne (by omega), up_ne (by omega)]
  · rw [cpy_ne (by omega), cpy_ne (by omega), cpy_ne (by omega), cpy_ne (by omega), up_ne (by omega)]
theorem s_placeAt {Z : ZW} {J : Int64} {x : Int} (hx : 0 ≤ x ∧ x < 5) : D 44 [.ref 32, .int (I x)] Z J (some (.ref (34 + 5 * x.toNat))) Z J := by
  unfold D Mz
  refine z_iload_n rfl rfl ?_
  refine z_if_lt rfl (by omega) (fun h1 => ?_) (fun h1 => ?_)
  · exfalso; omega
  · refine z_iload_n rfl rfl ?_
    refine z_iconst rfl ?_
    refine z_icmp_ge rfl (by omega) (by omega) (fun h6 => ?_) (fun h6 => ?_)
    · exfalso; omega
    · refine z_aload_n rfl rfl ?_
      refine z_getR rfl rfl rfl rfl ?_
      refine z_iload_n rfl rfl ?_
      refine z_place rfl (by omega) ?_
      refine z_goto rfl ?_
      exact z_aret rfl rfl (Or.inl ⟨_, rfl⟩) ⟨rfl, rfl, rfl⟩
theorem s_save {Z : ZW} {J : Int64} (hx : 0 ≤ Z 32 1 ∧ Z 32 1 < 5) (hs : 0 ≤ Z 32 0 ∧ Z 32 0 ≤ 5) : Mz 47 [.ref 32, .ref 3] Z J (fun r Z' J' => r = none ∧ J' = J ∧ Cp Z Z' (34 + 5 * (Z 32 1).toNat) 4 ∧ Z' 32 0 = (if Z 32 0 < 5 then Z 32 0 + 1 else 5) ∧ Z' 32 1 = (if Z 32 1 + 1 < 5 then Z 32 1 + 1 else 0) ∧ ∀ (k : Nat) (j : Int), k ≠ 32 → (k < 34 + 5 * (Z 32 1).toNat ∨ 38 + 5 * (Z 32 1).toNat < k) → Z' k j = Z k j) := by
  unfold Mz
  obtain ⟨a, ea⟩ : ∃ a, a = 34 + 5 * (Z 32 1).toNat := ⟨_, rfl⟩
  have ha : SC a a := by rw [ea]; exact SCp _ (by omega)
  have la := SC_lt ha
  obtain ⟨t1, t2⟩ := tkA_ok (Z := Z) (a := a) (b := 4) (by omega)
  obtain ⟨Z1, hZ1⟩ : ∃ Z1, Z1 = tkA Z a 4 := ⟨_, rfl⟩
  rw [← hZ1] at t1 t2
  have e32 : ∀ j, Z1 32 j = Z 32 j := fun j => t2 32 j (by omega)
  have K65 : ∀ (lv : List (Option Value)) (u w : Int), u = (if Z 32 1 + 1 < 5 then Z 32 1 + 1 else 0) → w = (if Z 32 0 < 5 then Z 32 0 + 1 else 5) → OkZ none 47 65 lv [] (up (up Z1 32 1 u) 32 0 w) J (fun r Z' J' => r = none ∧ J' = J ∧ Cp Z Z' (34 + 5 * (Z 32 1).toNat) 4 ∧ Z' 32 0 = (if Z 32 0 < 5 then Z 32 0 + 1 else 5) ∧ Z' 32 1 = (if Z 32 1 + 1 < 5 then Z 32 1 + 1 else 0) ∧ ∀ (k : Nat) (j : Int), k ≠ 32 → (k < 34 + 5 * (Z 32 1).toNat ∨ 38 + 5 * (Z 32 1).toNat < k) → Z' k j = Z k j) := by
    intro lv u w hu hw
    obtain ⟨c1, c2, c3⟩ := t1
    rw [← ea]
    refine z_vret rfl rfl ⟨rfl, rfl, ⟨?_, fun j j0 j1 => ⟨?_, ?_, ?_⟩, fun j j0 j1 => ?_⟩, ?_, ?_, fun k j k1 k2 => ?_⟩
    · rw [up_ne (by omega), up_ne (by omega)]; exact c1
    · rw [up_ne (by omega), up_ne (by omega)]; exact (c2 j j0 j1).1
    · rw [up_ne (by omega), up_ne (by omega)]; exact (c2 j j0 j1).2.1
    · rw [up_ne (by omega), up_ne (by omega)]; exact (c2 j j0 j1).2.2
    · rw [up_ne (by omega), up_ne (by omega)]; exact c3 j j0 j1
    · rw [up_eq]; exact hw
    · rw [up_nj (by omega), up_eq]; exact hu
    · rw [up_ne k1, up_ne k1]; exact t2 k j (by omega)
  refine z_aload_n rfl rfl ?_
  refine z_aload_n rfl rfl ?_
  refine z_getI (bi := 1) rfl rfl rfl rfl ?_
  refine z_callV1 rfl rfl rfl rfl rfl rfl (s_placeAt hx) ?_
  rw [← ea] at K65
  rw [← ea]
  refine z_astore_n rfl rfl rfl ?_
  refine z_aload_n rfl rfl ?_
  refine z_ifnonnull rfl ?_
  refine z_aload_n rfl rfl ?_
  refine z_aload_n rfl rfl ?_
  refine z_callV1v rfl rfl ha.1 rfl rfl rfl (s_takeA ha SC4) ?_
  rw [← hZ1]
  have r1 := e32 1
  have r0 := e32 0
  refine z_aload_n rfl rfl ?_
  refine z_aload_n rfl rfl ?_
  refine z_getI (bi := 1) rfl rfl rfl rfl ?_
  refine z_iconst rfl ?_
  refine z_iadd rfl ?_
  refine z_iconst rfl ?_
  refine z_icmp_ge rfl (by omega) (by omega) (fun h27 => ?_) (fun h27 => ?_)
  · refine z_iconst rfl ?_
    refine z_putI (bi := 1) rfl rfl rfl rfl rfl ?_
    refine z_aload_n rfl rfl ?_
    refine z_aload_n rfl rfl ?_
    refine z_getI (bi := 0) rfl rfl rfl rfl ?_
    rw [up_nj (by omega)]
    refine z_iconst rfl ?_
    refine z_icmp_ge rfl (by omega) (by omega) (fun h49 => ?_) (fun h49 => ?_)
    · refine z_iconst rfl ?_
      refine z_putI (bi := 0) rfl rfl rfl rfl rfl ?_
      refine K65 _ _ _ ?_ ?_
      · rw [if_neg (by rw [← e32]; omega)]
      · rw [if_neg (by rw [← e32]; omega)]
    · refine z_aload_n rfl rfl ?_
      refine z_getI (bi := 0) rfl rfl rfl rfl ?_
      rw [up_nj (by omega)]
      refine z_iconst rfl ?_
      refine z_iadd rfl ?_
      refine z_goto rfl ?_
      refine z_putI (bi := 0) rfl rfl rfl rfl rfl ?_
      refine K65 _ _ _ ?_ ?_
      · rw [if_neg (by rw [← e32]; omega)]
      · rw [if_pos (by rw [← e32]; omega), e32]
  · refine z_aload_n rfl rfl ?_
    refine z_getI (bi := 1) rfl rfl rfl rfl ?_
    refine z_iconst rfl ?_
    refine z_iadd rfl ?_
    refine z_goto rfl ?_
    refine z_putI (bi := 1) rfl rfl rfl rfl rfl ?_
    refine z_aload_n rfl rfl ?_
    refine z_aload_n rfl rfl ?_
    refine z_getI (bi := 0) rfl rfl rfl rfl ?_
    rw [up_nj (by omega)]
    refine z_iconst rfl ?_
    refine z_icmp_ge rfl (by omega) (by omega) (fun h49 => ?_) (fun h49 => ?_)
    · refine z_iconst rfl ?_
      refine z_putI (bi := 0) rfl rfl rfl rfl rfl ?_
      refine K65 _ _ _ ?_ ?_
      · rw [if_pos (by rw [← e32]; omega), e32]
      · rw [if_neg (by rw [← e32]; omega)]
    · refine z_aload_n rfl rfl ?_
      refine z_getI (bi := 0) rfl rfl rfl rfl ?_
      rw [up_nj (by omega)]
      refine z_iconst rfl ?_
      refine z_iadd rfl ?_
      refine z_goto rfl ?_
      refine z_putI (bi := 0) rfl rfl rfl rfl rfl ?_
      refine K65 _ _ _ ?_ ?_
      · rw [if_pos (by rw [← e32]; omega), e32]
      · rw [if_pos (by rw [← e32]; omega), e32]
theorem s_restore {Z : ZW} {J : Int64} {w : Int} (hx : 0 ≤ Z 32 1 ∧ Z 32 1 < 5) (hs : 0 < Z 32 0 ∧ Z 32 0 ≤ 5) (hw : w = (if 0 < Z 32 1 then Z 32 1 - 1 else 4)) : Mz 48 [.ref 32, .ref 3] Z J (fun r Z' J' => r = none ∧ J' = J ∧ Cp Z Z' 4 (34 + 5 * w.toNat) ∧ Z' 32 0 = Z 32 0 - 1 ∧ Z' 32 1 = w ∧ ∀ (k : Nat) (j : Int), k ≠ 32 → (k < 4 ∨ 8 < k) → Z' k j = Z k j) := by
  unfold Mz
  have hw5 : 0 ≤ w ∧ w < 5 := by rw [hw]; split <;> omega
  obtain ⟨a, ea⟩ : ∃ a, a = 34 + 5 * w.toNat := ⟨_, rfl⟩
  have ha : SC a a := by rw [ea]; exact SCp _ (by omega)
  have la := SC_lt ha
  rw [← ea]
  obtain ⟨t1, t2⟩ := tkA_ok (Z := Z) (a := 4) (b := a) (by omega)
  obtain ⟨Z1, hZ1⟩ : ∃ Z1, Z1 = tkA Z 4 a := ⟨_, rfl⟩
  rw [← hZ1] at t1 t2
  have e32 : ∀ j, Z1 32 j = Z 32 j := fun j => t2 32 j (by omega)
  have K18 : OkZ none 48 18 [some (.ref 32), some (.ref 3), some (.int (I w)), none] [] Z J (fun r Z' J' => r = none ∧ J' = J ∧ Cp Z Z' 4 a ∧ Z' 32 0 = Z 32 0 - 1 ∧ Z' 32 1 = w ∧ ∀ (k : Nat) (j : Int), k ≠ 32 → (k < 4 ∨ 8 < k) → Z' k j = Z k j) := by
    refine z_aload_n rfl rfl ?_
    refine z_iload_n rfl rfl ?_
    refine z_callV1 rfl rfl rfl rfl rfl rfl (s_placeAt hw5) ?_
    rw [← ea]
    refine z_astore_n rfl rfl rfl ?_
    refine z_aload_n rfl rfl ?_
    refine z_getI (bi := 0) rfl rfl rfl rfl ?_
    refine z_if_eq rfl (by omega) (fun h28 => ?_) (fun h28 => ?_)
    · exfalso; omega
    · refine z_aload_n rfl rfl ?_
      refine z_ifnonnull rfl ?_
      refine z_aload_n rfl rfl ?_
      refine z_aload_n rfl rfl ?_
      refine z_callV1v rfl rfl rfl rfl rfl rfl (s_takeA SC4 ha) ?_
      rw [← hZ1]
      refine z_aload_n rfl rfl ?_
      refine z_iload_n rfl rfl ?_
      refine z_putI (bi := 1) rfl rfl rfl rfl rfl ?_
      refine z_aload_n rfl rfl ?_
      refine z_dup rfl rfl ?_
      refine z_getI (bi := 0) rfl rfl rfl rfl ?_
      refine z_iconst rfl ?_
      refine z_isub rfl ?_
      refine z_putI (bi := 0) rfl rfl rfl rfl rfl ?_
      obtain ⟨c1, c2, c3⟩ := t1
      refine z_vret rfl rfl ⟨rfl, rfl, ⟨?_, fun j j0 j1 => ⟨?_, ?_, ?_⟩, fun j j0 j1 => ?_⟩, ?_, ?_, fun k j k1 k2 => ?_⟩
      · rw [up_ne (by omega), up_ne (by omega)]; exact c1
      · rw [up_ne (by omega), up_ne (by omega)]; exact (c2 j j0 j1).1
      · rw [up_ne (by omega), up_ne (by omega)]; exact (c2 j j0 j1).2.1
      · rw [up_ne (by omega), up_ne (by omega)]; exact (c2 j j0 j1).2.2
      · rw [up_ne (by omega), up_ne (by omega)]; exact c3 j j0 j1
      · rw [up_eq, up_nj (by omega), e32]
      · rw [up_nj (by omega), up_eq]
      · rw [up_ne k1, up_ne k1]; exact t2 k j (by omega)
  refine z_aload_n rfl rfl ?_
  refine z_getI (bi := 1) rfl rfl rfl rfl ?_
  refine z_if_le rfl (by omega) (fun h4 => ?_) (fun h4 => ?_)
  · refine z_iconst rfl ?_
    refine z_istore_n rfl rfl rfl ?_
    rw [if_neg (by omega)] at hw
    subst hw
    exact K18
  · refine z_aload_n rfl rfl ?_
    refine z_getI (bi := 1) rfl rfl rfl rfl ?_
    refine z_iconst rfl ?_
    refine z_isub rfl ?_
    refine z_goto rfl ?_
    refine z_istore_n rfl rfl rfl ?_
    rw [if_pos (by omega)] at hw
    subst hw
    exact K18
end
section
/-! the class: the assembler, leaves and numbers -/
def cuF (bt : FI) (len : Int) : FI := fun p => if 0 ≤ p ∧ p < len then bt p else -1
def sk (cu : FI) : Nat → Int → Int
  | 0, p => p
  | d + 1, p => if cu p = 32 then sk cu d (p + 1) else p
def skp (cu : FI) (len p : Int) : Int := sk cu (len - p).toNat p
def dgB (cu : FI) (p : Int) : Bool := decide (48 ≤ cu p ∧ cu p ≤ 57)
def opc (x : Int) : Int := if x = 97 then 0 else if x = 115 then 1 else if x = 99 then 2 else if x = 100 then 3 else if x = 106 then 4 else if x = 122 then 5 else if x = 110 then 6 else if x = 104 then 7 else -1
def PV (most : Int) (ng : Bool) (v p2 nx : Int) : Bool × Int × Int := if most < v then (false, 0, p2) else (true, if ng then -v else v, nx)
def PD (cu : FI) (most : Int) (ng : Bool) (p : Int) : Bool × Int × Int := if dgB cu p = false then (false, 0, p) else if dgB cu (p + 1) = false then PV most ng (cu p - 48) p (p + 1) else if dgB cu (p + 2) = false then PV most ng (10 * (cu p - 48) + (cu (p + 1) - 48)) p (p + 2) else (false, 0, p + 2)
def PN (cu : FI) (len most : Int) (sg : Bool) (p : Int) : Bool × Int × Int := if (sg && decide (cu (skp cu len p) = 45)) = true then PD cu most true (skp cu len p + 1) else PD cu most false (skp cu len p)
def TXT (Z : ZW) : Prop := (0 ≤ Z 1 0 ∧ Z 1 0 ≤ 150) ∧ ∀ j, 0 ≤ j → j < Z 1 0 → 0 ≤ Z 2 j ∧ Z 2 j ≤ 127
theorem cu_in {Z : ZW} (h : TXT Z) (p : Int) : -1 ≤ cuF (Z 2) (Z 1 0) p ∧ cuF (Z 2) (Z 1 0) p ≤ 127 := by
  unfold cuF
  split
  · next hp => have := h.2 p hp.1 hp.2; omega
  · omega
theorem cu_some {bt : FI} {len p : Int} (h : cuF bt len p ≠ -1) : 0 ≤ p ∧ p < len := by
  unfold cuF at h
  split at h
  · next hp => exact hp
  · exact absurd rfl h
theorem sk_in {bt : FI} {len : Int} (hl : 0 ≤ len) : ∀ (d : Nat) (p : Int), 0 ≤ p → p ≤ len → (len - p).toNat = d → p ≤ sk (cuF bt len) d p ∧ sk (cuF bt len) d p ≤ len := by
  intro d
  induction d with
  | zero => intro p h0 h1 hd; exact ⟨Int.le_refl _, h1⟩
  | succ d ih =>
    intro p h0 h1 hd
    unfold sk
    split
    · next hc =>
      have := cu_some (bt := bt) (len := len) (p := p) (by omega)
      have := ih (p + 1) (by omega) (by omega) (by omega)
      omega
    · exact ⟨Int.le_refl _, h1⟩
theorem skp_in {bt : FI} {len p : Int} (hl : 0 ≤ len) (h0 : 0 ≤ p) (h1 : p ≤ len) : p ≤ skp (cuF bt len) len p ∧ skp (cuF bt len) len p ≤ len := sk_in hl _ p h0 h1 rfl
theorem s_cur {Z : ZW} {J : Int64} (hx : RG (Z 3 1)) (ht : TXT Z) : D 2 [.ref 1] Z J (some (.int (I (cuF (Z 2) (Z 1 0) (Z 3 1))))) Z J := by
  have h1 := ht.1
  unfold D Mz
  refine z_aload_n rfl rfl ?_
  refine z_getS (bi := 1) rfl rfl rfl (by decide) ?_
  refine z_if_lt rfl (by omega) (fun h4 => ?_) (fun h4 => ?_)
  · refine z_iconst rfl ?_
    exact z_iret rfl rfl ⟨by rw [cuF, if_neg (by omega)], rfl, rfl⟩
  · refine z_aload_n rfl rfl ?_
    refine z_getS (bi := 1) rfl rfl rfl (by decide) ?_
    refine z_aload_n rfl rfl ?_
    refine z_getI (bi := 0) rfl rfl rfl rfl ?_
    refine z_icmp_ge rfl (by omega) (by omega) (fun h15 => ?_) (fun h15 => ?_)
    · refine z_iconst rfl ?_
      exact z_iret rfl rfl ⟨by rw [cuF, if_neg (by omega)], rfl, rfl⟩
    · refine z_aload_n rfl rfl ?_
      refine z_getS (bi := 1) rfl rfl rfl (by decide) ?_
      refine z_aload_n rfl rfl ?_
      refine z_getR rfl rfl rfl rfl ?_
      refine z_alen (ni := 150) rfl rfl rfl ?_
      refine z_icmp_ge rfl (by omega) (by omega) (fun h27 => ?_) (fun h27 => ?_)
      · refine z_iconst rfl ?_
        exact z_iret rfl rfl ⟨by rw [cuF, if_neg (by omega)], rfl, rfl⟩
      · refine z_aload_n rfl rfl ?_
        refine z_getR rfl rfl rfl rfl ?_
        refine z_aload_n rfl rfl ?_
        refine z_getS (bi := 1) rfl rfl rfl (by decide) ?_
        refine z_iald rfl rfl (by omega) ?_
        refine z_goto rfl ?_
        exact z_iret rfl rfl ⟨by rw [cuF, if_pos (by omega)], rfl, rfl⟩
theorem s_atEnd {Z : ZW} {J : Int64} (hx : RG (Z 3 1)) (ht : TXT Z) : D 4 [.ref 1] Z J (some (bI (decide (cuF (Z 2) (Z 1 0) (Z 3 1) = -1)))) Z J := by
  have hc := cu_in ht (Z 3 1)
  unfold D Mz
  refine z_aload_n rfl rfl ?_
  refine z_callV0 rfl rfl rfl rfl rfl rfl (s_cur hx ht) ?_
  refine z_iconst rfl ?_
  refine z_icmp_ne rfl (by omega) (by omega) (fun h5 => ?_) (fun h5 => ?_)
  · refine z_iconst rfl ?_
    first | exact z_bret0 rfl rfl ⟨bz0 (decide_eq_false (by omega)), rfl, rfl⟩ | exact z_bret1 rfl rfl ⟨bz1 (decide_eq_true (by omega)), rfl, rfl⟩
  · refine z_iconst rfl ?_
    refine z_goto rfl ?_
    first | exact z_bret0 rfl rfl ⟨bz0 (decide_eq_false (by omega)), rfl, rfl⟩ | exact z_bret1 rfl rfl ⟨bz1 (decide_eq_true (by omega)), rfl, rfl⟩
theorem s_isDigit {Z : ZW} {J : Int64} {x : Int} (hx : RG x) : D 6 [.int (I x)] Z J (some (bI (decide (48 ≤ x ∧ x ≤ 57)))) Z J := by
  unfold D Mz
  refine z_iload_n rfl rfl ?_
  refine z_bipush rfl (by decide) ?_
  refine z_icmp_lt rfl (by omega) (by omega) (fun h3 => ?_) (fun h3 => ?_)
  · refine z_iconst rfl ?_
    first | exact z_bret0 rfl rfl ⟨bz0 (decide_eq_false (by omega)), rfl, rfl⟩ | exact z_bret1 rfl rfl ⟨bz1 (decide_eq_true (by omega)), rfl, rfl⟩
  · refine z_iload_n rfl rfl ?_
    refine z_bipush rfl (by decide) ?_
    refine z_icmp_gt rfl (by omega) (by omega) (fun h9 => ?_) (fun h9 => ?_)
    · refine z_iconst rfl ?_
      first | exact z_bret0 rfl rfl ⟨bz0 (decide_eq_false (by omega)), rfl, rfl⟩ | exact z_bret1 rfl rfl ⟨bz1 (decide_eq_true (by omega)), rfl, rfl⟩
    · refine z_iconst rfl ?_
      refine z_goto rfl ?_
      first | exact z_bret0 rfl rfl ⟨bz0 (decide_eq_false (by omega)), rfl, rfl⟩ | exact z_bret1 rfl rfl ⟨bz1 (decide_eq_true (by omega)), rfl, rfl⟩
theorem s_greatest {Z : ZW} {J : Int64} {x : Int} (hx : 0 ≤ x ∧ x ≤ 7) : D 8 [.int (I x)] Z J (some (.int (I (if x ≤ 1 then 99 else if x ≤ 3 then 3 else 24)))) Z J := by
  unfold D Mz
  have hc : x = 0 ∨ x = 1 ∨ x = 2 ∨ x = 3 ∨ 4 ≤ x := by omega
  refine z_iload_n rfl rfl ?_
  rcases hc with rfl | rfl | rfl | rfl | h
  · refine z_swIn (tgt := 32) rfl (by decide) (by decide) (by decide) rfl rfl ?_
    refine z_bipush rfl (by decide) ?_
    exact z_iret rfl rfl ⟨rfl, rfl, rfl⟩
  · refine z_swIn (tgt := 32) rfl (by decide) (by decide) (by decide) rfl rfl ?_
    refine z_bipush rfl (by decide) ?_
    exact z_iret rfl rfl ⟨rfl, rfl, rfl⟩
  · refine z_swIn (tgt := 35) rfl (by decide) (by decide) (by decide) rfl rfl ?_
    refine z_iconst rfl ?_
    exact z_iret rfl rfl ⟨rfl, rfl, rfl⟩
  · refine z_swIn (tgt := 35) rfl (by decide) (by decide) (by decide) rfl rfl ?_
    refine z_iconst rfl ?_
    exact z_iret rfl rfl ⟨rfl, rfl, rfl⟩
  · refine z_swOut (tgt := 37) rfl (by omega) (by omega) rfl ?_
    refine z_bipush rfl (by decide) ?_
    exact z_iret rfl rfl ⟨by rw [if_neg (by omega), if_neg (by omega)], rfl, rfl⟩
set_option maxHeartbeats 4000000 in
theorem s_opcX0 {Z : ZW} {J : Int64} {x : Int} (hx : RG x) : D 5 [.int (I x)] Z J (some (.int (I (opc x)))) Z J := by
  unfold D Mz
  have hc : (x < 97 ∨ 122 < x) ∨ x = 97 ∨ x = 98 ∨ x = 99 ∨ x = 100 ∨ x = 101 ∨ x = 102 ∨ x = 103 ∨ x = 104 ∨ x = 105 ∨ x = 106 ∨ x = 107 ∨ x = 108 ∨ x = 109 ∨ x = 110 ∨ x = 111 ∨ x = 112 ∨ x = 113 ∨ x = 114 ∨ x = 115 ∨ x = 116 ∨ x = 117 ∨ x = 118 ∨ x = 119 ∨ x = 120 ∨ x = 121 ∨ x = 122 := by omega
  refine z_iload_n rfl rfl ?_
  rcases hc with h | rfl | rfl | rfl | rfl | rfl | rfl | rfl | rfl | rfl | rfl | rfl | rfl | rfl | rfl | rfl | rfl | rfl | rfl | rfl | rfl | rfl | rfl | rfl | rfl | rfl | rfl
  · refine z_swOut (tgt := 138) rfl hx (by omega) rfl ?_
    refine z_iconst rfl ?_
    exact z_iret rfl rfl ⟨by rw [opc, if_neg (by omega), if_neg (by omega), if_neg (by omega), if_neg (by omega), if_neg (by omega), if_neg (by omega), if_neg (by omega), if_neg (by omega)], rfl, rfl⟩
  · refine z_swIn (tgt := 120) rfl (by decide) (by decide) (by decide) rfl rfl ?_
    refine z_iconst rfl ?_
    exact z_iret rfl rfl ⟨rfl, rfl, rfl⟩
  · refine z_swIn (tgt := 138) rfl (by decide) (by decide) (by decide) rfl rfl ?_
    refine z_iconst rfl ?_
    exact z_iret rfl rfl ⟨rfl, rfl, rfl⟩
  · refine z_swIn (tgt := 124) rfl (by decide) (by decide) (by decide) rfl rfl ?_
    refine z_iconst rfl ?_
    exact z_iret rfl rfl ⟨rfl, rfl, rfl⟩
  · refine z_swIn (tgt := 126) rfl (by decide) (by decide) (by decide) rfl rfl ?_
    refine z_iconst rfl ?_
    exact z_iret rfl rfl ⟨rfl, rfl, rfl⟩
  · refine z_swIn (tgt := 138) rfl (by decide) (by decide) (by decide) rfl rfl ?_
    refine z_iconst rfl ?_
    exact z_iret rfl rfl ⟨rfl, rfl, rfl⟩
  · refine z_swIn (tgt := 138) rfl (by decide) (by decide) (by decide) rfl rfl ?_
    refine z_iconst rfl ?_
    exact z_iret rfl rfl ⟨rfl, rfl, rfl⟩
  · refine z_swIn (tgt := 138) rfl (by decide) (by decide) (by decide) rfl rfl ?_
    refine z_iconst rfl ?_
    exact z_iret rfl rfl ⟨rfl, rfl, rfl⟩
  · refine z_swIn (tgt := 135) rfl (by decide) (by decide) (by decide) rfl rfl ?_
    refine z_bipush rfl (by decide) ?_
    exact z_iret rfl rfl ⟨rfl, rfl, rfl⟩
  · refine z_swIn (tgt := 138) rfl (by decide) (by decide) (by decide) rfl rfl ?_
    refine z_iconst rfl ?_
    exact z_iret rfl rfl ⟨rfl, rfl, rfl⟩
  · refine z_swIn (tgt := 128) rfl (by decide) (by decide) (by decide) rfl rfl ?_
    refine z_iconst rfl ?_
    exact z_iret rfl rfl ⟨rfl, rfl, rfl⟩
  · refine z_swIn (tgt := 138) rfl (by decide) (by decide) (by decide) rfl rfl ?_
    refine z_iconst rfl ?_
    exact z_iret rfl rfl ⟨rfl, rfl, rfl⟩
  · refine z_swIn (tgt := 138) rfl (by decide) (by decide) (by decide) rfl rfl ?_
    refine z_iconst rfl ?_
    exact z_iret rfl rfl ⟨rfl, rfl, rfl⟩
  · refine z_swIn (tgt := 138) rfl (by decide) (by decide) (by decide) rfl rfl ?_
    refine z_iconst rfl ?_
    exact z_iret rfl rfl ⟨rfl, rfl, rfl⟩
  · refine z_swIn (tgt := 132) rfl (by decide) (by decide) (by decide) rfl rfl ?_
    refine z_bipush rfl (by decide) ?_
    exact z_iret rfl rfl ⟨rfl, rfl, rfl⟩
  · refine z_swIn (tgt := 138) rfl (by decide) (by decide) (by decide) rfl rfl ?_
    refine z_iconst rfl ?_
    exact z_iret rfl rfl ⟨rfl, rfl, rfl⟩
  · refine z_swIn (tgt := 138) rfl (by decide) (by decide) (by decide) rfl rfl ?_
    refine z_iconst rfl ?_
    exact z_iret rfl rfl ⟨rfl, rfl, rfl⟩
  · refine z_swIn (tgt := 138) rfl (by decide) (by decide) (by decide) rfl rfl ?_
    refine z_iconst rfl ?_
    exact z_iret rfl rfl ⟨rfl, rfl, rfl⟩
  · refine z_swIn (tgt := 138) rfl (by decide) (by decide) (by decide) rfl rfl ?_
    refine z_iconst rfl ?_
    exact z_iret rfl rfl ⟨rfl, rfl, rfl⟩
  · refine z_swIn (tgt := 122) rfl (by decide) (by decide) (by decide) rfl rfl ?_
    refine z_iconst rfl ?_
    exact z_iret rfl rfl ⟨rfl, rfl, rfl⟩
  · refine z_swIn (tgt := 138) rfl (by decide) (by decide) (by decide) rfl rfl ?_
    refine z_iconst rfl ?_
    exact z_iret rfl rfl ⟨rfl, rfl, rfl⟩
  · refine z_swIn (tgt := 138) rfl (by decide) (by decide) (by decide) rfl rfl ?_
    refine z_iconst rfl ?_
    exact z_iret rfl rfl ⟨rfl, rfl, rfl⟩
  · refine z_swIn (tgt := 138) rfl (by decide) (by decide) (by decide) rfl rfl ?_
    refine z_iconst rfl ?_
    exact z_iret rfl rfl ⟨rfl, rfl, rfl⟩
  · refine z_swIn (tgt := 138) rfl (by decide) (by decide) (by decide) rfl rfl ?_
    refine z_iconst rfl ?_
    exact z_iret rfl rfl ⟨rfl, rfl, rfl⟩
  · refine z_swIn (tgt := 138) rfl (by decide) (by decide) (by decide) rfl rfl ?_
    refine z_iconst rfl ?_
    exact z_iret rfl rfl ⟨rfl, rfl, rfl⟩
  · refine z_swIn (tgt := 138) rfl (by decide) (by decide) (by decide) rfl rfl ?_
    refine z_iconst rfl ?_
    exact z_iret rfl rfl ⟨rfl, rfl, rfl⟩
  · refine z_swIn (tgt := 130) rfl (by decide) (by decide) (by decide) rfl rfl ?_
    refine z_iconst rfl ?_
    exact z_iret rfl rfl ⟨rfl, rfl, rfl⟩
set_option maxHeartbeats 4000000 in
theorem s_opcX8 {Z : ZW} {J : Int64} {x : Int} (hx : RG x) : D 108 [.int (I x)] Z J (some (.int (I (opc x)))) Z J := by
  unfold D Mz
  have hc : (x < 97 ∨ 122 < x) ∨ x = 97 ∨ x = 98 ∨ x = 99 ∨ x = 100 ∨ x = 101 ∨ x = 102 ∨ x = 103 ∨ x = 104 ∨ x = 105 ∨ x = 106 ∨ x = 107 ∨ x = 108 ∨ x = 109 ∨ x = 110 ∨ x = 111 ∨ x = 112 ∨ x = 113 ∨ x = 114 ∨ x = 115 ∨ x = 116 ∨ x = 117 ∨ x = 118 ∨ x = 119 ∨ x = 120 ∨ x = 121 ∨ x = 122 := by omega
  refine z_iload_n rfl rfl ?_
  rcases hc with h | rfl | rfl | rfl | rfl | rfl | rfl | rfl | rfl | rfl | rfl | rfl | rfl | rfl | rfl | rfl | rfl | rfl | rfl | rfl | rfl | rfl | rfl | rfl | rfl | rfl | rfl
  · refine z_swOut (tgt := 138) rfl hx (by omega) rfl ?_
    refine z_iconst rfl ?_
    exact z_iret rfl rfl ⟨by rw [opc, if_neg (by omega), if_neg (by omega), if_neg (by omega), if_neg (by omega), if_neg (by omega), if_neg (by omega), if_neg (by omega), if_neg (by omega)], rfl, rfl⟩
  · refine z_swIn (tgt := 120) rfl (by decide) (by decide) (by decide) rfl rfl ?_
    refine z_iconst rfl ?_
    exact z_iret rfl rfl ⟨rfl, rfl, rfl⟩
  · refine z_swIn (tgt := 138) rfl (by decide) (by decide) (by decide) rfl rfl ?_
    refine z_iconst rfl ?_
    exact z_iret rfl rfl ⟨rfl, rfl, rfl⟩
  · refine z_swIn (tgt := 124) rfl (by decide) (by decide) (by decide) rfl rfl ?_
    refine z_iconst rfl ?_
    exact z_iret rfl rfl ⟨rfl, rfl, rfl⟩
  · refine z_swIn (tgt := 126) rfl (by decide) (by decide) (by decide) rfl rfl ?_
    refine z_iconst rfl ?_
    exact z_iret rfl rfl ⟨rfl, rfl, rfl⟩
  · refine z_swIn (tgt := 138) rfl (by decide) (by decide) (by decide) rfl rfl ?_
    refine z_iconst rfl ?_
    exact z_iret rfl rfl ⟨rfl, rfl, rfl⟩
  · refine z_swIn (tgt := 138) rfl (by decide) (by decide) (by decide) rfl rfl ?_
    refine z_iconst rfl ?_
    exact z_iret rfl rfl ⟨rfl, rfl, rfl⟩
  · refine z_swIn (tgt := 138) rfl (by decide) (by decide) (by decide) rfl rfl ?_
    refine z_iconst rfl ?_
    exact z_iret rfl rfl ⟨rfl, rfl, rfl⟩
  · refine z_swIn (tgt := 135) rfl (by decide) (by decide) (by decide) rfl rfl ?_
    refine z_bipush rfl (by decide) ?_
    exact z_iret rfl rfl ⟨rfl, rfl, rfl⟩
  · refine z_swIn (tgt := 138) rfl (by decide) (by decide) (by decide) rfl rfl ?_
    refine z_iconst rfl ?_
    exact z_iret rfl rfl ⟨rfl, rfl, rfl⟩
  · refine z_swIn (tgt := 128) rfl (by decide) (by decide) (by decide) rfl rfl ?_
    refine z_iconst rfl ?_
    exact z_iret rfl rfl ⟨rfl, rfl, rfl⟩
  · refine z_swIn (tgt := 138) rfl (by decide) (by decide) (by decide) rfl rfl ?_
    refine z_iconst rfl ?_
    exact z_iret rfl rfl ⟨rfl, rfl, rfl⟩
  · refine z_swIn (tgt := 138) rfl (by decide) (by decide) (by decide) rfl rfl ?_
    refine z_iconst rfl ?_
    exact z_iret rfl rfl ⟨rfl, rfl, rfl⟩
  · refine z_swIn (tgt := 138) rfl (by decide) (by decide) (by decide) rfl rfl ?_
    refine z_iconst rfl ?_
    exact z_iret rfl rfl ⟨rfl, rfl, rfl⟩
  · refine z_swIn (tgt := 132) rfl (by decide) (by decide) (by decide) rfl rfl ?_
    refine z_bipush rfl (by decide) ?_
    exact z_iret rfl rfl ⟨rfl, rfl, rfl⟩
  · refine z_swIn (tgt := 138) rfl (by decide) (by decide) (by decide) rfl rfl ?_
    refine z_iconst rfl ?_
    exact z_iret rfl rfl ⟨rfl, rfl, rfl⟩
  · refine z_swIn (tgt := 138) rfl (by decide) (by decide) (by decide) rfl rfl ?_
    refine z_iconst rfl ?_
    exact z_iret rfl rfl ⟨rfl, rfl, rfl⟩
  · refine z_swIn (tgt := 138) rfl (by decide) (by decide) (by decide) rfl rfl ?_
    refine z_iconst rfl ?_
    exact z_iret rfl rfl ⟨rfl, rfl, rfl⟩
  · refine z_swIn (tgt := 138) rfl (by decide) (by decide) (by decide) rfl rfl ?_
    refine z_iconst rfl ?_
    exact z_iret rfl rfl ⟨rfl, rfl, rfl⟩
  · refine z_swIn (tgt := 122) rfl (by decide) (by decide) (by decide) rfl rfl ?_
    refine z_iconst rfl ?_
    exact z_iret rfl rfl ⟨rfl, rfl, rfl⟩
  · refine z_swIn (tgt := 138) rfl (by decide) (by decide) (by decide) rfl rfl ?_
    refine z_iconst rfl ?_
    exact z_iret rfl rfl ⟨rfl, rfl, rfl⟩
  · refine z_swIn (tgt := 138) rfl (by decide) (by decide) (by decide) rfl rfl ?_
    refine z_iconst rfl ?_
    exact z_iret rfl rfl ⟨rfl, rfl, rfl⟩
  · refine z_swIn (tgt := 138) rfl (by decide) (by decide) (by decide) rfl rfl ?_
    refine z_iconst rfl ?_
    exact z_iret rfl rfl ⟨rfl, rfl, rfl⟩
  · refine z_swIn (tgt := 138) rfl (by decide) (by decide) (by decide) rfl rfl ?_
    refine z_iconst rfl ?_
    exact z_iret rfl rfl ⟨rfl, rfl, rfl⟩
  · refine z_swIn (tgt := 138) rfl (by decide) (by decide) (by decide) rfl rfl ?_
    refine z_iconst rfl ?_
    exact z_iret rfl rfl ⟨rfl, rfl, rfl⟩
  · refine z_swIn (tgt := 138) rfl (by decide) (by decide) (by decide) rfl rfl ?_
    refine z_iconst rfl ?_
    exact z_iret rfl rfl ⟨rfl, rfl, rfl⟩
  · refine z_swIn (tgt := 130) rfl (by decide) (by decide) (by decide) rfl rfl ?_
    refine z_iconst rfl ?_
    exact z_iret rfl rfl ⟨rfl, rfl, rfl⟩
theorem up_up {Z : ZW} {k : Nat} {j a b : Int} : up (up Z k j a) k j b = up Z k j b := by
  funext q i
  unfold up
  split <;> rfl
theorem up_self {Z : ZW} {k : Nat} {j : Int} : up Z k j (Z k j) = Z := by
  funext q i
  unfold up
  split
  · next h => rw [h.1, h.2]
  · rfl
theorem TXT_up {Z : ZW} {j v : Int} {k : Nat} (hk : k ≠ 1 ∧ k ≠ 2) (h : TXT Z) : TXT (up Z k j v) := by
  unfold TXT
  rw [up_ne (fun q => hk.1 q.symm)]
  refine ⟨h.1, fun i i0 i1 => ?_⟩
  rw [up_ne (fun q => hk.2 q.symm)]
  exact h.2 i i0 i1
theorem l_skip {Z : ZW} {J : Int64} {v : Int} (ht : TXT Z) : ∀ (d : Nat) (p : Int), 0 ≤ p → p ≤ Z 1 0 → (Z 1 0 - p).toNat = d → v = sk (cuF (Z 2) (Z 1 0)) d p → OkZ none 3 0 [some (.ref 1)] [] (up Z 3 1 p) J (fun r Z' J' => r = none ∧ Z' = up Z 3 1 v ∧ J' = J) := by
  have hl := ht.1
  intro d
  induction d with
  | zero =>
    intro p h0 h1 hd hv
    have hv : v = p := hv
    have ec : cuF (up Z 3 1 p 2) (up Z 3 1 p 1 0) (up Z 3 1 p 3 1) = cuF (Z 2) (Z 1 0) p := by
      show cuF (Z 2) (Z 1 0) (up Z 3 1 p 3 1) = _
      rw [up_eq]
    have hcu := cu_in ht p
    have hcn : cuF (Z 2) (Z 1 0) p = -1 := by unfold cuF; rw [if_neg (by omega)]
    refine z_aload_n rfl rfl ?_
    refine z_getS (bi := 1) rfl rfl rfl (by decide) ?_
    rw [up_eq]
    refine z_sipush rfl (by decide) ?_
    refine z_icmp_ge rfl (by omega) (by omega) (fun h7 => ?_) (fun h7 => ?_)
    · exact z_vret rfl rfl ⟨rfl, by rw [hv], rfl⟩
    · refine z_aload_n rfl rfl ?_
      refine z_callV0 rfl rfl rfl rfl rfl rfl (s_cur (by rw [up_eq]; omega) (TXT_up (by decide) ht)) ?_
      rw [ec]
      refine z_bipush rfl (by decide) ?_
      refine z_icmp_ne rfl (by omega) (by omega) (fun h16 => ?_) (fun h16 => ?_)
      · exact z_vret rfl rfl ⟨rfl, by rw [hv], rfl⟩
      · exfalso; omega
  | succ d ih =>
    intro p h0 h1 hd hv
    have hv2 : v = if cuF (Z 2) (Z 1 0) p = 32 then sk (cuF (Z 2) (Z 1 0)) d (p + 1) else p := hv
    have ec : cuF (up Z 3 1 p 2) (up Z 3 1 p 1 0) (up Z 3 1 p 3 1) = cuF (Z 2) (Z 1 0) p := by
      show cuF (Z 2) (Z 1 0) (up Z 3 1 p 3 1) = _
      rw [up_eq]
    have hcu := cu_in ht p
    refine z_aload_n rfl rfl ?_
    refine z_getS (bi := 1) rfl rfl rfl (by decide) ?_
    rw [up_eq]
    refine z_sipush rfl (by decide) ?_
    refine z_icmp_ge rfl (by omega) (by omega) (fun h7 => ?_) (fun h7 => ?_)
    · exfalso; omega
    · refine z_aload_n rfl rfl ?_
      refine z_callV0 rfl rfl rfl rfl rfl rfl (s_cur (by rw [up_eq]; omega) (TXT_up (by decide) ht)) ?_
      rw [ec]
      refine z_bipush rfl (by decide) ?_
      refine z_icmp_ne rfl (by omega) (by omega) (fun h16 => ?_) (fun h16 => ?_)
      · rw [if_neg h16] at hv2
        exact z_vret rfl rfl ⟨rfl, by rw [hv2], rfl⟩
      · refine z_aload_n rfl rfl ?_
        refine z_dup rfl rfl ?_
        refine z_getS (bi := 1) rfl rfl rfl (by decide) ?_
        rw [up_eq]
        refine z_iconst rfl ?_
        refine z_iadd rfl ?_
        refine z_putS (bi := 1) rfl rfl rfl rfl (by decide) ?_
        refine z_goto rfl ?_
        rw [if_pos h16] at hv2
        rw [up_up]
        exact ih (p + 1) (by omega) (by omega) (by omega) hv2
theorem s_skip {Z : ZW} {J : Int64} {p : Int} (ht : TXT Z) (hp : 0 ≤ p ∧ p ≤ Z 1 0) (he : Z 3 1 = p) : D 3 [.ref 1] Z J none (up Z 3 1 (skp (cuF (Z 2) (Z 1 0)) (Z 1 0) p)) J := by
  have q := l_skip (J := J) ht _ p hp.1 hp.2 rfl rfl
  rw [← he, up_self, he] at q
  exact q
end
section
/-! the class: the assembler -/
theorem up_other {Z : ZW} {k : Nat} {i v : Int} (h : ¬ (k = 3 ∧ (i = 1 ∨ i = 2))) : up Z 3 2 v k i = Z k i := by
  unfold up
  rw [if_neg (fun q => h ⟨q.1, Or.inr q.2⟩)]
theorem up_other1 {Z : ZW} {k : Nat} {i v : Int} (h : ¬ (k = 3 ∧ (i = 1 ∨ i = 2))) : up Z 3 1 v k i = Z k i := by
  unfold up
  rw [if_neg (fun q => h ⟨q.1, Or.inl q.2⟩)]
set_option maxHeartbeats 4000000 in
theorem l_readN {Z : ZW} {J : Int64} {most p2 : Int} {sg ng : Bool} {q : Bool × Int × Int} (ht : TXT Z) (hw : Z 3 2 = -1) (hm : 0 ≤ most ∧ most ≤ 99) (hp : 0 ≤ p2 ∧ p2 ≤ Z 1 0) (hq : q = PD (cuF (Z 2) (Z 1 0)) most ng p2) : OkZ none 7 47 [some (.ref 1), some (.int (I most)), some (bI sg), some (bI ng), none, none, none] [] (up Z 3 1 p2) J (fun r Z' J' => J' = J ∧ (∃ x, r = some (.int (I x)) ∧ RG x ∧ (q.1 = true → x = q.2.1)) ∧ (0 ≤ Z' 3 1 ∧ Z' 3 1 ≤ Z 1 0) ∧ (if q.1 = true then Z' 3 1 = q.2.2 ∧ Z' 3 2 = -1 else Z' 3 2 = q.2.2 ∧ 0 ≤ q.2.2 ∧ q.2.2 ≤ Z 1 0) ∧ ∀ (k : Nat) (j : Int), ¬ (k = 3 ∧ (j = 1 ∨ j = 2)) → Z' k j = Z k j) := by
  have hl := ht.1
  have K161 : ∀ (val : Int) (Z' : ZW) (x6 : Option Value), (0 ≤ val ∧ val ≤ 999) → (0 ≤ Z' 3 1 ∧ Z' 3 1 ≤ Z 1 0) → (q.1 = true → (if ng then -val else val) = q.2.1) → (if q.1 = true then Z' 3 1 = q.2.2 ∧ Z' 3 2 = -1 else Z' 3 2 = q.2.2 ∧ 0 ≤ q.2.2 ∧ q.2.2 ≤ Z 1 0) → (∀ (k : Nat) (j : Int), ¬ (k = 3 ∧ (j = 1 ∨ j = 2)) → Z' k j = Z k j) → OkZ none 7 161 [some (.ref 1), some (.int (I most)), some (bI sg), some (bI ng), some (.int (I p2)), some (.int (I val)), x6] [] Z' J (fun r Z' J' => J' = J ∧ (∃ x, r = some (.int (I x)) ∧ RG x ∧ (q.1 = true → x = q.2.1)) ∧ (0 ≤ Z' 3 1 ∧ Z' 3 1 ≤ Z 1 0) ∧ (if q.1 = true then Z' 3 1 = q.2.2 ∧ Z' 3 2 = -1 else Z' 3 2 = q.2.2 ∧ 0 ≤ q.2.2 ∧ q.2.2 ≤ Z 1 0) ∧ ∀ (k : Nat) (j : Int), ¬ (k = 3 ∧ (j = 1 ∨ j = 2)) → Z' k j = Z k j) := by
    intro val Z' x6 hv h1 h2 h3 h4
    refine z_iload_n rfl rfl ?_
    refine z_ifb_eq rfl (fun h162 => ?_) (fun h162 => ?_)
    · refine z_iload rfl rfl ?_
      rw [h162] at h2
      exact z_iret rfl rfl ⟨rfl, ⟨_, rfl, ⟨by omega, by omega⟩, h2⟩, h1, h3, h4⟩
    · refine z_iload rfl rfl ?_
      refine z_ineg rfl ?_
      refine z_goto rfl ?_
      rw [h162] at h2
      exact z_iret rfl rfl ⟨rfl, ⟨_, rfl, ⟨by omega, by omega⟩, h2⟩, h1, h3, h4⟩
  have K105 : ∀ (j val : Int), (0 ≤ j ∧ j ≤ 3) → (0 ≤ val ∧ val ≤ 999) → p2 + j ≤ Z 1 0 → (j = 0 → q = (false, 0, p2)) → (j = 3 → q = (false, 0, p2 + 2)) → (j = 1 ∨ j = 2 → q = PV most ng val p2 (p2 + j)) → OkZ none 7 105 [some (.ref 1), some (.int (I most)), some (bI sg), some (bI ng), some (.int (I p2)), some (.int (I val)), none] [] (up Z 3 1 (p2 + j)) J (fun r Z' J' => J' = J ∧ (∃ x, r = some (.int (I x)) ∧ RG x ∧ (q.1 = true → x = q.2.1)) ∧ (0 ≤ Z' 3 1 ∧ Z' 3 1 ≤ Z 1 0) ∧ (if q.1 = true then Z' 3 1 = q.2.2 ∧ Z' 3 2 = -1 else Z' 3 2 = q.2.2 ∧ 0 ≤ q.2.2 ∧ q.2.2 ≤ Z 1 0) ∧ ∀ (k : Nat) (j : Int), ¬ (k = 3 ∧ (j = 1 ∨ j = 2)) → Z' k j = Z k j) := by
    intro j val hj hv hjl c0 c3 c12
    refine z_aload_n rfl rfl ?_
    refine z_getS (bi := 1) rfl rfl rfl (by decide) ?_
    rw [up_eq]
    refine z_iload rfl rfl ?_
    refine z_isub rfl ?_
    refine z_istore rfl rfl rfl ?_
    refine z_iload rfl rfl ?_
    refine z_if_ne rfl (by omega) (fun h116 => ?_) (fun h116 => ?_)
    · refine z_iload rfl rfl ?_
      refine z_iconst rfl ?_
      refine z_icmp_ne rfl (by omega) (by omega) (fun h133 => ?_) (fun h133 => ?_)
      · refine z_iload rfl rfl ?_
        refine z_iload_n rfl rfl ?_
        refine z_icmp_le rfl (by omega) (by omega) (fun h152 => ?_) (fun h152 => ?_)
        · have eq := c12 (by omega)
          rw [PV, if_neg (by omega)] at eq
          refine K161 _ _ _ hv (by rw [up_eq]; omega) (by rw [eq]; intro z; rfl) ?_ (fun k i hk => by rw [up_other1 hk])
          rw [eq]
          exact ⟨by rw [up_eq], by rw [up_nj (by decide)]; exact hw⟩
        · refine z_aload_n rfl rfl ?_
          refine z_iload rfl rfl ?_
          refine z_putS (bi := 2) rfl rfl rfl rfl (by decide) ?_
          have eq := c12 (by omega)
          rw [PV, if_pos (by omega)] at eq
          refine K161 _ _ _ hv (by rw [up_nj (by decide), up_eq]; omega) (by rw [eq]; intro z; cases z) ?_ (fun k i hk => by rw [up_other hk, up_other1 hk])
          rw [eq]
          exact ⟨by rw [up_eq], hp.1, hp.2⟩
      · refine z_aload_n rfl rfl ?_
        refine z_aload_n rfl rfl ?_
        refine z_getS (bi := 1) rfl rfl rfl (by decide) ?_
        rw [up_eq]
        refine z_iconst rfl ?_
        refine z_isub rfl ?_
        refine z_putS (bi := 2) rfl rfl rfl rfl (by decide) ?_
        refine z_goto rfl ?_
        have eq := c3 (by omega)
        refine K161 _ _ _ hv (by rw [up_nj (by decide), up_eq]; omega) (by rw [eq]; intro z; cases z) ?_ (fun k i hk => by rw [up_other hk, up_other1 hk])
        rw [eq]
        refine ⟨?_, by show 0 ≤ p2 + 2; omega, by show p2 + 2 ≤ _; omega⟩
        rw [up_eq]
        show p2 + j - 1 = p2 + 2
        omega
    · refine z_aload_n rfl rfl ?_
      refine z_aload_n rfl rfl ?_
      refine z_getS (bi := 1) rfl rfl rfl (by decide) ?_
      rw [up_eq]
      refine z_putS (bi := 2) rfl rfl rfl rfl (by decide) ?_
      refine z_goto rfl ?_
      have e0 : j = 0 := by omega
      have eq := c0 e0
      refine K161 _ _ _ hv (by rw [up_nj (by decide), up_eq]; omega) (by rw [eq]; intro z; cases z) ?_ (fun k i hk => by rw [up_other hk, up_other1 hk])
      rw [eq]
      refine ⟨?_, hp.1, hp.2⟩
      rw [up_eq, e0, Int.add_zero]
  have K56_3 : ∀ val, (0 ≤ val ∧ val ≤ 999) → p2 + 3 ≤ Z 1 0 → q = (false, 0, p2 + 2) → OkZ none 7 56 [some (.ref 1), some (.int (I most)), some (bI sg), some (bI ng), some (.int (I p2)), some (.int (I val)), none] [] (up Z 3 1 (p2 + 3)) J (fun r Z' J' => J' = J ∧ (∃ x, r = some (.int (I x)) ∧ RG x ∧ (q.1 = true → x = q.2.1)) ∧ (0 ≤ Z' 3 1 ∧ Z' 3 1 ≤ Z 1 0) ∧ (if q.1 = true then Z' 3 1 = q.2.2 ∧ Z' 3 2 = -1 else Z' 3 2 = q.2.2 ∧ 0 ≤ q.2.2 ∧ q.2.2 ≤ Z 1 0) ∧ ∀ (k : Nat) (j : Int), ¬ (k = 3 ∧ (j = 1 ∨ j = 2)) → Z' k j = Z k j) := by
    intro val hv hlen hqq
    have ec : cuF (up Z 3 1 (p2 + 3) 2) (up Z 3 1 (p2 + 3) 1 0) (up Z 3 1 (p2 + 3) 3 1) = (cuF (Z 2) (Z 1 0)) (p2 + 3) := by
      show (cuF (Z 2) (Z 1 0)) (up Z 3 1 (p2 + 3) 3 1) = _
      rw [up_eq]
    have hcu := cu_in ht (p2 + 3)
    refine z_aload_n rfl rfl ?_
    refine z_getS (bi := 1) rfl rfl rfl (by decide) ?_
    rw [up_eq]
    refine z_iload rfl rfl ?_
    refine z_iconst rfl ?_
    refine z_iadd rfl ?_
    refine z_icmp_ge rfl (by omega) (by omega) (fun h64 => ?_) (fun h64 => ?_)
    · exact K105 3 val (by omega) (by omega) hlen (fun z => absurd z (by omega)) (fun _ => hqq) (fun z => by omega)
    · refine z_aload_n rfl rfl ?_
      refine z_callV0 rfl rfl rfl rfl rfl rfl (s_cur (by rw [up_eq]; omega) (TXT_up (by decide) ht)) ?_
      rw [ec]
      refine z_callS1 rfl rfl rfl rfl (s_isDigit (by omega)) ?_
      refine z_ifb_eq rfl (fun h74 => ?_) (fun h74 => ?_)
      · exfalso; omega
      · refine z_bipush rfl (by decide) ?_
        refine z_iload rfl rfl ?_
        refine z_imul rfl ?_
        refine z_aload_n rfl rfl ?_
        refine z_callV0 rfl rfl rfl rfl rfl rfl (s_cur (by rw [up_eq]; omega) (TXT_up (by decide) ht)) ?_
        rw [ec]
        refine z_bipush rfl (by decide) ?_
        refine z_isub rfl ?_
        refine z_iadd rfl ?_
        refine z_istore rfl rfl rfl ?_
        refine z_aload_n rfl rfl ?_
        refine z_dup rfl rfl ?_
        refine z_getS (bi := 1) rfl rfl rfl (by decide) ?_
        rw [up_eq]
        refine z_iconst rfl ?_
        refine z_iadd rfl ?_
        refine z_putS (bi := 1) rfl rfl rfl rfl (by decide) ?_
        refine z_goto rfl ?_
        exfalso; omega
  have K56_2 : ∀ val, (0 ≤ val ∧ val ≤ 99) → p2 + 2 ≤ Z 1 0 → dgB (cuF (Z 2) (Z 1 0)) p2 = true → dgB (cuF (Z 2) (Z 1 0)) (p2 + 1) = true → val = 10 * ((cuF (Z 2) (Z 1 0)) p2 - 48) + ((cuF (Z 2) (Z 1 0)) (p2 + 1) - 48) → OkZ none 7 56 [some (.ref 1), some (.int (I most)), some (bI sg), some (bI ng), some (.int (I p2)), some (.int (I val)), none] [] (up Z 3 1 (p2 + 2)) J (fun r Z' J' => J' = J ∧ (∃ x, r = some (.int (I x)) ∧ RG x ∧ (q.1 = true → x = q.2.1)) ∧ (0 ≤ Z' 3 1 ∧ Z' 3 1 ≤ Z 1 0) ∧ (if q.1 = true then Z' 3 1 = q.2.2 ∧ Z' 3 2 = -1 else Z' 3 2 = q.2.2 ∧ 0 ≤ q.2.2 ∧ q.2.2 ≤ Z 1 0) ∧ ∀ (k : Nat) (j : Int), ¬ (k = 3 ∧ (j = 1 ∨ j = 2)) → Z' k j = Z k j) := by
    intro val hv hlen d0 d1 hval
    have ec : cuF (up Z 3 1 (p2 + 2) 2) (up Z 3 1 (p2 + 2) 1 0) (up Z 3 1 (p2 + 2) 3 1) = (cuF (Z 2) (Z 1 0)) (p2 + 2) := by
      show (cuF (Z 2) (Z 1 0)) (up Z 3 1 (p2 + 2) 3 1) = _
      rw [up_eq]
    have hcu := cu_in ht (p2 + 2)
    refine z_aload_n rfl rfl ?_
    refine z_getS (bi := 1) rfl rfl rfl (by decide) ?_
    rw [up_eq]
    refine z_iload rfl rfl ?_
    refine z_iconst rfl ?_
    refine z_iadd rfl ?_
    refine z_icmp_ge rfl (by omega) (by omega) (fun h64 => ?_) (fun h64 => ?_)
    · exfalso; omega
    · refine z_aload_n rfl rfl ?_
      refine z_callV0 rfl rfl rfl rfl rfl rfl (s_cur (by rw [up_eq]; omega) (TXT_up (by decide) ht)) ?_
      rw [ec]
      refine z_callS1 rfl rfl rfl rfl (s_isDigit (by omega)) ?_
      refine z_ifb_eq rfl (fun h74 => ?_) (fun h74 => ?_)
      · have nd : dgB (cuF (Z 2) (Z 1 0)) (p2 + 2) = false := h74
        exact K105 2 val (by omega) (by omega) hlen (fun z => absurd z (by omega)) (fun z => absurd z (by omega)) (fun _ => by rw [hq, PD, if_neg (by rw [d0]; decide), if_neg (by rw [d1]; decide), if_pos nd, hval])
      · refine z_bipush rfl (by decide) ?_
        refine z_iload rfl rfl ?_
        refine z_imul rfl ?_
        refine z_aload_n rfl rfl ?_
        refine z_callV0 rfl rfl rfl rfl rfl rfl (s_cur (by rw [up_eq]; omega) (TXT_up (by decide) ht)) ?_
        rw [ec]
        refine z_bipush rfl (by decide) ?_
        refine z_isub rfl ?_
        refine z_iadd rfl ?_
        refine z_istore rfl rfl rfl ?_
        refine z_aload_n rfl rfl ?_
        refine z_dup rfl rfl ?_
        refine z_getS (bi := 1) rfl rfl rfl (by decide) ?_
        rw [up_eq]
        refine z_iconst rfl ?_
        refine z_iadd rfl ?_
        refine z_putS (bi := 1) rfl rfl rfl rfl (by decide) ?_
        refine z_goto rfl ?_
        have dd := of_decide_eq_true h74
        have hlt := cu_some (bt := Z 2) (len := Z 1 0) (p := p2 + 2) (by omega)
        rw [up_up]
        rw [show p2 + 2 + 1 = p2 + 3 by omega]
        exact K56_3 _ (by omega) (by omega) (by rw [hq, PD, if_neg (by rw [d0]; decide), if_neg (by rw [d1]; decide), if_neg (by rw [show dgB (cuF (Z 2) (Z 1 0)) (p2 + 2) = true from h74]; decide)])
  have K56_1 : ∀ val, (0 ≤ val ∧ val ≤ 9) → p2 + 1 ≤ Z 1 0 → dgB (cuF (Z 2) (Z 1 0)) p2 = true → val = (cuF (Z 2) (Z 1 0)) p2 - 48 → OkZ none 7 56 [some (.ref 1), some (.int (I most)), some (bI sg), some (bI ng), some (.int (I p2)), some (.int (I val)), none] [] (up Z 3 1 (p2 + 1)) J (fun r Z' J' => J' = J ∧ (∃ x, r = some (.int (I x)) ∧ RG x ∧ (q.1 = true → x = q.2.1)) ∧ (0 ≤ Z' 3 1 ∧ Z' 3 1 ≤ Z 1 0) ∧ (if q.1 = true then Z' 3 1 = q.2.2 ∧ Z' 3 2 = -1 else Z' 3 2 = q.2.2 ∧ 0 ≤ q.2.2 ∧ q.2.2 ≤ Z 1 0) ∧ ∀ (k : Nat) (j : Int), ¬ (k = 3 ∧ (j = 1 ∨ j = 2)) → Z' k j = Z k j) := by
    intro val hv hlen d0 hval
    have ec : cuF (up Z 3 1 (p2 + 1) 2) (up Z 3 1 (p2 + 1) 1 0) (up Z 3 1 (p2 + 1) 3 1) = (cuF (Z 2) (Z 1 0)) (p2 + 1) := by
      show (cuF (Z 2) (Z 1 0)) (up Z 3 1 (p2 + 1) 3 1) = _
      rw [up_eq]
    have hcu := cu_in ht (p2 + 1)
    refine z_aload_n rfl rfl ?_
    refine z_getS (bi := 1) rfl rfl rfl (by decide) ?_
    rw [up_eq]
    refine z_iload rfl rfl ?_
    refine z_iconst rfl ?_
    refine z_iadd rfl ?_
    refine z_icmp_ge rfl (by omega) (by omega) (fun h64 => ?_) (fun h64 => ?_)
    · exfalso; omega
    · refine z_aload_n rfl rfl ?_
      refine z_callV0 rfl rfl rfl rfl rfl rfl (s_cur (by rw [up_eq]; omega) (TXT_up (by decide) ht)) ?_
      rw [ec]
      refine z_callS1 rfl rfl rfl rfl (s_isDigit (by omega)) ?_
      refine z_ifb_eq rfl (fun h74 => ?_) (fun h74 => ?_)
      · have nd : dgB (cuF (Z 2) (Z 1 0)) (p2 + 1) = false := h74
        exact K105 1 val (by omega) (by omega) hlen (fun z => absurd z (by omega)) (fun z => absurd z (by omega)) (fun _ => by rw [hq, PD, if_neg (by rw [d0]; decide), if_pos nd, hval])
      · refine z_bipush rfl (by decide) ?_
        refine z_iload rfl rfl ?_
        refine z_imul rfl ?_
        refine z_aload_n rfl rfl ?_
        refine z_callV0 rfl rfl rfl rfl rfl rfl (s_cur (by rw [up_eq]; omega) (TXT_up (by decide) ht)) ?_
        rw [ec]
        refine z_bipush rfl (by decide) ?_
        refine z_isub rfl ?_
        refine z_iadd rfl ?_
        refine z_istore rfl rfl rfl ?_
        refine z_aload_n rfl rfl ?_
        refine z_dup rfl rfl ?_
        refine z_getS (bi := 1) rfl rfl rfl (by decide) ?_
        rw [up_eq]
        refine z_iconst rfl ?_
        refine z_iadd rfl ?_
        refine z_putS (bi := 1) rfl rfl rfl rfl (by decide) ?_
        refine z_goto rfl ?_
        have dd := of_decide_eq_true h74
        have hlt := cu_some (bt := Z 2) (len := Z 1 0) (p := p2 + 1) (by omega)
        rw [up_up]
        rw [show p2 + 1 + 1 = p2 + 2 by omega]
        exact K56_2 _ (by omega) (by omega) d0 h74 (by rw [hval])
  have K56_0 : ∀ val, (0 ≤ val ∧ val ≤ 0) → p2 + 0 ≤ Z 1 0 → val = 0 → OkZ none 7 56 [some (.ref 1), some (.int (I most)), some (bI sg), some (bI ng), some (.int (I p2)), some (.int (I val)), none] [] (up Z 3 1 (p2 + 0)) J (fun r Z' J' => J' = J ∧ (∃ x, r = some (.int (I x)) ∧ RG x ∧ (q.1 = true → x = q.2.1)) ∧ (0 ≤ Z' 3 1 ∧ Z' 3 1 ≤ Z 1 0) ∧ (if q.1 = true then Z' 3 1 = q.2.2 ∧ Z' 3 2 = -1 else Z' 3 2 = q.2.2 ∧ 0 ≤ q.2.2 ∧ q.2.2 ≤ Z 1 0) ∧ ∀ (k : Nat) (j : Int), ¬ (k = 3 ∧ (j = 1 ∨ j = 2)) → Z' k j = Z k j) := by
    intro val hv hlen hval
    have ec : cuF (up Z 3 1 (p2 + 0) 2) (up Z 3 1 (p2 + 0) 1 0) (up Z 3 1 (p2 + 0) 3 1) = (cuF (Z 2) (Z 1 0)) (p2 + 0) := by
      show (cuF (Z 2) (Z 1 0)) (up Z 3 1 (p2 + 0) 3 1) = _
      rw [up_eq]
    have hcu := cu_in ht (p2 + 0)
    refine z_aload_n rfl rfl ?_
    refine z_getS (bi := 1) rfl rfl rfl (by decide) ?_
    rw [up_eq]
    refine z_iload rfl rfl ?_
    refine z_iconst rfl ?_
    refine z_iadd rfl ?_
    refine z_icmp_ge rfl (by omega) (by omega) (fun h64 => ?_) (fun h64 => ?_)
    · exfalso; omega
    · refine z_aload_n rfl rfl ?_
      refine z_callV0 rfl rfl rfl rfl rfl rfl (s_cur (by rw [up_eq]; omega) (TXT_up (by decide) ht)) ?_
      rw [ec]
      refine z_callS1 rfl rfl rfl rfl (s_isDigit (by omega)) ?_
      refine z_ifb_eq rfl (fun h74 => ?_) (fun h74 => ?_)
      · have nd : dgB (cuF (Z 2) (Z 1 0)) (p2 + 0) = false := h74
        rw [Int.add_zero] at nd
        exact K105 0 val (by omega) (by omega) hlen (fun _ => by rw [hq, PD, if_pos nd]) (fun z => absurd z (by omega)) (fun z => by omega)
      · refine z_bipush rfl (by decide) ?_
        refine z_iload rfl rfl ?_
        refine z_imul rfl ?_
        refine z_aload_n rfl rfl ?_
        refine z_callV0 rfl rfl rfl rfl rfl rfl (s_cur (by rw [up_eq]; omega) (TXT_up (by decide) ht)) ?_
        rw [ec]
        refine z_bipush rfl (by decide) ?_
        refine z_isub rfl ?_
        refine z_iadd rfl ?_
        refine z_istore rfl rfl rfl ?_
        refine z_aload_n rfl rfl ?_
        refine z_dup rfl rfl ?_
        refine z_getS (bi := 1) rfl rfl rfl (by decide) ?_
        rw [up_eq]
        refine z_iconst rfl ?_
        refine z_iadd rfl ?_
        refine z_putS (bi := 1) rfl rfl rfl rfl (by decide) ?_
        refine z_goto rfl ?_
        have dd := of_decide_eq_true h74
        have hlt := cu_some (bt := Z 2) (len := Z 1 0) (p := p2 + 0) (by omega)
        rw [up_up]
        rw [show p2 + 0 + 1 = p2 + 1 by omega]
        rw [Int.add_zero] at h74 dd hlt
        rw [show (10 : Int) * val + (cuF (Z 2) (Z 1 0) (p2 + 0) - 48) = cuF (Z 2) (Z 1 0) p2 - 48 by rw [hval, Int.add_zero]; omega]
        exact K56_1 _ (by omega) (by omega) h74 rfl
  refine z_aload_n rfl rfl ?_
  refine z_getS (bi := 1) rfl rfl rfl (by decide) ?_
  rw [up_eq]
  refine z_istore rfl rfl rfl ?_
  refine z_iconst rfl ?_
  refine z_istore rfl rfl rfl ?_
  have k0 := K56_0 0 (by omega) (by omega) rfl
  rw [Int.add_zero] at k0
  exact k0
theorem s_readN {Z : ZW} {J : Int64} {most p : Int} {sg : Bool} (ht : TXT Z) (hw : Z 3 2 = -1) (hm : 0 ≤ most ∧ most ≤ 99) (he : Z 3 1 = p) (hp : 0 ≤ p ∧ p ≤ Z 1 0) : Mz 7 [.ref 1, .int (I most), bI sg] Z J (fun r Z' J' => J' = J ∧ (∃ x, r = some (.int (I x)) ∧ RG x ∧ ((PN (cuF (Z 2) (Z 1 0)) (Z 1 0) most sg p).1 = true → x = (PN (cuF (Z 2) (Z 1 0)) (Z 1 0) most sg p).2.1)) ∧ (0 ≤ Z' 3 1 ∧ Z' 3 1 ≤ Z 1 0) ∧ (if (PN (cuF (Z 2) (Z 1 0)) (Z 1 0) most sg p).1 = true then Z' 3 1 = (PN (cuF (Z 2) (Z 1 0)) (Z 1 0) most sg p).2.2 ∧ Z' 3 2 = -1 else Z' 3 2 = (PN (cuF (Z 2) (Z 1 0)) (Z 1 0) most sg p).2.2 ∧ 0 ≤ (PN (cuF (Z 2) (Z 1 0)) (Z 1 0) most sg p).2.2 ∧ (PN (cuF (Z 2) (Z 1 0)) (Z 1 0) most sg p).2.2 ≤ Z 1 0) ∧ ∀ (k : Nat) (j : Int), ¬ (k = 3 ∧ (j = 1 ∨ j = 2)) → Z' k j = Z k j) := by
  unfold Mz
  have hl := ht.1
  have hsk := skp_in (bt := Z 2) hl.1 hp.1 hp.2
  obtain ⟨p1, e1⟩ : ∃ p1, p1 = skp (cuF (Z 2) (Z 1 0)) (Z 1 0) p := ⟨_, rfl⟩
  rw [← e1] at hsk
  obtain ⟨q, hq⟩ : ∃ q, q = PN (cuF (Z 2) (Z 1 0)) (Z 1 0) most sg p := ⟨_, rfl⟩
  rw [← hq]
  unfold PN at hq
  rw [← e1] at hq
  have ec : cuF (up Z 3 1 p1 2) (up Z 3 1 p1 1 0) (up Z 3 1 p1 3 1) = (cuF (Z 2) (Z 1 0)) p1 := by
    show (cuF (Z 2) (Z 1 0)) (up Z 3 1 p1 3 1) = _
    rw [up_eq]
  have hcu := cu_in ht p1
  have K33 : ∀ ng : Bool, ng = (sg && decide ((cuF (Z 2) (Z 1 0)) p1 = 45)) → OkZ none 7 33 [some (.ref 1), some (.int (I most)), some (bI sg), some (bI ng), none, none, none] [] (up Z 3 1 p1) J (fun r Z' J' => J' = J ∧ (∃ x, r = some (.int (I x)) ∧ RG x ∧ (q.1 = true → x = q.2.1)) ∧ (0 ≤ Z' 3 1 ∧ Z' 3 1 ≤ Z 1 0) ∧ (if q.1 = true then Z' 3 1 = q.2.2 ∧ Z' 3 2 = -1 else Z' 3 2 = q.2.2 ∧ 0 ≤ q.2.2 ∧ q.2.2 ≤ Z 1 0) ∧ ∀ (k : Nat) (j : Int), ¬ (k = 3 ∧ (j = 1 ∨ j = 2)) → Z' k j = Z k j) := by
    intro ng hng
    rw [← hng] at hq
    refine z_iload_n rfl rfl ?_
    refine z_ifb_eq rfl (fun h34 => ?_) (fun h34 => ?_)
    · rw [h34, if_neg (by decide)] at hq
      rw [h34]
      exact l_readN ht hw hm (by omega) hq
    · refine z_aload_n rfl rfl ?_
      refine z_dup rfl rfl ?_
      refine z_getS (bi := 1) rfl rfl rfl (by decide) ?_
      rw [up_eq]
      refine z_iconst rfl ?_
      refine z_iadd rfl ?_
      refine z_putS (bi := 1) rfl rfl rfl rfl (by decide) ?_
      rw [h34, if_pos rfl] at hq
      rw [h34] at hng
      have h45 : (cuF (Z 2) (Z 1 0)) p1 = 45 := by cases sg with | false => cases hng | true => exact of_decide_eq_true hng.symm
      have hlt := cu_some (bt := Z 2) (len := Z 1 0) (p := p1) (by omega)
      rw [up_up, h34]
      exact l_readN ht hw hm (by omega) hq
  refine z_aload_n rfl rfl ?_
  refine z_getS (bi := 2) rfl rfl rfl (by decide) ?_
  refine z_iconst rfl ?_
  refine z_icmp_eq rfl (by omega) (by omega) (fun h5 => ?_) (fun h5 => ?_)
  · refine z_aload_n rfl rfl ?_
    refine z_callV0v rfl rfl rfl rfl rfl rfl (s_skip ht hp he) ?_
    rw [← e1]
    refine z_iload_n rfl rfl ?_
    refine z_ifb_eq rfl (fun h15 => ?_) (fun h15 => ?_)
    · refine z_iconst rfl ?_
      refine z_istore_n rfl rfl rfl ?_
      exact K33 false (by rw [h15]; rfl)
    · refine z_aload_n rfl rfl ?_
      refine z_callV0 rfl rfl rfl rfl rfl rfl (s_cur (by rw [up_eq]; omega) (TXT_up (by decide) ht)) ?_
      rw [ec]
      refine z_bipush rfl (by decide) ?_
      refine z_icmp_ne rfl (by omega) (by omega) (fun h24 => ?_) (fun h24 => ?_)
      · refine z_iconst rfl ?_
        refine z_istore_n rfl rfl rfl ?_
        exact K33 false (by rw [decide_eq_false h24, Bool.and_false])
      · refine z_iconst rfl ?_
        refine z_goto rfl ?_
        refine z_istore_n rfl rfl rfl ?_
        exact K33 true (by rw [h15, decide_eq_true h24]; rfl)
  · exact absurd hw h5
theorem s_readN0 {Z : ZW} {J : Int64} {most : Int} {sg : Bool} (hr : RG (Z 3 2)) (hw : Z 3 2 ≠ -1) : D 7 [.ref 1, .int (I most), bI sg] Z J (some (.int (I 0))) Z J := by
  unfold D Mz
  refine z_aload_n rfl rfl ?_
  refine z_getS (bi := 2) rfl rfl rfl (by decide) ?_
  refine z_iconst rfl ?_
  refine z_icmp_eq rfl (by omega) (by omega) (fun h5 => ?_) (fun h5 => ?_)
  · exact absurd h5 hw
  · refine z_iconst rfl ?_
    exact z_iret rfl rfl ⟨rfl, rfl, rfl⟩
theorem s_semi0 {Z : ZW} {J : Int64} (hr : RG (Z 3 2)) (hw : Z 3 2 ≠ -1) : D 9 [.ref 1] Z J none Z J := by
  unfold D Mz
  refine z_aload_n rfl rfl ?_
  refine z_getS (bi := 2) rfl rfl rfl (by decide) ?_
  refine z_iconst rfl ?_
  refine z_icmp_eq rfl (by omega) (by omega) (fun h5 => ?_) (fun h5 => ?_)
  · exact absurd h5 hw
  · exact z_vret rfl rfl ⟨rfl, rfl, rfl⟩
theorem s_semi {Z : ZW} {J : Int64} {p : Int} (ht : TXT Z) (hw : Z 3 2 = -1) (he : Z 3 1 = p) (hp : 0 ≤ p ∧ p ≤ Z 1 0) : D 9 [.ref 1] Z J none (if (cuF (Z 2) (Z 1 0)) (skp (cuF (Z 2) (Z 1 0)) (Z 1 0) p) = 59 then up Z 3 1 (skp (cuF (Z 2) (Z 1 0)) (Z 1 0) p + 1) else up (up Z 3 1 (skp (cuF (Z 2) (Z 1 0)) (Z 1 0) p)) 3 2 (skp (cuF (Z 2) (Z 1 0)) (Z 1 0) p)) J := by
  unfold D Mz
  have hl := ht.1
  have hsk := skp_in (bt := Z 2) hl.1 hp.1 hp.2
  obtain ⟨p1, e1⟩ : ∃ p1, p1 = skp (cuF (Z 2) (Z 1 0)) (Z 1 0) p := ⟨_, rfl⟩
  rw [← e1] at hsk
  rw [← e1]
  have ec : cuF (up Z 3 1 p1 2) (up Z 3 1 p1 1 0) (up Z 3 1 p1 3 1) = (cuF (Z 2) (Z 1 0)) p1 := by
    show (cuF (Z 2) (Z 1 0)) (up Z 3 1 p1 3 1) = _
    rw [up_eq]
  have hcu := cu_in ht p1
  refine z_aload_n rfl rfl ?_
  refine z_getS (bi := 2) rfl rfl rfl (by decide) ?_
  refine z_iconst rfl ?_
  refine z_icmp_eq rfl (by omega) (by omega) (fun h5 => ?_) (fun h5 => ?_)
  · refine z_aload_n rfl rfl ?_
    refine z_callV0v rfl rfl rfl rfl rfl rfl (s_skip ht hp he) ?_
    rw [← e1]
    refine z_aload_n rfl rfl ?_
    refine z_callV0 rfl rfl rfl rfl rfl rfl (s_cur (by rw [up_eq]; omega) (TXT_up (by decide) ht)) ?_
    rw [ec]
    refine z_bipush rfl (by decide) ?_
    refine z_icmp_ne rfl (by omega) (by omega) (fun h19 => ?_) (fun h19 => ?_)
    · refine z_aload_n rfl rfl ?_
      refine z_aload_n rfl rfl ?_
      refine z_getS (bi := 1) rfl rfl rfl (by decide) ?_
      rw [up_eq]
      refine z_putS (bi := 2) rfl rfl rfl rfl (by decide) ?_
      exact z_vret rfl rfl ⟨rfl, by rw [if_neg h19], rfl⟩
    · refine z_aload_n rfl rfl ?_
      refine z_dup rfl rfl ?_
      refine z_getS (bi := 1) rfl rfl rfl (by decide) ?_
      rw [up_eq]
      refine z_iconst rfl ?_
      refine z_iadd rfl ?_
      refine z_putS (bi := 1) rfl rfl rfl rfl (by decide) ?_
      refine z_goto rfl ?_
      exact z_vret rfl rfl ⟨rfl, by rw [if_pos h19, up_up], rfl⟩
  · exact absurd hw h5
end
section
/-! the class: an instruction is read, a text is translated -/
def mostO (x : Int) : Int := if x ≤ 1 then 99 else if x ≤ 3 then 3 else 24
def QA (cu : FI) (len p : Int) : Bool × Int × Int := if opc (cu p) = 4 ∨ opc (cu p) = 7 then (true, 0, p + 1) else PN cu len 3 false (p + 1)
def QB (cu : FI) (len p : Int) : Bool × Int × Int := if (QA cu len p).1 = true then (if opc (cu p) = 7 then (true, 0, (QA cu len p).2.2) else PN cu len (mostO (opc (cu p))) (decide (opc (cu p) ≤ 1)) (QA cu len p).2.2) else (false, 0, (QA cu len p).2.2)
def QC (cu : FI) (len p : Int) : Bool × Int := if (QB cu len p).1 = true then (if cu (skp cu len (QB cu len p).2.2) = 59 then (true, skp cu len (QB cu len p).2.2 + 1) else (false, skp cu len (QB cu len p).2.2)) else (false, (QB cu len p).2.2)
def QI (cu : FI) (len n p : Int) : Bool × Int := if opc (cu p) = -1 ∨ 24 ≤ n then (false, p) else QC cu len p
def ADD (Z : ZW) (n a b c : Int) : ZW := up (up (up (up Z 10 n a) 11 n b) 12 n c) 9 0 (n + 1)
theorem opc_in (x : Int) : -1 ≤ opc x ∧ opc x ≤ 7 := by
  unfold opc
  repeat' split
  all_goals omega
theorem opc_some {x : Int} (h : opc x ≠ -1) : x ≠ -1 := by
  intro q
  rw [q] at h
  exact h rfl
theorem TXT_of {Z Z' : ZW} (h : TXT Z) (e : ∀ (k : Nat) (j : Int), ¬ (k = 3 ∧ (j = 1 ∨ j = 2)) → Z' k j = Z k j) : TXT Z' ∧ Z' 1 0 = Z 1 0 ∧ Z' 2 = Z 2 := by
  have e1 : Z' 1 0 = Z 1 0 := e 1 0 (by decide)
  have e2 : Z' 2 = Z 2 := funext fun j => e 2 j (fun q => absurd q.1 (by decide))
  refine ⟨⟨?_, ?_⟩, e1, e2⟩
  · rw [e1]; exact h.1
  · rw [e1, e2]; exact h.2
theorem s_add {Z : ZW} {J : Int64} {n a b c : Int} (he : Z 9 0 = n) (hn : 0 ≤ n ∧ n < 24) : D 10 [.ref 8, .int (I a), .int (I b), .int (I c)] Z J none (ADD Z n a b c) J := by
  unfold D Mz
  refine z_aload_n rfl rfl ?_
  refine z_getI (bi := 0) rfl rfl rfl rfl ?_
  rw [he]
  refine z_if_lt rfl (by omega) (fun h4 => ?_) (fun h4 => ?_)
  · exfalso; omega
  · refine z_aload_n rfl rfl ?_
    refine z_getI (bi := 0) rfl rfl rfl rfl ?_
    rw [he]
    refine z_bipush rfl (by decide) ?_
    refine z_icmp_ge rfl (by omega) (by omega) (fun h13 => ?_) (fun h13 => ?_)
    · exfalso; omega
    · refine z_aload_n rfl rfl ?_
      refine z_getR rfl rfl rfl rfl ?_
      refine z_aload_n rfl rfl ?_
      refine z_getI (bi := 0) rfl rfl rfl rfl ?_
      rw [he]
      refine z_iload_n rfl rfl ?_
      refine z_iast rfl rfl (by omega) ?_
      refine z_aload_n rfl rfl ?_
      refine z_getR rfl rfl rfl rfl ?_
      refine z_aload_n rfl rfl ?_
      refine z_getI (bi := 0) rfl rfl rfl rfl ?_
      rw [up_ne (by decide), he]
      refine z_iload_n rfl rfl ?_
      refine z_iast rfl rfl (by omega) ?_
      refine z_aload_n rfl rfl ?_
      refine z_getR rfl rfl rfl rfl ?_
      refine z_aload_n rfl rfl ?_
      refine z_getI (bi := 0) rfl rfl rfl rfl ?_
      rw [up_ne (by decide), up_ne (by decide), he]
      refine z_iload_n rfl rfl ?_
      refine z_iast rfl rfl (by omega) ?_
      refine z_aload_n rfl rfl ?_
      refine z_dup rfl rfl ?_
      refine z_getI (bi := 0) rfl rfl rfl rfl ?_
      rw [up_ne (by decide), up_ne (by decide), up_ne (by decide), he]
      refine z_iconst rfl ?_
      refine z_iadd rfl ?_
      refine z_putI (bi := 0) rfl rfl rfl rfl rfl ?_
      exact z_vret rfl rfl ⟨rfl, rfl, rfl⟩
theorem ADD_congr {Z Z' : ZW} {n a b c : Int} {k : Nat} {j : Int} (e : Z' k j = Z k j) : ADD Z' n a b c k j = ADD Z n a b c k j := by
  unfold ADD up
  split
  · rfl
  · split
    · rfl
    · split
      · rfl
      · split
        · rfl
        · exact e
set_option maxHeartbeats 4000000 in
theorem s_readI {Z : ZW} {J : Int64} {n p : Int} (ht : TXT Z) (hw : Z 3 2 = -1) (he : Z 3 1 = p) (hp : 0 ≤ p ∧ p ≤ Z 1 0) (hn : Z 9 0 = n) (hn2 : 0 ≤ n ∧ n ≤ 24) : Mz 11 [.ref 1, .ref 8] Z J (fun r Z' J' => r = none ∧ J' = J ∧ (0 ≤ Z' 3 1 ∧ Z' 3 1 ≤ Z 1 0) ∧ (if (QI (cuF (Z 2) (Z 1 0)) (Z 1 0) n p).1 = true then (Z' 3 2 = -1 ∧ Z' 3 1 = (QI (cuF (Z 2) (Z 1 0)) (Z 1 0) n p).2 ∧ (n < 24 ∧ 0 ≤ opc ((cuF (Z 2) (Z 1 0)) p) ∧ (QB (cuF (Z 2) (Z 1 0)) (Z 1 0) p).1 = true) ∧ ∀ (k : Nat) (j : Int), ¬ (k = 3 ∧ (j = 1 ∨ j = 2)) → Z' k j = ADD Z n (opc ((cuF (Z 2) (Z 1 0)) p)) (QA (cuF (Z 2) (Z 1 0)) (Z 1 0) p).2.1 (QB (cuF (Z 2) (Z 1 0)) (Z 1 0) p).2.1 k j) else (Z' 3 2 = (QI (cuF (Z 2) (Z 1 0)) (Z 1 0) n p).2 ∧ 0 ≤ (QI (cuF (Z 2) (Z 1 0)) (Z 1 0) n p).2 ∧ (QI (cuF (Z 2) (Z 1 0)) (Z 1 0) n p).2 ≤ Z 1 0) ∧ (∀ (k : Nat) (j : Int), ¬ (k = 3 ∧ (j = 1 ∨ j = 2)) → Z' k j = Z k j))) := by
  unfold Mz
  have hl := ht.1
  have hcp := cu_in ht p
  have ho := opc_in ((cuF (Z 2) (Z 1 0)) p)
  obtain ⟨q, hq⟩ : ∃ q, q = QI (cuF (Z 2) (Z 1 0)) (Z 1 0) n p := ⟨_, rfl⟩
  rw [← hq]
  unfold QI at hq
  obtain ⟨op, eo⟩ : ∃ op, op = opc ((cuF (Z 2) (Z 1 0)) p) := ⟨_, rfl⟩
  rw [← eo] at ho hq
  obtain ⟨qa, ea⟩ : ∃ qa, qa = QA (cuF (Z 2) (Z 1 0)) (Z 1 0) p := ⟨_, rfl⟩
  obtain ⟨qb, eb⟩ : ∃ qb, qb = QB (cuF (Z 2) (Z 1 0)) (Z 1 0) p := ⟨_, rfl⟩
  have eb2 := eb
  have ea2 := ea
  unfold QB at eb2
  unfold QA at ea2
  rw [← ea, ← eo] at eb2
  rw [← eo] at ea2
  unfold QC at hq
  rw [← eb] at hq
  rw [← ea, ← eb, ← eo]
  have K94 : ¬ (op = -1 ∨ 24 ≤ n) → ∀ (r1 r2 : Int) (Z' : ZW), (qa.1 = true → r1 = qa.2.1) → (qb.1 = true → r2 = qb.2.1) → (qb.1 = true → qa.1 = true) → (0 ≤ Z' 3 1 ∧ Z' 3 1 ≤ Z 1 0) → (if qb.1 = true then Z' 3 1 = qb.2.2 ∧ Z' 3 2 = -1 else Z' 3 2 = qb.2.2 ∧ 0 ≤ qb.2.2 ∧ qb.2.2 ≤ Z 1 0) → (∀ (k : Nat) (j : Int), ¬ (k = 3 ∧ (j = 1 ∨ j = 2)) → Z' k j = Z k j) → OkZ none 11 94 [some (.ref 1), some (.ref 8), some (.int (I op)), some (.int (I r1)), some (.int (I r2))] [] Z' J (fun r Z' J' => r = none ∧ J' = J ∧ (0 ≤ Z' 3 1 ∧ Z' 3 1 ≤ Z 1 0) ∧ (if q.1 = true then (Z' 3 2 = -1 ∧ Z' 3 1 = q.2 ∧ (n < 24 ∧ 0 ≤ op ∧ qb.1 = true) ∧ ∀ (k : Nat) (j : Int), ¬ (k = 3 ∧ (j = 1 ∨ j = 2)) → Z' k j = ADD Z n (op) qa.2.1 qb.2.1 k j) else (Z' 3 2 = q.2 ∧ 0 ≤ q.2 ∧ q.2 ≤ Z 1 0) ∧ (∀ (k : Nat) (j : Int), ¬ (k = 3 ∧ (j = 1 ∨ j = 2)) → Z' k j = Z k j))) := by
    intro hgo r1 r2 Z' hr1 hr2 hab hat hst hsame
    obtain ⟨ht', e1, e2⟩ := TXT_of ht hsame
    rw [if_neg hgo] at hq
    refine z_aload_n rfl rfl ?_
    by_cases hb : qb.1 = true
    · rw [if_pos hb] at hst hq
      obtain ⟨a1, a2⟩ := hst
      have hpp : 0 ≤ qb.2.2 ∧ qb.2.2 ≤ Z 1 0 := by omega
      have hsk := skp_in (bt := Z 2) hl.1 hpp.1 hpp.2
      have e3 : Z' 9 0 = n := by rw [hsame 9 0 (by decide), hn]
      refine z_callV0v rfl rfl rfl rfl rfl rfl (s_semi ht' a2 a1 (by rw [e1]; exact hpp)) ?_
      rw [e1, e2]
      by_cases hc : (cuF (Z 2) (Z 1 0)) (skp (cuF (Z 2) (Z 1 0)) (Z 1 0) qb.2.2) = 59
      · rw [if_pos hc] at hq
        rw [if_pos hc]
        have hlt := cu_some (bt := Z 2) (len := Z 1 0) (p := skp (cuF (Z 2) (Z 1 0)) (Z 1 0) qb.2.2) (by omega)
        refine z_aload_n rfl rfl ?_
        refine z_getS (bi := 2) rfl rfl rfl (by decide) ?_
        rw [up_nj (by decide), a2]
        refine z_iconst rfl ?_
        refine z_icmp_ne rfl (by omega) (by omega) (fun h103 => ?_) (fun h103 => ?_)
        · exfalso; omega
        · refine z_aload_n rfl rfl ?_
          refine z_iload_n rfl rfl ?_
          refine z_iload_n rfl rfl ?_
          refine z_iload rfl rfl ?_
          refine z_callV3v rfl rfl rfl rfl rfl rfl (s_add (n := n) (by rw [up_ne (by decide)]; exact e3) (by omega)) ?_
          refine z_vret rfl rfl ⟨rfl, rfl, ?_, ?_⟩
          · show 0 ≤ ADD _ _ _ _ _ 3 1 ∧ _
            unfold ADD
            rw [up_ne (by decide), up_ne (by decide), up_ne (by decide), up_ne (by decide), up_eq]
            omega
          · rw [hq, if_pos rfl]
            refine ⟨?_, ?_, ⟨by omega, by omega, hb⟩, ?_⟩
            · unfold ADD; rw [up_ne (by decide), up_ne (by decide), up_ne (by decide), up_ne (by decide), up_nj (by decide)]; exact a2
            · unfold ADD; rw [up_ne (by decide), up_ne (by decide), up_ne (by decide), up_ne (by decide), up_eq]
            · intro k j hk
              rw [← hr1 (hab hb), ← hr2 hb]
              exact ADD_congr (by rw [up_other1 hk]; exact hsame k j hk)
      · rw [if_neg hc] at hq
        rw [if_neg hc]
        refine z_aload_n rfl rfl ?_
        refine z_getS (bi := 2) rfl rfl rfl (by decide) ?_
        rw [up_eq]
        refine z_iconst rfl ?_
        refine z_icmp_ne rfl (by omega) (by omega) (fun h103 => ?_) (fun h103 => ?_)
        · refine z_vret rfl rfl ⟨rfl, rfl, ?_, ?_⟩
          · rw [up_nj (by decide), up_eq]; omega
          · rw [hq]
            exact ⟨⟨by rw [up_eq], by omega, by omega⟩, fun k j hk => by rw [up_other hk, up_other1 hk]; exact hsame k j hk⟩
        · exfalso; omega
    · rw [if_neg hb] at hst hq
      refine z_callV0v rfl rfl rfl rfl rfl rfl (s_semi0 (by omega) (by omega)) ?_
      refine z_aload_n rfl rfl ?_
      refine z_getS (bi := 2) rfl rfl rfl (by decide) ?_
      refine z_iconst rfl ?_
      refine z_icmp_ne rfl (by omega) (by omega) (fun h103 => ?_) (fun h103 => ?_)
      · refine z_vret rfl rfl ⟨rfl, rfl, hat, ?_⟩
        rw [hq]
        exact ⟨hst, hsame⟩
      · exfalso; omega
  have K64 : ¬ (op = -1 ∨ 24 ≤ n) → ∀ (r1 : Int) (Z' : ZW), (qa.1 = true → r1 = qa.2.1) → (0 ≤ Z' 3 1 ∧ Z' 3 1 ≤ Z 1 0) → (if qa.1 = true then Z' 3 1 = qa.2.2 ∧ Z' 3 2 = -1 else Z' 3 2 = qa.2.2 ∧ 0 ≤ qa.2.2 ∧ qa.2.2 ≤ Z 1 0) → (∀ (k : Nat) (j : Int), ¬ (k = 3 ∧ (j = 1 ∨ j = 2)) → Z' k j = Z k j) → OkZ none 11 64 [some (.ref 1), some (.ref 8), some (.int (I op)), some (.int (I r1)), some (.int (I 0))] [] Z' J (fun r Z' J' => r = none ∧ J' = J ∧ (0 ≤ Z' 3 1 ∧ Z' 3 1 ≤ Z 1 0) ∧ (if q.1 = true then (Z' 3 2 = -1 ∧ Z' 3 1 = q.2 ∧ (n < 24 ∧ 0 ≤ op ∧ qb.1 = true) ∧ ∀ (k : Nat) (j : Int), ¬ (k = 3 ∧ (j = 1 ∨ j = 2)) → Z' k j = ADD Z n (op) qa.2.1 qb.2.1 k j) else (Z' 3 2 = q.2 ∧ 0 ≤ q.2 ∧ q.2 ≤ Z 1 0) ∧ (∀ (k : Nat) (j : Int), ¬ (k = 3 ∧ (j = 1 ∨ j = 2)) → Z' k j = Z k j))) := by
    intro hgo r1 Z' hr1 hat hst hsame
    obtain ⟨ht', e1, e2⟩ := TXT_of ht hsame
    by_cases ha : qa.1 = true
    · rw [if_pos ha] at hst eb2
      obtain ⟨a1, a2⟩ := hst
      refine z_iload_n rfl rfl ?_
      refine z_bipush rfl (by decide) ?_
      refine z_icmp_eq rfl (by omega) (by omega) (fun h67 => ?_) (fun h67 => ?_)
      · rw [if_pos h67] at eb2
        exact K94 hgo r1 0 Z' hr1 (fun _ => by rw [eb2]) (fun _ => ha) hat (by rw [eb2]; exact ⟨a1, a2⟩) hsame
      · refine z_aload_n rfl rfl ?_
        refine z_iload_n rfl rfl ?_
        refine z_callS1 rfl rfl rfl rfl (s_greatest (by omega)) ?_
        refine z_iload_n rfl rfl ?_
        refine z_if_eq rfl (by omega) (fun h76 => ?_) (fun h76 => ?_)
        · refine z_iconst rfl ?_
          refine z_goto rfl ?_
          refine z_callV2g rfl rfl rfl rfl rfl rfl (s_readN (most := mostO op) (p := qa.2.2) (sg := true) ht' a2 (by unfold mostO; repeat' split; all_goals omega) a1 (by rw [e1]; omega)) (fun r89 Z89 J89 q89 => ?_)
          obtain ⟨rfl, ⟨x, rfl, hx, hx2⟩, h1, h2, h3⟩ := q89
          rw [e1] at h1 h2 hx2
          rw [e2] at h2 hx2
          rw [if_neg (by omega), show decide (op ≤ 1) = true from decide_eq_true (by omega), ] at eb2
          rw [← eb2] at h2 hx2
          show OkZ none 11 92 _ [_] _ _ _
          refine z_istore rfl rfl rfl ?_
          exact K94 hgo r1 x Z89 hr1 hx2 (fun _ => ha) h1 h2 (fun k j hk => by rw [h3 k j hk]; exact hsame k j hk)
        · refine z_iload_n rfl rfl ?_
          refine z_iconst rfl ?_
          refine z_icmp_ne rfl (by omega) (by omega) (fun h81 => ?_) (fun h81 => ?_)
          · refine z_iconst rfl ?_
            refine z_callV2g rfl rfl rfl rfl rfl rfl (s_readN (most := mostO op) (p := qa.2.2) (sg := false) ht' a2 (by unfold mostO; repeat' split; all_goals omega) a1 (by rw [e1]; omega)) (fun r89 Z89 J89 q89 => ?_)
            obtain ⟨rfl, ⟨x, rfl, hx, hx2⟩, h1, h2, h3⟩ := q89
            rw [e1] at h1 h2 hx2
            rw [e2] at h2 hx2
            rw [if_neg (by omega), show decide (op ≤ 1) = false from decide_eq_false (by omega), ] at eb2
            rw [← eb2] at h2 hx2
            show OkZ none 11 92 _ [_] _ _ _
            refine z_istore rfl rfl rfl ?_
            exact K94 hgo r1 x Z89 hr1 hx2 (fun _ => ha) h1 h2 (fun k j hk => by rw [h3 k j hk]; exact hsame k j hk)
          · refine z_iconst rfl ?_
            refine z_goto rfl ?_
            refine z_callV2g rfl rfl rfl rfl rfl rfl (s_readN (most := mostO op) (p := qa.2.2) (sg := true) ht' a2 (by unfold mostO; repeat' split; all_goals omega) a1 (by rw [e1]; omega)) (fun r89 Z89 J89 q89 => ?_)
            obtain ⟨rfl, ⟨x, rfl, hx, hx2⟩, h1, h2, h3⟩ := q89
            rw [e1] at h1 h2 hx2
            rw [e2] at h2 hx2
            rw [if_neg (by omega), show decide (op ≤ 1) = true from decide_eq_true (by omega), ] at eb2
            rw [← eb2] at h2 hx2
            show OkZ none 11 92 _ [_] _ _ _
            refine z_istore rfl rfl rfl ?_
            exact K94 hgo r1 x Z89 hr1 hx2 (fun _ => ha) h1 h2 (fun k j hk => by rw [h3 k j hk]; exact hsame k j hk)
    · rw [if_neg ha] at hst eb2
      refine z_iload_n rfl rfl ?_
      refine z_bipush rfl (by decide) ?_
      refine z_icmp_eq rfl (by omega) (by omega) (fun h67 => ?_) (fun h67 => ?_)
      · exact K94 hgo r1 0 Z' hr1 (fun z => by rw [eb2] at z; cases z) (fun z => by rw [eb2] at z; cases z) hat (by rw [eb2]; exact hst) hsame
      · refine z_aload_n rfl rfl ?_
        refine z_iload_n rfl rfl ?_
        refine z_callS1 rfl rfl rfl rfl (s_greatest (by omega)) ?_
        refine z_iload_n rfl rfl ?_
        refine z_if_eq rfl (by omega) (fun h76 => ?_) (fun h76 => ?_)
        · refine z_iconst rfl ?_
          refine z_goto rfl ?_
          refine z_callV2 rfl rfl rfl rfl rfl rfl (s_readN0 (most := mostO op) (sg := true) (by omega) (by omega)) ?_
          refine z_istore rfl rfl rfl ?_
          exact K94 hgo r1 0 Z' hr1 (fun z => by rw [eb2] at z; cases z) (fun z => by rw [eb2] at z; cases z) hat (by rw [eb2]; exact hst) hsame
        · refine z_iload_n rfl rfl ?_
          refine z_iconst rfl ?_
          refine z_icmp_ne rfl (by omega) (by omega) (fun h81 => ?_) (fun h81 => ?_)
          · refine z_iconst rfl ?_
            refine z_callV2 rfl rfl rfl rfl rfl rfl (s_readN0 (most := mostO op) (sg := false) (by omega) (by omega)) ?_
            refine z_istore rfl rfl rfl ?_
            exact K94 hgo r1 0 Z' hr1 (fun z => by rw [eb2] at z; cases z) (fun z => by rw [eb2] at z; cases z) hat (by rw [eb2]; exact hst) hsame
          · refine z_iconst rfl ?_
            refine z_goto rfl ?_
            refine z_callV2 rfl rfl rfl rfl rfl rfl (s_readN0 (most := mostO op) (sg := true) (by omega) (by omega)) ?_
            refine z_istore rfl rfl rfl ?_
            exact K94 hgo r1 0 Z' hr1 (fun z => by rw [eb2] at z; cases z) (fun z => by rw [eb2] at z; cases z) hat (by rw [eb2]; exact hst) hsame
  refine z_aload_n rfl rfl ?_
  refine z_callV0 rfl rfl rfl rfl rfl rfl (s_cur (by omega) ht) ?_
  rw [he]
  refine z_callS1 rfl rfl rfl rfl (s_opcX0 (by omega)) ?_
  rw [← eo]
  refine z_istore_n rfl rfl rfl ?_
  refine z_iload_n rfl rfl ?_
  refine z_iconst rfl ?_
  refine z_icmp_eq rfl (by omega) (by omega) (fun h10 => ?_) (fun h10 => ?_)
  · refine z_aload_n rfl rfl ?_
    refine z_aload_n rfl rfl ?_
    refine z_getS (bi := 1) rfl rfl rfl (by decide) ?_
    refine z_putS (bi := 2) rfl rfl rfl rfl (by decide) ?_
    rw [if_pos (by omega)] at hq
    refine z_vret rfl rfl ⟨rfl, rfl, by rw [up_nj (by decide)]; omega, ?_⟩
    rw [hq]
    exact ⟨⟨by rw [up_eq, he], hp.1, hp.2⟩, fun k j hk => up_other hk⟩
  · refine z_aload_n rfl rfl ?_
    refine z_getI (bi := 0) rfl rfl rfl rfl ?_
    rw [hn]
    refine z_bipush rfl (by decide) ?_
    refine z_icmp_lt rfl (by omega) (by omega) (fun h19 => ?_) (fun h19 => ?_)
    · have hlt := cu_some (bt := Z 2) (len := Z 1 0) (p := p) (opc_some (by omega))
      refine z_aload_n rfl rfl ?_
      refine z_dup rfl rfl ?_
      refine z_getS (bi := 1) rfl rfl rfl (by decide) ?_
      refine z_iconst rfl ?_
      refine z_iadd rfl ?_
      refine z_putS (bi := 1) rfl rfl rfl rfl (by decide) ?_
      refine z_iconst rfl ?_
      refine z_istore_n rfl rfl rfl ?_
      refine z_iconst rfl ?_
      refine z_istore rfl rfl rfl ?_
      refine z_iload_n rfl rfl ?_
      refine z_iconst rfl ?_
      refine z_icmp_eq rfl (by omega) (by omega) (fun h48 => ?_) (fun h48 => ?_)
      · rw [if_pos (by omega)] at ea2
        refine K64 (by omega) 0 _ (fun _ => by rw [ea2]) (by rw [up_eq]; omega) ?_ (fun k j hk => up_other1 hk)
        rw [ea2, if_pos rfl]
        exact ⟨by rw [up_eq, he], by rw [up_nj (by decide)]; exact hw⟩
      · refine z_iload_n rfl rfl ?_
        refine z_bipush rfl (by decide) ?_
        refine z_icmp_eq rfl (by omega) (by omega) (fun h54 => ?_) (fun h54 => ?_)
        · rw [if_pos (by omega)] at ea2
          refine K64 (by omega) 0 _ (fun _ => by rw [ea2]) (by rw [up_eq]; omega) ?_ (fun k j hk => up_other1 hk)
          rw [ea2, if_pos rfl]
          exact ⟨by rw [up_eq, he], by rw [up_nj (by decide)]; exact hw⟩
        · refine z_aload_n rfl rfl ?_
          refine z_iconst rfl ?_
          refine z_iconst rfl ?_
          refine z_callV2g rfl rfl rfl rfl rfl rfl (s_readN (most := 3) (p := p + 1) (sg := false) (TXT_up (by decide) ht) (by rw [up_nj (by decide)]; exact hw) (by omega) (by rw [up_eq, he]) (by show 0 ≤ p + 1 ∧ p + 1 ≤ Z 1 0; omega)) (fun r60 Z60 J60 q60 => ?_)
          obtain ⟨rfl, ⟨x, rfl, hx, hx2⟩, h1, h2, h3⟩ := q60
          rw [if_neg (by omega)] at ea2
          have ea3 : qa = PN (cuF (up Z 3 1 (Z 3 1 + 1) 2) (up Z 3 1 (Z 3 1 + 1) 1 0)) (up Z 3 1 (Z 3 1 + 1) 1 0) 3 false (p + 1) := ea2
          rw [← ea3] at h2 hx2
          show OkZ none 11 63 _ [_] _ _ _
          refine z_istore_n rfl rfl rfl ?_
          exact K64 (by omega) x Z60 hx2 h1 h2 (fun k j hk => by rw [h3 k j hk]; exact up_other1 hk)
    · refine z_aload_n rfl rfl ?_
      refine z_aload_n rfl rfl ?_
      refine z_getS (bi := 1) rfl rfl rfl (by decide) ?_
      refine z_putS (bi := 2) rfl rfl rfl rfl (by decide) ?_
      rw [if_pos (by omega)] at hq
      refine z_vret rfl rfl ⟨rfl, rfl, by rw [up_nj (by decide)]; omega, ?_⟩
      rw [hq]
      exact ⟨⟨by rw [up_eq, he], hp.1, hp.2⟩, fun k j hk => up_other hk⟩
end
section
/-! the class: a text is translated -/
def pos (cu : FI) (len : Int) : Nat → Int
  | 0 => skp cu len 0
  | n + 1 => skp cu len (QI cu len n (pos cu len n)).2
def TRp (cu : FI) (len : Int) (n : Nat) : Prop := ∀ i : Nat, i < n → cu (pos cu len i) ≠ -1 ∧ (QI cu len i (pos cu len i)).1 = true
def TRok (cu : FI) (len : Int) (n : Nat) : Prop := TRp cu len n ∧ cu (pos cu len n) = -1
def TRbad (cu : FI) (len e : Int) : Prop := ∃ n, TRp cu len n ∧ cu (pos cu len n) ≠ -1 ∧ QI cu len n (pos cu len n) = (false, e)
def prO (cu : FI) (len : Int) : FI := fun i => opc (cu (pos cu len i.toNat))
def prA (cu : FI) (len : Int) : FI := fun i => (QA cu len (pos cu len i.toNat)).2.1
def prB (cu : FI) (len : Int) : FI := fun i => (QB cu len (pos cu len i.toNat)).2.1
theorem ADD_i {Z : ZW} {n a b c i : Int} (h : i < n) : ADD Z n a b c 10 i = Z 10 i ∧ ADD Z n a b c 11 i = Z 11 i ∧ ADD Z n a b c 12 i = Z 12 i := by
  unfold ADD
  refine ⟨?_, ?_, ?_⟩
  · rw [up_ne (by decide), up_ne (by decide), up_ne (by decide), up_nj (by omega)]
  · rw [up_ne (by decide), up_ne (by decide), up_nj (by omega), up_ne (by decide)]
  · rw [up_ne (by decide), up_nj (by omega), up_ne (by decide), up_ne (by decide)]
theorem ADD_n {Z : ZW} {n a b c : Int} : ADD Z n a b c 10 n = a ∧ ADD Z n a b c 11 n = b ∧ ADD Z n a b c 12 n = c ∧ ADD Z n a b c 9 0 = n + 1 := by
  unfold ADD
  refine ⟨?_, ?_, ?_, ?_⟩
  · rw [up_ne (by decide), up_ne (by decide), up_ne (by decide), up_eq]
  · rw [up_ne (by decide), up_ne (by decide), up_eq]
  · rw [up_ne (by decide), up_eq]
  · rw [up_eq]
theorem ADD_ne {Z : ZW} {n a b c j : Int} {k : Nat} (h : k < 9 ∨ 12 < k) : ADD Z n a b c k j = Z k j := by
  unfold ADD
  rw [up_ne (by omega), up_ne (by omega), up_ne (by omega), up_ne (by omega)]
theorem QI_in {bt : FI} {len n p : Int} (h : cuF bt len p = -1 ∨ 24 ≤ n) : QI (cuF bt len) len n p = (false, p) := by
  unfold QI
  refine if_pos ?_
  rcases h with h | h
  · left; rw [h]; rfl
  · exact Or.inr h
set_option maxHeartbeats 1000000 in
theorem s_translate {Z : ZW} {J : Int64} (ht : TXT Z) : Mz 12 [.ref 1, .ref 8] Z J (fun r Z' J' => J' = J ∧ (∀ (k : Nat) (j : Int), (k < 9 ∨ 12 < k) → ¬ (k = 3 ∧ (j = 1 ∨ j = 2)) → Z' k j = Z k j) ∧ ((r = some (.int (I (-1))) ∧ ∃ n : Nat, n ≤ 24 ∧ Z' 9 0 = n ∧ TRok (cuF (Z 2) (Z 1 0)) (Z 1 0) n ∧ (∀ j : Int, 0 ≤ j → j < ((n : Nat) : Int) → Z' 10 j = prO (cuF (Z 2) (Z 1 0)) (Z 1 0) j ∧ Z' 11 j = prA (cuF (Z 2) (Z 1 0)) (Z 1 0) j ∧ Z' 12 j = prB (cuF (Z 2) (Z 1 0)) (Z 1 0) j)) ∨ ∃ e, r = some (.int (I e)) ∧ (0 ≤ e ∧ e ≤ Z 1 0) ∧ TRbad (cuF (Z 2) (Z 1 0)) (Z 1 0) e)) := by
  unfold Mz
  have hl := ht.1
  have KE : ∀ (c e : Int) (Z' : ZW), (0 ≤ c ∧ c ≤ 25) → (∀ (k : Nat) (j : Int), (k < 9 ∨ 12 < k) → ¬ (k = 3 ∧ (j = 1 ∨ j = 2)) → Z' k j = Z k j) → Z' 3 2 = e → (0 ≤ e ∧ e ≤ Z 1 0) → TRbad (cuF (Z 2) (Z 1 0)) (Z 1 0) e → OkZ none 12 21 [some (.ref 1), some (.ref 8), some (.int (I c))] [] Z' J (fun r Z' J' => J' = J ∧ (∀ (k : Nat) (j : Int), (k < 9 ∨ 12 < k) → ¬ (k = 3 ∧ (j = 1 ∨ j = 2)) → Z' k j = Z k j) ∧ ((r = some (.int (I (-1))) ∧ ∃ n : Nat, n ≤ 24 ∧ Z' 9 0 = n ∧ TRok (cuF (Z 2) (Z 1 0)) (Z 1 0) n ∧ (∀ j : Int, 0 ≤ j → j < ((n : Nat) : Int) → Z' 10 j = prO (cuF (Z 2) (Z 1 0)) (Z 1 0) j ∧ Z' 11 j = prA (cuF (Z 2) (Z 1 0)) (Z 1 0) j ∧ Z' 12 j = prB (cuF (Z 2) (Z 1 0)) (Z 1 0) j)) ∨ ∃ e, r = some (.int (I e)) ∧ (0 ≤ e ∧ e ≤ Z 1 0) ∧ TRbad (cuF (Z 2) (Z 1 0)) (Z 1 0) e)) := by
    intro c e Z' hc hf hw he hb
    refine z_iload_n rfl rfl ?_
    refine z_bipush rfl (by decide) ?_
    refine z_icmp_gt rfl (by omega) (by omega) (fun h24 => ?_) (fun h24 => ?_)
    · refine z_aload_n rfl rfl ?_
      refine z_getS (bi := 2) rfl rfl rfl (by decide) ?_
      rw [hw]
      exact z_iret rfl rfl ⟨rfl, hf, Or.inr ⟨e, rfl, he, hb⟩⟩
    · refine z_aload_n rfl rfl ?_
      refine z_getS (bi := 2) rfl rfl rfl (by decide) ?_
      rw [hw]
      refine z_iconst rfl ?_
      refine z_icmp_ne rfl (by omega) (by omega) (fun h32 => ?_) (fun h32 => ?_)
      · refine z_aload_n rfl rfl ?_
        refine z_getS (bi := 2) rfl rfl rfl (by decide) ?_
        rw [hw]
        exact z_iret rfl rfl ⟨rfl, hf, Or.inr ⟨e, rfl, he, hb⟩⟩
      · exfalso; omega
  have KL : ∀ (d n : Nat) (Z' : ZW), n + d = 24 → (∀ (k : Nat) (j : Int), (k < 9 ∨ 12 < k) → ¬ (k = 3 ∧ (j = 1 ∨ j = 2)) → Z' k j = Z k j) → Z' 3 2 = -1 → Z' 3 1 = pos (cuF (Z 2) (Z 1 0)) (Z 1 0) n → (0 ≤ Z' 3 1 ∧ Z' 3 1 ≤ Z 1 0) → Z' 9 0 = n → TRp (cuF (Z 2) (Z 1 0)) (Z 1 0) n → (∀ j : Int, 0 ≤ j → j < ((n : Nat) : Int) → Z' 10 j = prO (cuF (Z 2) (Z 1 0)) (Z 1 0) j ∧ Z' 11 j = prA (cuF (Z 2) (Z 1 0)) (Z 1 0) j ∧ Z' 12 j = prB (cuF (Z 2) (Z 1 0)) (Z 1 0) j) → OkZ none 12 21 [some (.ref 1), some (.ref 8), some (.int (I ((n : Nat) : Int)))] [] Z' J (fun r Z' J' => J' = J ∧ (∀ (k : Nat) (j : Int), (k < 9 ∨ 12 < k) → ¬ (k = 3 ∧ (j = 1 ∨ j = 2)) → Z' k j = Z k j) ∧ ((r = some (.int (I (-1))) ∧ ∃ n : Nat, n ≤ 24 ∧ Z' 9 0 = n ∧ TRok (cuF (Z 2) (Z 1 0)) (Z 1 0) n ∧ (∀ j : Int, 0 ≤ j → j < ((n : Nat) : Int) → Z' 10 j = prO (cuF (Z 2) (Z 1 0)) (Z 1 0) j ∧ Z' 11 j = prA (cuF (Z 2) (Z 1 0)) (Z 1 0) j ∧ Z' 12 j = prB (cuF (Z 2) (Z 1 0)) (Z 1 0) j)) ∨ ∃ e, r = some (.int (I e)) ∧ (0 ≤ e ∧ e ≤ Z 1 0) ∧ TRbad (cuF (Z 2) (Z 1 0)) (Z 1 0) e)) := by
    intro d
    induction d with
    | zero =>
      intro n Z' hd hf hw hp hp2 hn hpr hro
      have e1 : Z' 1 0 = Z 1 0 := hf 1 0 (by decide) (by decide)
      have e2 : Z' 2 = Z 2 := funext fun j => hf 2 j (by decide) (fun q => absurd q.1 (by decide))
      have ht' : TXT Z' := ⟨by rw [e1]; exact ht.1, by rw [e1, e2]; exact ht.2⟩
      have hcu := cu_in ht' (Z' 3 1)
      refine z_iload_n rfl rfl ?_
      refine z_bipush rfl (by decide) ?_
      refine z_icmp_gt rfl (by omega) (by omega) (fun h24 => ?_) (fun h24 => ?_)
      · exfalso; omega
      · refine z_aload_n rfl rfl ?_
        refine z_getS (bi := 2) rfl rfl rfl (by decide) ?_
        refine z_iconst rfl ?_
        refine z_icmp_ne rfl (by omega) (by omega) (fun h32 => ?_) (fun h32 => ?_)
        · exfalso; omega
        · refine z_aload_n rfl rfl ?_
          refine z_callV0 rfl rfl rfl rfl rfl rfl (s_atEnd (by omega) ht') ?_
          refine z_ifb_ne rfl (fun h39 => ?_) (fun h39 => ?_)
          · have hce := of_decide_eq_true h39
            rw [e1, e2, hp] at hce
            refine z_aload_n rfl rfl ?_
            refine z_getS (bi := 2) rfl rfl rfl (by decide) ?_
            rw [hw]
            exact z_iret rfl rfl ⟨rfl, hf, Or.inl ⟨rfl, n, by omega, hn, ⟨hpr, hce⟩, hro⟩⟩
          · refine z_aload_n rfl rfl ?_
            refine z_aload_n rfl rfl ?_
            refine z_callV1g rfl rfl rfl rfl rfl rfl (s_readI ht' hw rfl (by rw [e1]; exact hp2) hn (by omega)) (fun r44 Z44 J44 q44 => ?_)
            have hcm : cuF (Z 2) (Z 1 0) (Z' 3 1) ≠ -1 := by have := of_decide_eq_false h39; rw [e1, e2] at this; exact this
            obtain ⟨rfl, rfl, h1, h2⟩ := q44
            rw [e1] at h1 h2
            rw [e2] at h2
            obtain ⟨qi, ei⟩ : ∃ qi, qi = QI (cuF (Z 2) (Z 1 0)) (Z 1 0) n (Z' 3 1) := ⟨_, rfl⟩
            rw [← ei] at h2
            show OkZ none 12 47 _ [] _ _ _
            refine z_aload_n rfl rfl ?_
            by_cases hi : qi.1 = true
            · exfalso
              rw [QI_in (Or.inr (by omega))] at ei
              rw [ei] at hi
              cases hi
            · rw [if_neg hi] at h2
              obtain ⟨⟨w1, w2, w3⟩, w4⟩ := h2
              have f1 : Z44 1 0 = Z 1 0 := by rw [w4 1 0 (by decide)]; exact e1
              have f2 : Z44 2 = Z 2 := funext fun j => by rw [w4 2 j (fun q => absurd q.1 (by decide)), e2]
              have ht2 : TXT Z44 := ⟨by rw [f1]; exact ht.1, by rw [f1, f2]; exact ht.2⟩
              refine z_callV0v rfl rfl rfl rfl rfl rfl (s_skip ht2 (by rw [f1]; exact h1) rfl) ?_
              refine z_iinc rfl rfl rfl rfl ?_
              refine z_goto rfl ?_
              refine KE _ qi.2 _ (by omega) (fun k j k1 k2 => by rw [up_other1 k2, w4 k j k2]; exact hf k j k1 k2) (by rw [up_nj (by decide)]; exact w1) ⟨w2, w3⟩ ⟨n, hpr, ?_⟩
              rw [← hp]
              refine ⟨hcm, ?_⟩
              rw [← ei]
              cases qi with
              | mk a b => cases a with
                | true => exact absurd rfl hi
                | false => rfl
    | succ d ih =>
      intro n Z' hd hf hw hp hp2 hn hpr hro
      have e1 : Z' 1 0 = Z 1 0 := hf 1 0 (by decide) (by decide)
      have e2 : Z' 2 = Z 2 := funext fun j => hf 2 j (by decide) (fun q => absurd q.1 (by decide))
      have ht' : TXT Z' := ⟨by rw [e1]; exact ht.1, by rw [e1, e2]; exact ht.2⟩
      have hcu := cu_in ht' (Z' 3 1)
      refine z_iload_n rfl rfl ?_
      refine z_bipush rfl (by decide) ?_
      refine z_icmp_gt rfl (by omega) (by omega) (fun h24 => ?_) (fun h24 => ?_)
      · exfalso; omega
      · refine z_aload_n rfl rfl ?_
        refine z_getS (bi := 2) rfl rfl rfl (by decide) ?_
        refine z_iconst rfl ?_
        refine z_icmp_ne rfl (by omega) (by omega) (fun h32 => ?_) (fun h32 => ?_)
        · exfalso; omega
        · refine z_aload_n rfl rfl ?_
          refine z_callV0 rfl rfl rfl rfl rfl rfl (s_atEnd (by omega) ht') ?_
          refine z_ifb_ne rfl (fun h39 => ?_) (fun h39 => ?_)
          · have hce := of_decide_eq_true h39
            rw [e1, e2, hp] at hce
            refine z_aload_n rfl rfl ?_
            refine z_getS (bi := 2) rfl rfl rfl (by decide) ?_
            rw [hw]
            exact z_iret rfl rfl ⟨rfl, hf, Or.inl ⟨rfl, n, by omega, hn, ⟨hpr, hce⟩, hro⟩⟩
          · refine z_aload_n rfl rfl ?_
            refine z_aload_n rfl rfl ?_
            refine z_callV1g rfl rfl rfl rfl rfl rfl (s_readI ht' hw rfl (by rw [e1]; exact hp2) hn (by omega)) (fun r44 Z44 J44 q44 => ?_)
            have hcm : cuF (Z 2) (Z 1 0) (Z' 3 1) ≠ -1 := by have := of_decide_eq_false h39; rw [e1, e2] at this; exact this
            obtain ⟨rfl, rfl, h1, h2⟩ := q44
            rw [e1] at h1 h2
            rw [e2] at h2
            obtain ⟨qi, ei⟩ : ∃ qi, qi = QI (cuF (Z 2) (Z 1 0)) (Z 1 0) n (Z' 3 1) := ⟨_, rfl⟩
            rw [← ei] at h2
            show OkZ none 12 47 _ [] _ _ _
            refine z_aload_n rfl rfl ?_
            by_cases hi : qi.1 = true
            · rw [if_pos hi] at h2
              obtain ⟨w1, w2, ⟨w3, w4, w5⟩, w6⟩ := h2
              have f1 : Z44 1 0 = Z 1 0 := by rw [w6 1 0 (by decide), ADD_ne (by decide)]; exact e1
              have f2 : Z44 2 = Z 2 := funext fun j => by rw [w6 2 j (fun q => absurd q.1 (by decide)), ADD_ne (by decide), e2]
              have ht2 : TXT Z44 := ⟨by rw [f1]; exact ht.1, by rw [f1, f2]; exact ht.2⟩
              have hq2 : 0 ≤ qi.2 ∧ qi.2 ≤ Z 1 0 := by omega
              have hsk := skp_in (bt := Z 2) hl.1 hq2.1 hq2.2
              refine z_callV0v rfl rfl rfl rfl rfl rfl (s_skip ht2 (by rw [f1]; exact hq2) w2) ?_
              rw [f1, f2]
              refine z_iinc rfl rfl rfl rfl ?_
              refine z_goto rfl ?_
              have en : ((n : Nat) : Int) + 1 = ((n + 1 : Nat) : Int) := by omega
              rw [en]
              refine ih (n + 1) _ (by omega) (fun k j k1 k2 => ?_) (by rw [up_nj (by decide)]; exact w1) ?_ (by rw [up_eq]; omega) ?_ (fun m hm => ?_) (fun j j0 j1 => ?_)
              · rw [up_other1 k2, w6 k j k2, ADD_ne k1]; exact hf k j k1 k2
              · rw [up_eq, ei, hp]; rfl
              · rw [up_ne (by decide), w6 9 0 (by decide), ADD_n.2.2.2]; exact en
              · by_cases hmn : m = n
                · rw [hmn, ← hp]; exact ⟨hcm, by rw [← ei]; exact hi⟩
                · exact hpr m (by omega)
              · rw [up_ne (by decide), up_ne (by decide), up_ne (by decide), w6 10 j (fun q => absurd q.1 (by decide)), w6 11 j (fun q => absurd q.1 (by decide)), w6 12 j (fun q => absurd q.1 (by decide))]
                by_cases hjn : j = (n : Int)
                · rw [hjn, ADD_n.1, ADD_n.2.1, ADD_n.2.2.1, hp]; exact ⟨rfl, rfl, rfl⟩
                · rw [(ADD_i (by omega)).1, (ADD_i (by omega)).2.1, (ADD_i (by omega)).2.2]; exact hro j j0 (by omega)
            · rw [if_neg hi] at h2
              obtain ⟨⟨w1, w2, w3⟩, w4⟩ := h2
              have f1 : Z44 1 0 = Z 1 0 := by rw [w4 1 0 (by decide)]; exact e1
              have f2 : Z44 2 = Z 2 := funext fun j => by rw [w4 2 j (fun q => absurd q.1 (by decide)), e2]
              have ht2 : TXT Z44 := ⟨by rw [f1]; exact ht.1, by rw [f1, f2]; exact ht.2⟩
              refine z_callV0v rfl rfl rfl rfl rfl rfl (s_skip ht2 (by rw [f1]; exact h1) rfl) ?_
              refine z_iinc rfl rfl rfl rfl ?_
              refine z_goto rfl ?_
              refine KE _ qi.2 _ (by omega) (fun k j k1 k2 => by rw [up_other1 k2, w4 k j k2]; exact hf k j k1 k2) (by rw [up_nj (by decide)]; exact w1) ⟨w2, w3⟩ ⟨n, hpr, ?_⟩
              rw [← hp]
              refine ⟨hcm, ?_⟩
              rw [← ei]
              cases qi with
              | mk a b => cases a with
                | true => exact absurd rfl hi
                | false => rfl
  have hsk := skp_in (bt := Z 2) hl.1 (Int.le_refl 0) hl.1
  refine z_aload_n rfl rfl ?_
  refine z_iconst rfl ?_
  refine z_putS (bi := 1) rfl rfl rfl rfl (by decide) ?_
  refine z_aload_n rfl rfl ?_
  refine z_iconst rfl ?_
  refine z_putS (bi := 2) rfl rfl rfl rfl (by decide) ?_
  refine z_aload_n rfl rfl ?_
  refine z_iconst rfl ?_
  refine z_putI (bi := 0) rfl rfl rfl rfl rfl ?_
  refine z_aload_n rfl rfl ?_
  refine z_callV0v rfl rfl rfl rfl rfl rfl (s_skip (p := 0) (TXT_up (by decide) (TXT_up (by decide) (TXT_up (by decide) ht))) (by show 0 ≤ 0 ∧ 0 ≤ Z 1 0; omega) (by rw [up_ne (by decide), up_nj (by decide), up_eq])) ?_
  refine z_iconst rfl ?_
  refine z_istore_n rfl rfl rfl ?_
  refine KL 24 0 _ rfl (fun k j k1 k2 => ?_) ?_ (by rw [up_eq]; rfl) (by rw [up_eq]; exact hsk) (by rw [up_ne (by decide), up_eq]; rfl) (fun m hm => absurd hm (Nat.not_lt_zero _)) (fun j j0 j1 => absurd j1 (by omega))
  · rw [up_other1 k2, up_ne (by omega), up_other k2, up_other1 k2]
  · rw [up_nj (by decide), up_ne (by decide), up_eq]
end
section
/-! the class: what a caller sees, the short ones -/
theorem s_isErr {Z : ZW} {J : Int64} {x : Int} (hx : RG x) : D 65 [.int (I x)] Z J (some (bI (decide (-4 ≤ x ∧ x ≤ -2)))) Z J := by
  unfold D Mz
  refine z_iload_n rfl rfl ?_
  refine z_bipush rfl (by decide) ?_
  refine z_icmp_lt rfl (by omega) (by omega) (fun h3 => ?_) (fun h3 => ?_)
  · refine z_iconst rfl ?_
    first | exact z_bret0 rfl rfl ⟨bz0 (decide_eq_false (by omega)), rfl, rfl⟩ | exact z_bret1 rfl rfl ⟨bz1 (decide_eq_true (by omega)), rfl, rfl⟩
  · refine z_iload_n rfl rfl ?_
    refine z_bipush rfl (by decide) ?_
    refine z_icmp_gt rfl (by omega) (by omega) (fun h9 => ?_) (fun h9 => ?_)
    · refine z_iconst rfl ?_
      first | exact z_bret0 rfl rfl ⟨bz0 (decide_eq_false (by omega)), rfl, rfl⟩ | exact z_bret1 rfl rfl ⟨bz1 (decide_eq_true (by omega)), rfl, rfl⟩
    · refine z_iconst rfl ?_
      refine z_goto rfl ?_
      first | exact z_bret0 rfl rfl ⟨bz0 (decide_eq_false (by omega)), rfl, rfl⟩ | exact z_bret1 rfl rfl ⟨bz1 (decide_eq_true (by omega)), rfl, rfl⟩
def rf (Z : ZW) (x : Int) : ZW := up Z 63 (-2 - x) (Z 63 (-2 - x) + 1)
theorem s_refuse {Z : ZW} {J : Int64} {x : Int} (hx : -4 ≤ x ∧ x ≤ -2) : D 66 [.ref 0, .int (I x)] Z J (some (.int (I (x)))) (rf Z x) J := by
  unfold D Mz
  refine z_iload_n rfl rfl ?_
  refine z_callS1 rfl rfl rfl rfl (s_isErr (by omega)) ?_
  refine z_ifb_eq rfl (fun h4 => ?_) (fun h4 => ?_)
  · exact absurd (of_decide_eq_false h4) (fun q => q hx)
  · refine z_aload_n rfl rfl ?_
    refine z_getR rfl rfl rfl rfl ?_
    refine z_bipush rfl (by decide) ?_
    refine z_iload_n rfl rfl ?_
    refine z_isub rfl ?_
    refine z_dup2 rfl rfl rfl ?_
    refine z_iald rfl rfl (by omega) ?_
    refine z_iconst rfl ?_
    refine z_iadd rfl ?_
    refine z_iast rfl rfl (by omega) ?_
    refine z_iload_n rfl rfl ?_
    exact z_iret rfl rfl ⟨rfl, rfl, rfl⟩
theorem s_xadd {Z : ZW} {J : Int64} {x : Int} (hl : 0 ≤ Z 1 0 ∧ Z 1 0 ≤ 150) : D 63 [.ref 1, .int (I x)] Z J (some (bI (decide (Z 1 0 < 150)))) (if Z 1 0 < 150 then up (up Z 2 (Z 1 0) x) 1 0 (Z 1 0 + 1) else Z) J := by
  unfold D Mz
  refine z_aload_n rfl rfl ?_
  refine z_getI (bi := 0) rfl rfl rfl rfl ?_
  refine z_if_lt rfl (by omega) (fun h4 => ?_) (fun h4 => ?_)
  · refine z_iconst rfl ?_
    exfalso; omega
  · refine z_aload_n rfl rfl ?_
    refine z_getI (bi := 0) rfl rfl rfl rfl ?_
    refine z_aload_n rfl rfl ?_
    refine z_getR rfl rfl rfl rfl ?_
    refine z_alen (ni := 150) rfl rfl rfl ?_
    refine z_icmp_lt rfl (by omega) (by omega) (fun h16 => ?_) (fun h16 => ?_)
    · refine z_aload_n rfl rfl ?_
      refine z_getR rfl rfl rfl rfl ?_
      refine z_aload_n rfl rfl ?_
      refine z_getI (bi := 0) rfl rfl rfl rfl ?_
      refine z_iload_n rfl rfl ?_
      refine z_iast rfl rfl (by omega) ?_
      refine z_aload_n rfl rfl ?_
      refine z_dup rfl rfl ?_
      refine z_getI (bi := 0) rfl rfl rfl rfl ?_
      rw [up_ne (by decide)]
      refine z_iconst rfl ?_
      refine z_iadd rfl ?_
      refine z_putI (bi := 0) rfl rfl rfl rfl rfl ?_
      refine z_iconst rfl ?_
      exact z_bret1 rfl rfl ⟨bz1 (decide_eq_true (by omega)), by rw [if_pos (by omega)], rfl⟩
    · refine z_iconst rfl ?_
      exact z_bret0 rfl rfl ⟨bz0 (decide_eq_false (by omega)), by rw [if_neg (by omega)], rfl⟩
theorem s_append {Z : ZW} {J : Int64} {x : Int} (hx : RG x) (hl : 0 ≤ Z 1 0 ∧ Z 1 0 ≤ 150) : D 67 [.ref 0, .int (I x)] Z J (some (.int (I (if 0 ≤ x ∧ x ≤ 127 then (if Z 1 0 < 150 then Z 1 0 + 1 else -3) else -2)))) (if 0 ≤ x ∧ x ≤ 127 then (if Z 1 0 < 150 then up (up Z 2 (Z 1 0) x) 1 0 (Z 1 0 + 1) else rf Z (-3)) else rf Z (-2)) J := by
  unfold D Mz
  refine z_iload_n rfl rfl ?_
  refine z_if_lt rfl (by omega) (fun h1 => ?_) (fun h1 => ?_)
  · refine z_aload_n rfl rfl ?_
    refine z_bipush rfl (by decide) ?_
    refine z_callV1 rfl rfl rfl rfl rfl rfl (s_refuse (by omega)) ?_
    refine z_iret rfl rfl ⟨?_, ?_, rfl⟩
    · rw [if_neg (by omega)]
    · rw [if_neg (by omega)]
  · refine z_iload_n rfl rfl ?_
    refine z_bipush rfl (by decide) ?_
    refine z_icmp_le rfl (by omega) (by omega) (fun h7 => ?_) (fun h7 => ?_)
    · refine z_aload_n rfl rfl ?_
      refine z_getR rfl rfl rfl rfl ?_
      refine z_iload_n rfl rfl ?_
      refine z_callV1 rfl rfl rfl rfl rfl rfl (s_xadd hl) ?_
      refine z_ifb_ne rfl (fun h25 => ?_) (fun h25 => ?_)
      · have hlt := of_decide_eq_true h25
        rw [if_pos hlt]
        refine z_aload_n rfl rfl ?_
        refine z_getR rfl rfl rfl rfl ?_
        refine z_getI (bi := 0) rfl rfl rfl rfl ?_
        rw [up_eq]
        refine z_iret rfl rfl ⟨?_, ?_, rfl⟩
        · rw [if_pos (by omega), if_pos hlt]
        · rw [if_pos (by omega), if_pos hlt]
      · have hlt := of_decide_eq_false h25
        rw [if_neg hlt]
        refine z_aload_n rfl rfl ?_
        refine z_bipush rfl (by decide) ?_
        refine z_callV1 rfl rfl rfl rfl rfl rfl (s_refuse (by omega)) ?_
        refine z_iret rfl rfl ⟨?_, ?_, rfl⟩
        · rw [if_pos (by omega), if_neg hlt]
        · rw [if_pos (by omega), if_neg hlt]
    · refine z_aload_n rfl rfl ?_
      refine z_bipush rfl (by decide) ?_
      refine z_callV1 rfl rfl rfl rfl rfl rfl (s_refuse (by omega)) ?_
      refine z_iret rfl rfl ⟨?_, ?_, rfl⟩
      · rw [if_neg (by omega)]
      · rw [if_neg (by omega)]
theorem s_clearText {Z : ZW} {J : Int64} : D 68 [.ref 0] Z J (some (.int (I (Z 1 0)))) (up Z 1 0 0) J := by
  unfold D Mz
  refine z_aload_n rfl rfl ?_
  refine z_getR rfl rfl rfl rfl ?_
  refine z_getI (bi := 0) rfl rfl rfl rfl ?_
  refine z_istore_n rfl rfl rfl ?_
  refine z_aload_n rfl rfl ?_
  refine z_getR rfl rfl rfl rfl ?_
  refine z_iconst rfl ?_
  refine z_putI (bi := 0) rfl rfl rfl rfl rfl ?_
  refine z_iload_n rfl rfl ?_
  exact z_iret rfl rfl ⟨rfl, rfl, rfl⟩
theorem s_opcode {Z : ZW} {J : Int64} {x : Int} (hx : RG x) (hs : 0 ≤ Z 4 0 ∧ Z 4 0 ≤ 24) : D 72 [.ref 0, .int (I x)] Z J (some (.int (I (if 0 ≤ x ∧ x < Z 4 0 then Z 5 x else -2)))) (if 0 ≤ x ∧ x < Z 4 0 then Z else rf Z (-2)) J := by
  unfold D Mz
  refine z_aload_n rfl rfl ?_
  refine z_getR rfl rfl rfl rfl ?_
  refine z_iload_n rfl rfl ?_
  refine z_callV1 rfl rfl rfl rfl rfl rfl (s_has hx hs) ?_
  refine z_ifb_eq rfl (fun h8 => ?_) (fun h8 => ?_)
  · refine z_aload_n rfl rfl ?_
    refine z_bipush rfl (by decide) ?_
    refine z_callV1 rfl rfl rfl rfl rfl rfl (s_refuse (by omega)) ?_
    have hno := of_decide_eq_false h8
    refine z_iret rfl rfl ⟨?_, ?_, rfl⟩
    · rw [if_neg hno]
    · rw [if_neg hno]
  · have hin := of_decide_eq_true h8
    refine z_aload_n rfl rfl ?_
    refine z_getR rfl rfl rfl rfl ?_
    refine z_getR rfl rfl rfl rfl ?_
    refine z_iload_n rfl rfl ?_
    refine z_iald rfl rfl (by omega) ?_
    refine z_goto rfl ?_
    refine z_iret rfl rfl ⟨?_, ?_, rfl⟩
    · rw [if_pos hin]
    · rw [if_pos hin]
theorem s_blockOf {Z : ZW} {J : Int64} {x : Int} (hx : RG x) (hs : 0 ≤ Z 4 0 ∧ Z 4 0 ≤ 24) : D 74 [.ref 0, .int (I x)] Z J (some (.int (I (if 0 ≤ x ∧ x < Z 4 0 then Z 15 x else -2)))) (if 0 ≤ x ∧ x < Z 4 0 then Z else rf Z (-2)) J := by
  unfold D Mz
  refine z_aload_n rfl rfl ?_
  refine z_getR rfl rfl rfl rfl ?_
  refine z_iload_n rfl rfl ?_
  refine z_callV1 rfl rfl rfl rfl rfl rfl (s_has hx hs) ?_
  refine z_ifb_eq rfl (fun h8 => ?_) (fun h8 => ?_)
  · refine z_aload_n rfl rfl ?_
    refine z_bipush rfl (by decide) ?_
    refine z_callV1 rfl rfl rfl rfl rfl rfl (s_refuse (by omega)) ?_
    have hno := of_decide_eq_false h8
    refine z_iret rfl rfl ⟨?_, ?_, rfl⟩
    · rw [if_neg hno]
    · rw [if_neg hno]
  · have hin := of_decide_eq_true h8
    refine z_aload_n rfl rfl ?_
    refine z_getR rfl rfl rfl rfl ?_
    refine z_getR rfl rfl rfl rfl ?_
    refine z_iload_n rfl rfl ?_
    refine z_iald rfl rfl (by omega) ?_
    refine z_goto rfl ?_
    refine z_iret rfl rfl ⟨?_, ?_, rfl⟩
    · rw [if_pos hin]
    · rw [if_pos hin]
theorem s_successors {Z : ZW} {J : Int64} {x : Int} (hx : RG x) (hs : 0 ≤ Z 14 0 ∧ Z 14 0 ≤ 24) : D 75 [.ref 0, .int (I x)] Z J (some (.int (I (if 0 ≤ x ∧ x < Z 14 0 then Z 19 x else -2)))) (if 0 ≤ x ∧ x < Z 14 0 then Z else rf Z (-2)) J := by
  unfold D Mz
  refine z_aload_n rfl rfl ?_
  refine z_getR rfl rfl rfl rfl ?_
  refine z_iload_n rfl rfl ?_
  refine z_callV1 rfl rfl rfl rfl rfl rfl (s_ghas hx hs) ?_
  refine z_ifb_eq rfl (fun h8 => ?_) (fun h8 => ?_)
  · refine z_aload_n rfl rfl ?_
    refine z_bipush rfl (by decide) ?_
    refine z_callV1 rfl rfl rfl rfl rfl rfl (s_refuse (by omega)) ?_
    have hno := of_decide_eq_false h8
    refine z_iret rfl rfl ⟨?_, ?_, rfl⟩
    · rw [if_neg hno]
    · rw [if_neg hno]
  · have hin := of_decide_eq_true h8
    refine z_aload_n rfl rfl ?_
    refine z_getR rfl rfl rfl rfl ?_
    refine z_getR rfl rfl rfl rfl ?_
    refine z_iload_n rfl rfl ?_
    refine z_iald rfl rfl (by omega) ?_
    refine z_goto rfl ?_
    refine z_iret rfl rfl ⟨?_, ?_, rfl⟩
    · rw [if_pos hin]
    · rw [if_pos hin]
theorem s_blockCost {Z : ZW} {J : Int64} {x : Int} (hx : RG x) (hs : 0 ≤ Z 14 0 ∧ Z 14 0 ≤ 24) : D 76 [.ref 0, .int (I x)] Z J (some (.int (I (if 0 ≤ x ∧ x < Z 14 0 then Z 25 x else -2)))) (if 0 ≤ x ∧ x < Z 14 0 then Z else rf Z (-2)) J := by
  unfold D Mz
  refine z_aload_n rfl rfl ?_
  refine z_getR rfl rfl rfl rfl ?_
  refine z_iload_n rfl rfl ?_
  refine z_callV1 rfl rfl rfl rfl rfl rfl (s_ghas hx hs) ?_
  refine z_ifb_eq rfl (fun h8 => ?_) (fun h8 => ?_)
  · refine z_aload_n rfl rfl ?_
    refine z_bipush rfl (by decide) ?_
    refine z_callV1 rfl rfl rfl rfl rfl rfl (s_refuse (by omega)) ?_
    have hno := of_decide_eq_false h8
    refine z_iret rfl rfl ⟨?_, ?_, rfl⟩
    · rw [if_neg hno]
    · rw [if_neg hno]
  · have hin := of_decide_eq_true h8
    refine z_aload_n rfl rfl ?_
    refine z_getR rfl rfl rfl rfl ?_
    refine z_getR rfl rfl rfl rfl ?_
    refine z_iload_n rfl rfl ?_
    refine z_iald rfl rfl (by omega) ?_
    refine z_goto rfl ?_
    refine z_iret rfl rfl ⟨?_, ?_, rfl⟩
    · rw [if_pos hin]
    · rw [if_pos hin]
theorem s_chainHead {Z : ZW} {J : Int64} {x : Int} (hx : RG x) (hs : 0 ≤ Z 14 0 ∧ Z 14 0 ≤ 24) : D 77 [.ref 0, .int (I x)] Z J (some (.int (I (if 0 ≤ x ∧ x < Z 14 0 then Z 20 x else -2)))) (if 0 ≤ x ∧ x < Z 14 0 then Z else rf Z (-2)) J := by
  unfold D Mz
  refine z_aload_n rfl rfl ?_
  refine z_getR rfl rfl rfl rfl ?_
  refine z_iload_n rfl rfl ?_
  refine z_callV1 rfl rfl rfl rfl rfl rfl (s_ghas hx hs) ?_
  refine z_ifb_eq rfl (fun h8 => ?_) (fun h8 => ?_)
  · refine z_aload_n rfl rfl ?_
    refine z_bipush rfl (by decide) ?_
    refine z_callV1 rfl rfl rfl rfl rfl rfl (s_refuse (by omega)) ?_
    have hno := of_decide_eq_false h8
    refine z_iret rfl rfl ⟨?_, ?_, rfl⟩
    · rw [if_neg hno]
    · rw [if_neg hno]
  · have hin := of_decide_eq_true h8
    refine z_aload_n rfl rfl ?_
    refine z_getR rfl rfl rfl rfl ?_
    refine z_getR rfl rfl rfl rfl ?_
    refine z_iload_n rfl rfl ?_
    refine z_iald rfl rfl (by omega) ?_
    refine z_goto rfl ?_
    refine z_iret rfl rfl ⟨?_, ?_, rfl⟩
    · rw [if_pos hin]
    · rw [if_pos hin]
theorem s_chainCost {Z : ZW} {J : Int64} {x : Int} (hx : RG x) (hs : 0 ≤ Z 14 0 ∧ Z 14 0 ≤ 24) : D 78 [.ref 0, .int (I x)] Z J (some (.int (I (if 0 ≤ x ∧ x < Z 14 0 then Z 26 x else -2)))) (if 0 ≤ x ∧ x < Z 14 0 then Z else rf Z (-2)) J := by
  unfold D Mz
  refine z_aload_n rfl rfl ?_
  refine z_getR rfl rfl rfl rfl ?_
  refine z_iload_n rfl rfl ?_
  refine z_callV1 rfl rfl rfl rfl rfl rfl (s_ghas hx hs) ?_
  refine z_ifb_eq rfl (fun h8 => ?_) (fun h8 => ?_)
  · refine z_aload_n rfl rfl ?_
    refine z_bipush rfl (by decide) ?_
    refine z_callV1 rfl rfl rfl rfl rfl rfl (s_refuse (by omega)) ?_
    have hno := of_decide_eq_false h8
    refine z_iret rfl rfl ⟨?_, ?_, rfl⟩
    · rw [if_neg hno]
    · rw [if_neg hno]
  · have hin := of_decide_eq_true h8
    refine z_aload_n rfl rfl ?_
    refine z_getR rfl rfl rfl rfl ?_
    refine z_getR rfl rfl rfl rfl ?_
    refine z_iload_n rfl rfl ?_
    refine z_iald rfl rfl (by omega) ?_
    refine z_goto rfl ?_
    refine z_iret rfl rfl ⟨?_, ?_, rfl⟩
    · rw [if_pos hin]
    · rw [if_pos hin]
theorem s_blocks {Z : ZW} {J : Int64} : D 73 [.ref 0] Z J (some (.int (I (Z 14 0)))) Z J := by
  unfold D Mz
  refine z_aload_n rfl rfl ?_
  refine z_getR rfl rfl rfl rfl ?_
  refine z_getI (bi := 0) rfl rfl rfl rfl ?_
  exact z_iret rfl rfl ⟨rfl, rfl, rfl⟩
theorem s_reachableBlocks {Z : ZW} {J : Int64} : D 79 [.ref 0] Z J (some (.int (I (Z 14 1)))) Z J := by
  unfold D Mz
  refine z_aload_n rfl rfl ?_
  refine z_getR rfl rfl rfl rfl ?_
  refine z_getI (bi := 1) rfl rfl rfl rfl ?_
  exact z_iret rfl rfl ⟨rfl, rfl, rfl⟩
theorem s_greatestCost {Z : ZW} {J : Int64} : D 80 [.ref 0] Z J (some (.int (I (Z 24 0)))) Z J := by
  unfold D Mz
  refine z_aload_n rfl rfl ?_
  refine z_getR rfl rfl rfl rfl ?_
  refine z_getI (bi := 0) rfl rfl rfl rfl ?_
  exact z_iret rfl rfl ⟨rfl, rfl, rfl⟩
theorem s_leastCost {Z : ZW} {J : Int64} : D 81 [.ref 0] Z J (some (.int (I (Z 24 1)))) Z J := by
  unfold D Mz
  refine z_aload_n rfl rfl ?_
  refine z_getR rfl rfl rfl rfl ?_
  refine z_getI (bi := 1) rfl rfl rfl rfl ?_
  exact z_iret rfl rfl ⟨rfl, rfl, rfl⟩
theorem s_steps {Z : ZW} {J : Int64} : D 83 [.ref 0] Z J (some (.int (I (Z 59 1)))) Z J := by
  unfold D Mz
  refine z_aload_n rfl rfl ?_
  refine z_getR rfl rfl rfl rfl ?_
  refine z_getI (bi := 1) rfl rfl rfl rfl ?_
  exact z_iret rfl rfl ⟨rfl, rfl, rfl⟩
theorem s_remaining {Z : ZW} {J : Int64} : D 84 [.ref 0] Z J (some (.int (I (Z 59 2)))) Z J := by
  unfold D Mz
  refine z_aload_n rfl rfl ?_
  refine z_getR rfl rfl rfl rfl ?_
  refine z_getI (bi := 2) rfl rfl rfl rfl ?_
  exact z_iret rfl rfl ⟨rfl, rfl, rfl⟩
theorem s_charges {Z : ZW} {J : Int64} : D 85 [.ref 0] Z J (some (.int (I (Z 59 3)))) Z J := by
  unfold D Mz
  refine z_aload_n rfl rfl ?_
  refine z_getR rfl rfl rfl rfl ?_
  refine z_getI (bi := 3) rfl rfl rfl rfl ?_
  exact z_iret rfl rfl ⟨rfl, rfl, rfl⟩
theorem s_stoppedAt {Z : ZW} {J : Int64} : D 87 [.ref 0] Z J (some (.int (I (Z 59 4)))) Z J := by
  unfold D Mz
  refine z_aload_n rfl rfl ?_
  refine z_getR rfl rfl rfl rfl ?_
  refine z_getI (bi := 4) rfl rfl rfl rfl ?_
  exact z_iret rfl rfl ⟨rfl, rfl, rfl⟩
theorem s_errorCount {Z : ZW} {J : Int64} {x : Int} (hx : RG x) : D 92 [.ref 0, .int (I x)] Z J (some (.int (I (if -4 ≤ x ∧ x ≤ -2 then Z 63 (-2 - x) else -2)))) (if -4 ≤ x ∧ x ≤ -2 then Z else rf Z (-2)) J := by
  unfold D Mz
  refine z_iload_n rfl rfl ?_
  refine z_callS1 rfl rfl rfl rfl (s_isErr hx) ?_
  refine z_ifb_eq rfl (fun h4 => ?_) (fun h4 => ?_)
  · refine z_aload_n rfl rfl ?_
    refine z_bipush rfl (by decide) ?_
    refine z_callV1 rfl rfl rfl rfl rfl rfl (s_refuse (by omega)) ?_
    have hno := of_decide_eq_false h4
    refine z_iret rfl rfl ⟨?_, ?_, rfl⟩
    · rw [if_neg hno]
    · rw [if_neg hno]
  · have hin := of_decide_eq_true h4
    refine z_aload_n rfl rfl ?_
    refine z_getR rfl rfl rfl rfl ?_
    refine z_bipush rfl (by decide) ?_
    refine z_iload_n rfl rfl ?_
    refine z_isub rfl ?_
    refine z_iald rfl rfl (by omega) ?_
    refine z_goto rfl ?_
    refine z_iret rfl rfl ⟨?_, ?_, rfl⟩
    · rw [if_pos hin]
    · rw [if_pos hin]
end
section
/-! the class: the digest -/
def mx (h : Int64) (x : Int) : Int64 := 31 * h + (I x).toInt64
def h0 : Int64 := 2663
def mxU (g : Int → Int64 → Int64) : Nat → Int → Int64 → Int64
  | 0, _, h => h
  | d + 1, t, h => mxU g d (t + 1) (g t h)
def mxs (f : FI) (n : Nat) (h : Int64) : Int64 := mxU (fun t h => mx h (f t)) n 0 h
def MS (h : Int64) (co : FI) (n : Nat) (op : FI) : Int64 := mxs op n (mx (mxs co 8 h) n)
def MB (S C H K : FI) (t : Int) (h : Int64) : Int64 := mx (mx (mx (mx h (S t)) (C t)) (H t)) (K t)
def MF (h : Int64) (nb : Nat) (S C H K : FI) (R G L : Int) : Int64 := mx (mx (mx (mxU (MB S C H K) nb 0 (mx h nb)) R) G) L
def ML (h : Int64) (a b c d : Int) (v : FI) (e : Int) : Int64 := mx (mxs v 4 (mx (mx (mx (mx h a) b) c) d)) e
theorem mxU_congr {g g' : Int → Int64 → Int64} : ∀ (d : Nat) (t : Int) (h : Int64), (∀ j h, t ≤ j → j < t + d → g j h = g' j h) → mxU g d t h = mxU g' d t h := by
  intro d
  induction d with
  | zero => intro t h e; rfl
  | succ d ih =>
    intro t h e
    show mxU g d (t + 1) (g t h) = mxU g' d (t + 1) (g' t h)
    rw [e t h (Int.le_refl _) (by omega)]
    exact ih _ _ (fun j h j0 j1 => e j h (by omega) (by omega))
theorem s_mix {Z : ZW} {J : Int64} {h : Int64} {x : Int} : D 93 [.long h, .int (I x)] Z J (some (.long (mx h x))) Z J := by
  unfold D Mz
  refine z_ldc2 rfl ?_
  refine z_lload_n rfl rfl ?_
  refine z_lmul rfl ?_
  refine z_iload_n rfl rfl ?_
  refine z_i2l rfl ?_
  refine z_ladd rfl ?_
  exact z_lret rfl rfl ⟨rfl, rfl, rfl⟩
theorem l_ms1 {Z : ZW} {J : Int64} {h1 : Int64} {Φ : ZΦ} {n : Nat} (hn2 : n ≤ 24) (hn : n = 8) {v : Int64} : ∀ (d : Nat) (t : Int) (h : Int64), 0 ≤ t → t + d = n → v = mxU (fun t h => mx h (Z 8 t)) d t h → OkZ none 94 33 [some (.ref 0), some (.long h1), none, some (.long v), none, some (.int (I (n : Int)))] [] Z J Φ → OkZ none 94 5 [some (.ref 0), some (.long h1), none, some (.long h), none, some (.int (I t))] [] Z J Φ := by
  intro d
  induction d with
  | zero =>
    intro t h t0 t1 hv hk
    have et : t = (n : Int) := by omega
    have hv : v = h := hv
    rw [← et, hv] at hk
    refine z_iload rfl rfl ?_
    refine z_bipush rfl (by decide) ?_
    refine z_icmp_ge rfl (by omega) (by omega) (fun h9 => ?_) (fun h9 => ?_)
    · exact hk
    · exfalso; omega
  | succ d ih =>
    intro t h t0 t1 hv hk
    refine z_iload rfl rfl ?_
    refine z_bipush rfl (by decide) ?_
    refine z_icmp_ge rfl (by omega) (by omega) (fun h9 => ?_) (fun h9 => ?_)
    · exfalso; omega
    · refine z_lload_n rfl rfl ?_
      refine z_aload_n rfl rfl ?_
      refine z_getR rfl rfl rfl rfl ?_
      refine z_getR rfl rfl rfl rfl ?_
      refine z_iload rfl rfl ?_
      refine z_iald rfl rfl (by omega) ?_
      refine z_callS2 rfl rfl rfl rfl (s_mix) ?_
      refine z_lstore_n rfl rfl rfl ?_
      refine z_iinc rfl rfl rfl rfl ?_
      refine z_goto rfl ?_
      exact ih (t + 1) _ (by omega) (by omega) hv hk
theorem l_ms2 {Z : ZW} {J : Int64} {h1 : Int64} {Φ : ZΦ} {n : Nat} (hn2 : n ≤ 24) (hn : Z 4 0 = n) {v : Int64} : ∀ (d : Nat) (t : Int) (h : Int64), 0 ≤ t → t + d = n → v = mxU (fun t h => mx h (Z 5 t)) d t h → OkZ none 94 81 [some (.ref 0), some (.long h1), none, some (.long v), none, some (.int (I (n : Int)))] [] Z J Φ → OkZ none 94 48 [some (.ref 0), some (.long h1), none, some (.long h), none, some (.int (I t))] [] Z J Φ := by
  intro d
  induction d with
  | zero =>
    intro t h t0 t1 hv hk
    have et : t = (n : Int) := by omega
    have hv : v = h := hv
    rw [← et, hv] at hk
    refine z_iload rfl rfl ?_
    refine z_aload_n rfl rfl ?_
    refine z_getR rfl rfl rfl rfl ?_
    refine z_getI (bi := 0) rfl rfl rfl rfl ?_
    rw [hn]
    refine z_icmp_ge rfl (by omega) (by omega) (fun h57 => ?_) (fun h57 => ?_)
    · exact hk
    · exfalso; omega
  | succ d ih =>
    intro t h t0 t1 hv hk
    refine z_iload rfl rfl ?_
    refine z_aload_n rfl rfl ?_
    refine z_getR rfl rfl rfl rfl ?_
    refine z_getI (bi := 0) rfl rfl rfl rfl ?_
    rw [hn]
    refine z_icmp_ge rfl (by omega) (by omega) (fun h57 => ?_) (fun h57 => ?_)
    · exfalso; omega
    · refine z_lload_n rfl rfl ?_
      refine z_aload_n rfl rfl ?_
      refine z_getR rfl rfl rfl rfl ?_
      refine z_getR rfl rfl rfl rfl ?_
      refine z_iload rfl rfl ?_
      refine z_iald rfl rfl (by omega) ?_
      refine z_callS2 rfl rfl rfl rfl (s_mix) ?_
      refine z_lstore_n rfl rfl rfl ?_
      refine z_iinc rfl rfl rfl rfl ?_
      refine z_goto rfl ?_
      exact ih (t + 1) _ (by omega) (by omega) hv hk
theorem s_mixSetup {Z : ZW} {J : Int64} {n : Nat} {h : Int64} (hn : Z 4 0 = n) (hn2 : n ≤ 24) : D 94 [.ref 0, .long h] Z J (some (.long (MS h (Z 8) n (Z 5)))) Z J := by
  unfold D Mz
  refine z_lload_n rfl rfl ?_
  refine z_lstore_n rfl rfl rfl ?_
  refine z_iconst rfl ?_
  refine z_istore rfl rfl rfl ?_
  refine l_ms1 (n := 8) (by decide) rfl 8 0 _ (by decide) (by decide) rfl ?_
  refine z_lload_n rfl rfl ?_
  refine z_aload_n rfl rfl ?_
  refine z_getR rfl rfl rfl rfl ?_
  refine z_getI (bi := 0) rfl rfl rfl rfl ?_
  refine z_callS2 rfl rfl rfl rfl (s_mix) ?_
  refine z_lstore_n rfl rfl rfl ?_
  refine z_iconst rfl ?_
  refine z_istore rfl rfl rfl ?_
  rw [hn]
  refine l_ms2 hn2 hn n 0 _ (by decide) (by omega) rfl ?_
  refine z_lload_n rfl rfl ?_
  exact z_lret rfl rfl ⟨rfl, rfl, rfl⟩
theorem l_mf {Z : ZW} {J : Int64} {h1 : Int64} {Φ : ZΦ} {n : Nat} (hn2 : n ≤ 24) (hn : Z 14 0 = n) {v : Int64} : ∀ (d : Nat) (t : Int) (h : Int64), 0 ≤ t → t + d = n → v = mxU (MB (Z 19) (Z 25) (Z 20) (Z 26)) d t h → OkZ none 95 93 [some (.ref 0), some (.long h1), none, some (.long v), none, some (.int (I (n : Int)))] [] Z J Φ → OkZ none 95 15 [some (.ref 0), some (.long h1), none, some (.long h), none, some (.int (I t))] [] Z J Φ := by
  intro d
  induction d with
  | zero =>
    intro t h t0 t1 hv hk
    have et : t = (n : Int) := by omega
    have hv : v = h := hv
    rw [← et, hv] at hk
    refine z_iload rfl rfl ?_
    refine z_aload_n rfl rfl ?_
    refine z_getR rfl rfl rfl rfl ?_
    refine z_getI (bi := 0) rfl rfl rfl rfl ?_
    rw [hn]
    refine z_icmp_ge rfl (by omega) (by omega) (fun h24 => ?_) (fun h24 => ?_)
    · exact hk
    · exfalso; omega
  | succ d ih =>
    intro t h t0 t1 hv hk
    refine z_iload rfl rfl ?_
    refine z_aload_n rfl rfl ?_
    refine z_getR rfl rfl rfl rfl ?_
    refine z_getI (bi := 0) rfl rfl rfl rfl ?_
    rw [hn]
    refine z_icmp_ge rfl (by omega) (by omega) (fun h24 => ?_) (fun h24 => ?_)
    · exfalso; omega
    · refine z_lload_n rfl rfl ?_
      refine z_aload_n rfl rfl ?_
      refine z_getR rfl rfl rfl rfl ?_
      refine z_getR rfl rfl rfl rfl ?_
      refine z_iload rfl rfl ?_
      refine z_iald rfl rfl (by omega) ?_
      refine z_callS2 rfl rfl rfl rfl (s_mix) ?_
      refine z_lstore_n rfl rfl rfl ?_
      refine z_lload_n rfl rfl ?_
      refine z_aload_n rfl rfl ?_
      refine z_getR rfl rfl rfl rfl ?_
      refine z_getR rfl rfl rfl rfl ?_
      refine z_iload rfl rfl ?_
      refine z_iald rfl rfl (by omega) ?_
      refine z_callS2 rfl rfl rfl rfl (s_mix) ?_
      refine z_lstore_n rfl rfl rfl ?_
      refine z_lload_n rfl rfl ?_
      refine z_aload_n rfl rfl ?_
      refine z_getR rfl rfl rfl rfl ?_
      refine z_getR rfl rfl rfl rfl ?_
      refine z_iload rfl rfl ?_
      refine z_iald rfl rfl (by omega) ?_
      refine z_callS2 rfl rfl rfl rfl (s_mix) ?_
      refine z_lstore_n rfl rfl rfl ?_
      refine z_lload_n rfl rfl ?_
      refine z_aload_n rfl rfl ?_
      refine z_getR rfl rfl rfl rfl ?_
      refine z_getR rfl rfl rfl rfl ?_
      refine z_iload rfl rfl ?_
      refine z_iald rfl rfl (by omega) ?_
      refine z_callS2 rfl rfl rfl rfl (s_mix) ?_
      refine z_lstore_n rfl rfl rfl ?_
      refine z_iinc rfl rfl rfl rfl ?_
      refine z_goto rfl ?_
      exact ih (t + 1) _ (by omega) (by omega) hv hk
theorem s_mixFlow {Z : ZW} {J : Int64} {n : Nat} {h : Int64} (hn : Z 14 0 = n) (hn2 : n ≤ 24) : D 95 [.ref 0, .long h] Z J (some (.long (MF h n (Z 19) (Z 25) (Z 20) (Z 26) (Z 14 1) (Z 24 0) (Z 24 1)))) Z J := by
  unfold D Mz
  refine z_lload_n rfl rfl ?_
  refine z_aload_n rfl rfl ?_
  refine z_getR rfl rfl rfl rfl ?_
  refine z_getI (bi := 0) rfl rfl rfl rfl ?_
  refine z_callS2 rfl rfl rfl rfl (s_mix) ?_
  refine z_lstore_n rfl rfl rfl ?_
  refine z_iconst rfl ?_
  refine z_istore rfl rfl rfl ?_
  rw [hn]
  refine l_mf hn2 hn n 0 _ (by decide) (by omega) rfl ?_
  refine z_lload_n rfl rfl ?_
  refine z_aload_n rfl rfl ?_
  refine z_getR rfl rfl rfl rfl ?_
  refine z_getI (bi := 1) rfl rfl rfl rfl ?_
  refine z_callS2 rfl rfl rfl rfl (s_mix) ?_
  refine z_lstore_n rfl rfl rfl ?_
  refine z_lload_n rfl rfl ?_
  refine z_aload_n rfl rfl ?_
  refine z_getR rfl rfl rfl rfl ?_
  refine z_getI (bi := 0) rfl rfl rfl rfl ?_
  refine z_callS2 rfl rfl rfl rfl (s_mix) ?_
  refine z_lstore_n rfl rfl rfl ?_
  refine z_lload_n rfl rfl ?_
  refine z_aload_n rfl rfl ?_
  refine z_getR rfl rfl rfl rfl ?_
  refine z_getI (bi := 1) rfl rfl rfl rfl ?_
  refine z_callS2 rfl rfl rfl rfl (s_mix) ?_
  exact z_lret rfl rfl ⟨rfl, rfl, rfl⟩
theorem l_ml {Z : ZW} {J : Int64} {h1 : Int64} {Φ : ZΦ} {n : Nat} (hn2 : n ≤ 24) (hn : n = 4) {v : Int64} : ∀ (d : Nat) (t : Int) (h : Int64), 0 ≤ t → t + d = n → v = mxU (fun t h => mx h (Z 60 t)) d t h → OkZ none 96 77 [some (.ref 0), some (.long h1), none, some (.long v), none, some (.int (I (n : Int)))] [] Z J Φ → OkZ none 96 51 [some (.ref 0), some (.long h1), none, some (.long h), none, some (.int (I t))] [] Z J Φ := by
  intro d
  induction d with
  | zero =>
    intro t h t0 t1 hv hk
    have et : t = (n : Int) := by omega
    have hv : v = h := hv
    rw [← et, hv] at hk
    refine z_iload rfl rfl ?_
    refine z_iconst rfl ?_
    refine z_icmp_ge rfl (by omega) (by omega) (fun h54 => ?_) (fun h54 => ?_)
    · exact hk
    · exfalso; omega
  | succ d ih =>
    intro t h t0 t1 hv hk
    refine z_iload rfl rfl ?_
    refine z_iconst rfl ?_
    refine z_icmp_ge rfl (by omega) (by omega) (fun h54 => ?_) (fun h54 => ?_)
    · exfalso; omega
    · refine z_lload_n rfl rfl ?_
      refine z_aload_n rfl rfl ?_
      refine z_getR rfl rfl rfl rfl ?_
      refine z_iload rfl rfl ?_
      refine z_callV1 rfl rfl rfl rfl rfl rfl (s_valueOf_59 (by omega)) ?_
      rw [if_pos (by omega)]
      refine z_callS2 rfl rfl rfl rfl (s_mix) ?_
      refine z_lstore_n rfl rfl rfl ?_
      refine z_iinc rfl rfl rfl rfl ?_
      refine z_goto rfl ?_
      exact ih (t + 1) _ (by omega) (by omega) hv hk
theorem s_mixLatest {Z : ZW} {J : Int64} {h : Int64} : D 96 [.ref 0, .long h] Z J (some (.long (ML h (Z 59 0) (Z 59 1) (Z 59 2) (Z 59 3) (Z 60) (Z 59 4)))) Z J := by
  unfold D Mz
  refine z_lload_n rfl rfl ?_
  refine z_aload_n rfl rfl ?_
  refine z_getR rfl rfl rfl rfl ?_
  refine z_getI (bi := 0) rfl rfl rfl rfl ?_
  refine z_callS2 rfl rfl rfl rfl (s_mix) ?_
  refine z_lstore_n rfl rfl rfl ?_
  refine z_lload_n rfl rfl ?_
  refine z_aload_n rfl rfl ?_
  refine z_getR rfl rfl rfl rfl ?_
  refine z_getI (bi := 1) rfl rfl rfl rfl ?_
  refine z_callS2 rfl rfl rfl rfl (s_mix) ?_
  refine z_lstore_n rfl rfl rfl ?_
  refine z_lload_n rfl rfl ?_
  refine z_aload_n rfl rfl ?_
  refine z_getR rfl rfl rfl rfl ?_
  refine z_getI (bi := 2) rfl rfl rfl rfl ?_
  refine z_callS2 rfl rfl rfl rfl (s_mix) ?_
  refine z_lstore_n rfl rfl rfl ?_
  refine z_lload_n rfl rfl ?_
  refine z_aload_n rfl rfl ?_
  refine z_getR rfl rfl rfl rfl ?_
  refine z_getI (bi := 3) rfl rfl rfl rfl ?_
  refine z_callS2 rfl rfl rfl rfl (s_mix) ?_
  refine z_lstore_n rfl rfl rfl ?_
  refine z_iconst rfl ?_
  refine z_istore rfl rfl rfl ?_
  refine l_ml (n := 4) (by decide) rfl 4 0 _ (by decide) (by decide) rfl ?_
  refine z_lload_n rfl rfl ?_
  refine z_aload_n rfl rfl ?_
  refine z_getR rfl rfl rfl rfl ?_
  refine z_getI (bi := 4) rfl rfl rfl rfl ?_
  refine z_callS2 rfl rfl rfl rfl (s_mix) ?_
  exact z_lret rfl rfl ⟨rfl, rfl, rfl⟩
theorem l_dg {Z : ZW} {J : Int64}  {Φ : ZΦ} {n : Nat} (hn2 : n ≤ 24) (hn : n = 3) {v : Int64} : ∀ (d : Nat) (t : Int) (h : Int64), 0 ≤ t → t + d = n → v = mxU (fun t h => mx h (Z 63 t)) d t h → OkZ none 97 32 [some (.ref 0), some (.long v), none, some (.int (I (n : Int)))] [] Z J Φ → OkZ none 97 6 [some (.ref 0), some (.long h), none, some (.int (I t))] [] Z J Φ := by
  intro d
  induction d with
  | zero =>
    intro t h t0 t1 hv hk
    have et : t = (n : Int) := by omega
    have hv : v = h := hv
    rw [← et, hv] at hk
    refine z_iload_n rfl rfl ?_
    refine z_aload_n rfl rfl ?_
    refine z_getR rfl rfl rfl rfl ?_
    refine z_alen (ni := 3) rfl rfl rfl ?_
    refine z_icmp_ge rfl (by omega) (by omega) (fun h12 => ?_) (fun h12 => ?_)
    · exact hk
    · exfalso; omega
  | succ d ih =>
    intro t h t0 t1 hv hk
    refine z_iload_n rfl rfl ?_
    refine z_aload_n rfl rfl ?_
    refine z_getR rfl rfl rfl rfl ?_
    refine z_alen (ni := 3) rfl rfl rfl ?_
    refine z_icmp_ge rfl (by omega) (by omega) (fun h12 => ?_) (fun h12 => ?_)
    · exfalso; omega
    · refine z_lload_n rfl rfl ?_
      refine z_aload_n rfl rfl ?_
      refine z_getR rfl rfl rfl rfl ?_
      refine z_iload_n rfl rfl ?_
      refine z_iald rfl rfl (by omega) ?_
      refine z_callS2 rfl rfl rfl rfl (s_mix) ?_
      refine z_lstore_n rfl rfl rfl ?_
      refine z_iinc rfl rfl rfl rfl ?_
      refine z_goto rfl ?_
      exact ih (t + 1) _ (by omega) (by omega) hv hk
theorem s_digest {Z : ZW} {J : Int64} {n m : Nat} (hn : Z 4 0 = n) (hn2 : n ≤ 24) (hm : Z 14 0 = m) (hm2 : m ≤ 24) : D 97 [.ref 0] Z J (some (.long (mx (ML (MF (MS (mx (mxs (Z 63) 3 h0) (Z 1 0)) (Z 8) n (Z 5)) m (Z 19) (Z 25) (Z 20) (Z 26) (Z 14 1) (Z 24 0) (Z 24 1)) (Z 59 0) (Z 59 1) (Z 59 2) (Z 59 3) (Z 60) (Z 59 4)) (Z 32 0)))) Z J := by
  unfold D Mz
  refine z_ldc2 rfl ?_
  refine z_lstore_n rfl rfl rfl ?_
  refine z_iconst rfl ?_
  refine z_istore_n rfl rfl rfl ?_
  refine l_dg (n := 3) (by decide) rfl 3 0 _ (by decide) (by decide) rfl ?_
  refine z_lload_n rfl rfl ?_
  refine z_aload_n rfl rfl ?_
  refine z_getR rfl rfl rfl rfl ?_
  refine z_getI (bi := 0) rfl rfl rfl rfl ?_
  refine z_callS2 rfl rfl rfl rfl (s_mix) ?_
  refine z_lstore_n rfl rfl rfl ?_
  refine z_aload_n rfl rfl ?_
  refine z_lload_n rfl rfl ?_
  refine z_callV1 rfl rfl rfl rfl rfl rfl (s_mixSetup hn hn2) ?_
  refine z_lstore_n rfl rfl rfl ?_
  refine z_aload_n rfl rfl ?_
  refine z_lload_n rfl rfl ?_
  refine z_callV1 rfl rfl rfl rfl rfl rfl (s_mixFlow hm hm2) ?_
  refine z_lstore_n rfl rfl rfl ?_
  refine z_aload_n rfl rfl ?_
  refine z_lload_n rfl rfl ?_
  refine z_callV1 rfl rfl rfl rfl rfl rfl (s_mixLatest) ?_
  refine z_lstore_n rfl rfl rfl ?_
  refine z_lload_n rfl rfl ?_
  refine z_aload_n rfl rfl ?_
  refine z_getR rfl rfl rfl rfl ?_
  refine z_getI (bi := 0) rfl rfl rfl rfl ?_
  refine z_callS2 rfl rfl rfl rfl (s_mix) ?_
  exact z_lret rfl rfl ⟨rfl, rfl, rfl⟩
end
section
/-! chains: heads lie among the blocks and are their own; block costs are small -/
theorem pigeon : ∀ (m : Nat) (f : Nat → Nat), (∀ k, k ≤ m → f k < m) → ∃ i j, i < j ∧ j ≤ m ∧ f i = f j := by
  intro m
  induction m with
  | zero => intro f h; exact absurd (h 0 (Nat.le_refl _)) (Nat.not_lt_zero _)
  | succ m ih =>
    intro f h
    by_cases hc : ∃ i, i ≤ m ∧ f i = f (m + 1)
    · obtain ⟨i, i1, i2⟩ := hc
      exact ⟨i, m + 1, by omega, Nat.le_refl _, i2⟩
    · have hn : ∀ i, i ≤ m → f i ≠ f (m + 1) := fun i hi e => hc ⟨i, hi, e⟩
      have hcm := h (m + 1) (Nat.le_refl _)
      obtain ⟨i, j, ij, jm, e⟩ := ih (fun k => if f k = m then f (m + 1) else f k) (by
        intro k hk
        have := h k (by omega)
        have := hn k hk
        show (if f k = m then f (m + 1) else f k) < m
        split <;> omega)
      refine ⟨i, j, ij, by omega, ?_⟩
      have n1 := hn i (by omega)
      have n2 := hn j jm
      have e : (if f i = m then f (m + 1) else f i) = (if f j = m then f (m + 1) else f j) := e
      split at e <;> split at e <;> omega
def itJ (jo : FI) : Nat → Int → Int
  | 0, b => b
  | k + 1, b => jo (itJ jo k b)
def Live (jo : FI) (k : Nat) (b : Int) : Prop := ∀ i, i < k → jo (itJ jo i b) ≠ -1
/-- v is the head of the chain of b -/
def Hd (jo : FI) (b v : Int) : Prop := (∃ k, Live jo k b ∧ itJ jo k b = v ∧ jo v = -1) ∨ ((∀ k, Live jo k b) ∧ (∃ k, itJ jo k b = v) ∧ ∀ k, v ≤ itJ jo k b)
def JOk (jo : FI) (nb : Nat) : Prop := (∀ p, 0 ≤ p → p < (nb : Int) → -1 ≤ jo p ∧ jo p < nb) ∧ ∀ p q, 0 ≤ p → p < (nb : Int) → 0 ≤ q → q < (nb : Int) → jo p ≠ -1 → jo p = jo q → p = q
theorem it_add (jo : FI) (b : Int) (i : Nat) : ∀ k, itJ jo k (itJ jo i b) = itJ jo (i + k) b := by
  intro k
  induction k with
  | zero => rfl
  | succ k ih => show jo (itJ jo k (itJ jo i b)) = jo (itJ jo (i + k) b); rw [ih]
theorem it_in {jo : FI} {nb : Nat} {b : Int} (h : JOk jo nb) (h0 : 0 ≤ b) (h1 : b < nb) : ∀ k, Live jo k b → 0 ≤ itJ jo k b ∧ itJ jo k b < nb := by
  intro k
  induction k with
  | zero => intro _; exact ⟨h0, h1⟩
  | succ k ih =>
    intro hl
    have a := ih (fun i hi => hl i (by omega))
    have c := hl k (by omega)
    have e := h.1 _ a.1 a.2
    show 0 ≤ jo (itJ jo k b) ∧ jo (itJ jo k b) < nb
    omega
theorem Hd_unique {jo : FI} {b v w : Int} (h1 : Hd jo b v) (h2 : Hd jo b w) : v = w := by
  rcases h1 with ⟨k, l1, e1, z1⟩ | ⟨l1, ⟨k, e1⟩, m1⟩ <;> rcases h2 with ⟨k2, l2, e2, z2⟩ | ⟨l2, ⟨k2, e2⟩, m2⟩
  · rcases Nat.lt_trichotomy k k2 with q | q | q
    · exact absurd (by rw [e1]; exact z1) (l2 k q)
    · rw [← e1, ← e2, q]
    · exact absurd (by rw [e2]; exact z2) (l1 k2 q)
  · exact absurd (by rw [e1]; exact z1) (l2 (k + 1) k (by omega))
  · exact absurd (by rw [e2]; exact z2) (l1 (k2 + 1) k2 (by omega))
  · have a := m1 k2
    have c := m2 k
    rw [e2] at a
    rw [e1] at c
    omega
theorem Hd_self {jo : FI} {b v : Int} (h : Hd jo b v) : Hd jo v v := by
  rcases h with ⟨k, l, e, z⟩ | ⟨l, ⟨k, e⟩, m⟩
  · exact Or.inl ⟨0, fun i hi => absurd hi (Nat.not_lt_zero _), rfl, z⟩
  · right
    refine ⟨fun j i hi => ?_, ⟨0, rfl⟩, fun j => ?_⟩
    · rw [← e, it_add]; exact l (k + i + 1) (k + i) (by omega)
    · have := m (k + j)
      rw [← it_add, e] at this
      exact this
theorem Hd_in {jo : FI} {nb : Nat} {b v : Int} (hj : JOk jo nb) (h0 : 0 ≤ b) (h1 : b < nb) (h : Hd jo b v) : 0 ≤ v ∧ v < nb := by
  rcases h with ⟨k, l, e, z⟩ | ⟨l, ⟨k, e⟩, m⟩
  · rw [← e]; exact it_in hj h0 h1 k l
  · rw [← e]; exact it_in hj h0 h1 k (l k)
/-- a walk as long as there are blocks comes back -/
theorem ring {jo : FI} {nb : Nat} {b : Int} (hj : JOk jo nb) (h0 : 0 ≤ b) (h1 : b < nb) (hl : Live jo nb b) : ∃ m, 0 < m ∧ m ≤ nb ∧ itJ jo m b = b := by
  have hin : ∀ k, k ≤ nb → 0 ≤ itJ jo k b ∧ itJ jo k b < nb := fun k hk => it_in hj h0 h1 k (fun i hi => hl i (by omega))
  obtain ⟨i, j, ij, jn, e⟩ := pigeon nb (fun k => (itJ jo k b).toNat) (by
    intro k hk
    have := hin k hk
    show (itJ jo k b).toNat < nb
    omega)
  have e : (itJ jo i b).toNat = (itJ jo j b).toNat := e
  have ei := hin i (by omega)
  have ej := hin j jn
  have e2 : itJ jo i b = itJ jo j b := by omega
  have back : ∀ i j, i < j → j ≤ nb → itJ jo i b = itJ jo j b → itJ jo (j - i) b = b := by
    intro i
    induction i with
    | zero => intro j _ _ e; exact e.symm
    | succ i ih =>
      intro j ij jn e
      obtain ⟨j', rfl⟩ : ∃ j', j = j' + 1 := ⟨j - 1, by omega⟩
      have a := hin i (by omega)
      have c := hin j' (by omega)
      have e' : itJ jo i b = itJ jo j' b := hj.2 _ _ a.1 a.2 c.1 c.2 (hl i (by omega)) e
      have := ih j' (by omega) (by omega) e'
      rw [show j' + 1 - (i + 1) = j' - i by omega]
      exact this
  exact ⟨j - i, by omega, by omega, back i j ij jn e2⟩
theorem ring_per {jo : FI} {b : Int} {m : Nat} (e : itJ jo m b = b) (x : Nat) : itJ jo (m + x) b = itJ jo x b := by
  rw [← it_add, e]
theorem ring_all {jo : FI} {nb : Nat} {b : Int} {m : Nat} (h0 : 0 < m) (h1 : m ≤ nb) (e : itJ jo m b = b) (P : Int → Prop) (hP : ∀ k, k < nb → P (itJ jo k b)) : ∀ k, P (itJ jo k b) := by
  intro k
  induction k using Nat.strongRecOn with
  | ind k ih =>
    by_cases hk : k < nb
    · exact hP k hk
    · have := ih (k - m) (by omega)
      rw [← ring_per e, show m + (k - m) = k by omega] at this
      exact this
theorem hd_comp {jo : FI} {nb : Nat} {b : Int} (hj : JOk jo nb) (h0 : 0 ≤ b) (h1 : b < nb) : ∀ (d k : Nat) (lo : Int), k + d = nb → Live jo k b → (∃ i, lo = itJ jo i b) → (∀ i, i ≤ k → lo ≤ itJ jo i b) → Hd jo b (hdW jo nb d (itJ jo k b) lo) := by
  intro d
  induction d with
  | zero =>
    intro k lo hk hl hi hm
    have hk : k = nb := by omega
    subst hk
    obtain ⟨m, m0, m1, e⟩ := ring hj h0 h1 hl
    obtain ⟨i, hi⟩ := hi
    refine Or.inr ⟨fun k i _ => ring_all m0 m1 e (fun z => jo z ≠ -1) hl i, ⟨i, hi.symm⟩, ?_⟩
    exact ring_all m0 m1 e (fun z => lo ≤ z) (fun i hi => hm i (by omega))
  | succ d ih =>
    intro k lo hk hl hi hm
    have hin := it_in hj h0 h1 k hl
    unfold hdW
    by_cases hz : jo (itJ jo k b) = -1
    · rw [if_neg (fun q => q.2.2 hz)]
      exact Or.inl ⟨k, hl, rfl, hz⟩
    · rw [if_pos ⟨hin.1, hin.2, hz⟩]
      refine ih (k + 1) _ (by omega) ?_ ?_ ?_
      · intro i hi
        by_cases hik : i = k
        · rw [hik]; exact hz
        · exact hl i (by omega)
      · split
        · exact ⟨k + 1, rfl⟩
        · exact hi
      · intro i hi
        have e1 : itJ jo (k + 1) b = jo (itJ jo k b) := rfl
        by_cases hik : i = k + 1
        · rw [hik, e1]; split <;> omega
        · have := hm i (by omega)
          split <;> omega
theorem joF_spec {jn : Int → Int → Bool} {q : Int} : ∀ t : Nat, joF jn t q ≠ -1 → jn q (joF jn t q) = true := by
  intro t
  induction t with
  | zero => intro h; exact absurd rfl h
  | succ t ih =>
    unfold joF
    split
    · next h => intro _; exact h
    · exact ih
theorem bitv_inj {x y : Int} (hx : 0 ≤ x ∧ x < 24) (h : bitv x = bitv y) : x = y := by
  have a := tb_bitv (x := x) (y := x) hx
  rw [h, tb_bitv hx] at a
  rw [decide_eq_true rfl] at a
  exact of_decide_eq_true a
theorem gJ_ok (op rb : FI) {n : Nat} (hn : n ≤ 24) : JOk (gJ op rb n) (gnb op rb n) := by
  have hnb := gnb_le op rb n
  refine ⟨fun p _ _ => joF_in _ p _, fun p q p0 p1 q0 q1 hne e => ?_⟩
  have a : jnB _ _ _ p (gJ op rb n p) = true := joF_spec _ hne
  have c : jnB _ _ _ q (gJ op rb n q) = true := joF_spec _ (by show gJ op rb n q ≠ -1; rw [← e]; exact hne)
  have a := (of_decide_eq_true a).2.2.2.1
  have c := (of_decide_eq_true c).2.2.2.1
  rw [← e, a] at c
  exact bitv_inj ⟨p0, by omega⟩ c
theorem gH_hd (op rb : FI) {n : Nat} (hn : n ≤ 24) {b : Int} (h0 : 0 ≤ b) (h1 : b < gnb op rb n) : Hd (gJ op rb n) b (gH op rb n b) :=
  hd_comp (gJ_ok op rb hn) h0 h1 (gnb op rb n) 0 b (by omega) (fun i hi => absurd hi (Nat.not_lt_zero _)) ⟨0, rfl⟩ (fun i hi => by rw [show i = 0 by omega]; exact Int.le_refl _)
theorem laF_cnt {l : Int → Bool} (h0 : l 0 = true) : ∀ (t : Nat) (b : Int), 0 ≤ b → b < cnt l t → (cnt l ((laF l t b).toNat + 1) : Int) - 1 = b := by
  intro t
  induction t with
  | zero => intro b h1 h2; simp [cnt] at h2; omega
  | succ t ih =>
    intro b h1 h2
    unfold laF
    split
    · next he => rw [Int.toNat_natCast]; exact he
    · next hne =>
      have hc : cnt l (t + 1) = cnt l t + if l t then 1 else 0 := rfl
      have hb : b < cnt l t := by
        rcases Nat.eq_zero_or_pos t with rfl | hp
        · simp [cnt, h0] at h2 hne
          omega
        · have := cnt_pos h0 hp
          split at hc <;> omega
      exact ih b h1 hb
theorem bcF_in {ic bl : FI} {b : Int} : ∀ (t : Nat), (∀ i : Nat, i < t → 1 ≤ ic i ∧ ic i ≤ 9) → 0 ≤ bcF ic bl t b ∧ bcF ic bl t b ≤ 9 * t := by
  intro t
  induction t with
  | zero => intro _; exact ⟨Int.le_refl _, Int.le_refl _⟩
  | succ t ih =>
    intro h
    have a := ih (fun i hi => h i (by omega))
    have c := h t (by omega)
    unfold bcF
    split <;> omega
theorem bcF_pos {ic bl : FI} {b : Int} : ∀ (t : Nat), (∀ i : Nat, i < t → 1 ≤ ic i ∧ ic i ≤ 9) → (∃ i : Nat, i < t ∧ bl i = b) → 1 ≤ bcF ic bl t b := by
  intro t
  induction t with
  | zero => intro _ h; obtain ⟨i, hi, _⟩ := h; exact absurd hi (Nat.not_lt_zero _)
  | succ t ih =>
    intro h hx
    have a := bcF_in (bl := bl) (b := b) t (fun i hi => h i (by omega))
    have c := h t (by omega)
    unfold bcF
    split
    · omega
    · next hne =>
      obtain ⟨i, hi, e⟩ := hx
      have : i ≠ t := fun q => hne (by rw [← q]; exact e)
      exact ih (fun i hi => h i (by omega)) ⟨i, by omega, e⟩
def COk (co : FI) : Prop := ∀ x, 0 ≤ x → x < (8 : Int) → 1 ≤ co x ∧ co x ≤ 9
theorem gok {co op rb : FI} {n : Nat} (hn : n ≤ 24) (hop : OPok op rb n) (hco : COk co) : GOK co op rb n := by
  intro b h0 h1
  have hj := gJ_ok op rb hn
  have hh := gH_hd op rb hn h0 h1
  have hin := Hd_in hj h0 h1 hh
  have hic : ∀ i : Nat, i < n → 1 ≤ co (op i) ∧ co (op i) ≤ 9 := fun i hi => by
    have := hop i (by omega) (by omega)
    exact hco _ (by omega) (by omega)
  refine ⟨hin, Hd_unique (gH_hd op rb hn hin.1 hin.2) (Hd_self hh), ?_, ?_⟩
  · refine bcF_pos n hic ⟨(gla op rb n b).toNat, ?_, ?_⟩
    · have := gla_in h0 h1; omega
    · have a := gla_in h0 h1
      rw [Int.toNat_of_nonneg a.1]
      exact laF_cnt (lm0 op rb n) n b h0 h1
  · have := (bcF_in (ic := fun i => co (op i)) (bl := gblk op rb n) (b := b) n hic).2
    show bcF (fun i => co (op i)) _ n b ≤ 216
    omega
end
section
/-! the class: run, needed budget, register -/
theorem OP_of {op ra rb : FI} {n : Nat} (h : WFP op ra rb n) : OPok op rb n := by
  intro i h0 h1
  obtain ⟨a1, a2, a3, a4, a5⟩ := h i h0 h1
  refine ⟨a1.1, a1.2, ⟨by omega, by omega⟩, fun hj => ?_⟩
  have := of_decide_eq_true hj
  exact a5 (by omega)
/-- the class's own cells hold a program of n instructions with its control flow and its prices -/
def CP (Z : ZW) (n : Nat) : Prop := n ≤ 24 ∧ Z 4 0 = n ∧ WFP (Z 5) (Z 6) (Z 7) n ∧ COk (Z 8) ∧ GP (Z 5) (Z 7) n Z ∧ PP (Z 8) (Z 5) (Z 7) n Z ∧ ∀ i, 0 ≤ i → i < (24 : Int) → Z 28 i = 0
def ent (co op rb : FI) (n : Nat) (m : Int) : FI := if m = 0 then (fun _ => 0) else if m = 1 then gBE co op rb n else gCE co op rb n
def RN (co op ra rb : FI) (n : Nat) (m bu : Int) : RES := rn n op ra rb (fun i => co (op i)) (ent co op rb n m) 3000 0 0 false bu 0 (fun _ => 0)
theorem beF_in {st V : FI} {B : Int} (hB : 0 ≤ B) : ∀ (t : Nat) (i : Int), (∀ b : Nat, b < t → 0 ≤ V b ∧ V b ≤ B) → 0 ≤ beF st V t i ∧ beF st V t i ≤ B := by
  intro t
  induction t with
  | zero => intro i _; exact ⟨Int.le_refl _, hB⟩
  | succ t ih =>
    intro i h
    unfold beF
    split
    · exact h t (by omega)
    · exact ih i (fun b hb => h b (by omega))
theorem ccF_in {H C : FI} {h : Int} : ∀ (t : Nat), (∀ i : Nat, i < t → 1 ≤ C i ∧ C i ≤ 216) → 0 ≤ ccF H C t h ∧ ccF H C t h ≤ 216 * t := by
  intro t
  induction t with
  | zero => intro _; exact ⟨Int.le_refl _, Int.le_refl _⟩
  | succ t ih =>
    intro h
    have a := ih (fun i hi => h i (by omega))
    have c := h t (by omega)
    unfold ccF
    split <;> omega
theorem ent_in {co op rb : FI} {n : Nat} (hn : n ≤ 24) (hop : OPok op rb n) (hco : COk co) (m i : Int) : 0 ≤ ent co op rb n m i ∧ ent co op rb n m i ≤ 10000 := by
  have g := gok hn hop hco
  have hnb := gnb_le op rb n
  have hc : ∀ b : Nat, b < gnb op rb n → 1 ≤ gC co op rb n b ∧ gC co op rb n b ≤ 216 := fun b hb => (g b (by omega) (by omega)).2.2
  unfold ent
  split
  · exact ⟨Int.le_refl _, show (0 : Int) ≤ 10000 by decide⟩
  · split
    · have := beF_in (st := gst op rb n) (V := gC co op rb n) (B := 10000) (by decide) (gnb op rb n) i (fun b hb => by have := hc b hb; omega)
      exact this
    · refine beF_in (st := gst op rb n) (V := fun b => if gH op rb n b = b then gK co op rb n (gH op rb n b) else 0) (B := 10000) (by decide) (gnb op rb n) i (fun b hb => ?_)
      show 0 ≤ (if gH op rb n b = b then gK co op rb n (gH op rb n b) else 0) ∧ (if gH op rb n b = b then gK co op rb n (gH op rb n b) else 0) ≤ 10000
      split
      · have := ccF_in (H := gH op rb n) (C := gC co op rb n) (h := gH op rb n b) (gnb op rb n) hc
        unfold gK
        omega
      · decide
theorem rn_congr {n : Nat} {op ra rb ic en op' ra' rb' ic' en' : FI} (h : ∀ i, 0 ≤ i → i < (n : Int) → op i = op' i ∧ ra i = ra' i ∧ rb i = rb' i ∧ ic i = ic' i ∧ en i = en' i) : ∀ (d s : Nat) (a : Int) (p : Bool) (r c : Int) (v : FI), rn n op ra rb ic en d s a p r c v = rn n op' ra' rb' ic' en' d s a p r c v := by
  intro d
  induction d with
  | zero => intro s a p r c v; rfl
  | succ d ih =>
    intro s a p r c v
    unfold rn
    by_cases ha : 0 ≤ a ∧ a < (n : Int)
    · obtain ⟨e1, e2, e3, e4, e5⟩ := h a ha.1 ha.2
      simp only [e1, e2, e3, e4, e5, ih]
    · rw [if_neg ha, if_neg ha]
theorem if_P {P : RES → Prop} {c : Prop} [Decidable c] {a b : RES} (ha : P a) (hb : P b) : P (if c then a else b) := by
  split
  · exact ha
  · exact hb
theorem rn_st {n : Nat} {op ra rb ic en : FI} : ∀ (d s : Nat) (a : Int) (p : Bool) (r c : Int) (v : FI), (fun q : RES => 0 ≤ q.1 ∧ q.1 ≤ 2) (rn n op ra rb ic en d s a p r c v) := by
  have z : ∀ (x : Int × Int × Int × Int × FI) (y : Int), 0 ≤ y → y ≤ 2 → (fun q : RES => 0 ≤ q.1 ∧ q.1 ≤ 2) (y, x) := fun x y h1 h2 => ⟨h1, h2⟩
  intro d
  induction d with
  | zero => intro s a p r c v; exact if_P (P := fun q : RES => 0 ≤ q.1 ∧ q.1 ≤ 2) (z _ _ (by decide) (by decide)) (z _ _ (by decide) (by decide))
  | succ d ih =>
    intro s a p r c v
    exact if_P (P := fun q : RES => 0 ≤ q.1 ∧ q.1 ≤ 2) (if_P (P := fun q : RES => 0 ≤ q.1 ∧ q.1 ≤ 2) (ih _ _ _ _ _ _) (if_P (P := fun q : RES => 0 ≤ q.1 ∧ q.1 ≤ 2) (ih _ _ _ _ _ _) (z _ _ (by decide) (by decide)))) (z _ _ (by decide) (by decide))
theorem CP_c {Z : ZW} {n : Nat} (h : CP Z n) : ∀ i, 0 ≤ i → i < (n : Int) → (0 ≤ Z 27 i ∧ Z 27 i ≤ 9) ∧ (0 ≤ Z 28 i ∧ Z 28 i ≤ 10000) ∧ (0 ≤ Z 29 i ∧ Z 29 i ≤ 10000) ∧ (0 ≤ Z 30 i ∧ Z 30 i ≤ 10000) := by
  obtain ⟨h1, h2, h3, h4, h5, h6, h7⟩ := h
  intro i i0 i1
  obtain ⟨a1, a2, a3⟩ := h6.1 i i0 i1
  have b1 := h7 i i0 (by omega)
  have c1 := ent_in h1 (OP_of h3) h4 1 i
  have c2 := ent_in h1 (OP_of h3) h4 2 i
  have d1 := h4 (Z 5 i) (h3 i i0 i1).1.1 (by have := (h3 i i0 i1).1.2; omega)
  rw [a1, a2, a3, b1]
  exact ⟨by omega, by decide, c1, c2⟩
theorem CP_rn {Z : ZW} {n : Nat} (h : CP Z n) (bu : Int) : rn n (Z 5) (Z 6) (Z 7) (Z 27) (Z 28) 3000 0 0 false bu 0 (fun _ => 0) = RN (Z 8) (Z 5) (Z 6) (Z 7) n 0 bu ∧ rn n (Z 5) (Z 6) (Z 7) (Z 27) (Z 29) 3000 0 0 false bu 0 (fun _ => 0) = RN (Z 8) (Z 5) (Z 6) (Z 7) n 1 bu ∧ rn n (Z 5) (Z 6) (Z 7) (Z 27) (Z 30) 3000 0 0 false bu 0 (fun _ => 0) = RN (Z 8) (Z 5) (Z 6) (Z 7) n 2 bu := by
  obtain ⟨h1, h2, h3, h4, h5, h6, h7⟩ := h
  refine ⟨rn_congr (fun i i0 i1 => ⟨rfl, rfl, rfl, (h6.1 i i0 i1).1, ?_⟩) _ _ _ _ _ _ _, rn_congr (fun i i0 i1 => ⟨rfl, rfl, rfl, (h6.1 i i0 i1).1, ?_⟩) _ _ _ _ _ _ _, rn_congr (fun i i0 i1 => ⟨rfl, rfl, rfl, (h6.1 i i0 i1).1, ?_⟩) _ _ _ _ _ _ _⟩
  · exact h7 i i0 (by omega)
  · exact (h6.1 i i0 i1).2.1
  · exact (h6.1 i i0 i1).2.2
theorem s_register {Z : ZW} {J : Int64} {x : Int} (hx : RG x) : D 86 [.ref 0, .int (I x)] Z J (some (.int (I (if 0 ≤ x ∧ x < 4 then Z 60 x else 0)))) Z J := by
  unfold D Mz
  refine z_aload_n rfl rfl ?_
  refine z_getR rfl rfl rfl rfl ?_
  refine z_iload_n rfl rfl ?_
  refine z_callV1 rfl rfl rfl rfl rfl rfl (s_valueOf_59 hx) ?_
  exact z_iret rfl rfl ⟨rfl, rfl, rfl⟩
theorem s_run_bad {Z : ZW} {J : Int64} {m bu : Int} (hm : RG m) (hb : RG bu) (h : ¬ ((0 ≤ m ∧ m ≤ 2) ∧ 0 ≤ bu ∧ bu ≤ 30000)) : D 82 [.ref 0, .int (I m), .int (I bu)] Z J (some (.int (I (-2)))) (rf Z (-2)) J := by
  unfold D Mz
  refine z_iload_n rfl rfl ?_
  refine z_if_lt rfl (by omega) (fun h1 => ?_) (fun h1 => ?_)
  · refine z_aload_n rfl rfl ?_
    refine z_bipush rfl (by decide) ?_
    refine z_callV1 rfl rfl rfl rfl rfl rfl (s_refuse (by omega)) ?_
    exact z_iret rfl rfl ⟨rfl, rfl, rfl⟩
  · refine z_iload_n rfl rfl ?_
    refine z_iconst rfl ?_
    refine z_icmp_gt rfl (by omega) (by omega) (fun h6 => ?_) (fun h6 => ?_)
    · refine z_aload_n rfl rfl ?_
      refine z_bipush rfl (by decide) ?_
      refine z_callV1 rfl rfl rfl rfl rfl rfl (s_refuse (by omega)) ?_
      exact z_iret rfl rfl ⟨rfl, rfl, rfl⟩
    · refine z_iload_n rfl rfl ?_
      refine z_if_lt rfl (by omega) (fun h10 => ?_) (fun h10 => ?_)
      · refine z_aload_n rfl rfl ?_
        refine z_bipush rfl (by decide) ?_
        refine z_callV1 rfl rfl rfl rfl rfl rfl (s_refuse (by omega)) ?_
        exact z_iret rfl rfl ⟨rfl, rfl, rfl⟩
      · refine z_iload_n rfl rfl ?_
        refine z_sipush rfl (by decide) ?_
        refine z_icmp_le rfl (by omega) (by omega) (fun h17 => ?_) (fun h17 => ?_)
        · exfalso; omega
        · refine z_aload_n rfl rfl ?_
          refine z_bipush rfl (by decide) ?_
          refine z_callV1 rfl rfl rfl rfl rfl rfl (s_refuse (by omega)) ?_
          exact z_iret rfl rfl ⟨rfl, rfl, rfl⟩
theorem s_run_0 {Z : ZW} {J : Int64} {n : Nat} {bu : Int} (hc : CP Z n) (hb : 0 ≤ bu ∧ bu ≤ 30000) : Mz 82 [.ref 0, .int (I 0), .int (I bu)] Z J (fun r Z' J' => J' = J ∧ r = some (.int (I (RN (Z 8) (Z 5) (Z 6) (Z 7) n 0 bu).1)) ∧ PX_59 Z (RN (Z 8) (Z 5) (Z 6) (Z 7) n 0 bu) Z') := by
  unfold Mz
  have hcc := CP_c hc
  have hr := (CP_rn hc bu).1
  refine z_iload_n rfl rfl ?_
  refine z_if_lt rfl (by omega) (fun h1 => ?_) (fun h1 => ?_)
  · exfalso; omega
  · refine z_iload_n rfl rfl ?_
    refine z_iconst rfl ?_
    refine z_icmp_gt rfl (by omega) (by omega) (fun h6 => ?_) (fun h6 => ?_)
    · exfalso; omega
    · refine z_iload_n rfl rfl ?_
      refine z_if_lt rfl (by omega) (fun h10 => ?_) (fun h10 => ?_)
      · exfalso; omega
      · refine z_iload_n rfl rfl ?_
        refine z_sipush rfl (by decide) ?_
        refine z_icmp_le rfl (by omega) (by omega) (fun h17 => ?_) (fun h17 => ?_)
        · refine z_aload_n rfl rfl ?_
          refine z_getR rfl rfl rfl rfl ?_
          refine z_aload_n rfl rfl ?_
          refine z_getR rfl rfl rfl rfl ?_
          refine z_aload_n rfl rfl ?_
          refine z_getR rfl rfl rfl rfl ?_
          refine z_iload_n rfl rfl ?_
          refine z_iload_n rfl rfl ?_
          refine z_callV4g rfl rfl rfl rfl rfl rfl (s_exec_59_0 hc.2.1 hc.1 hc.2.2.1 (fun i i0 i1 => ⟨(hcc i i0 i1).1, (hcc i i0 i1).2.1⟩) hb) (fun r41 Z41 J41 q41 => ?_)
          obtain ⟨rfl, rfl, q⟩ := q41
          rw [hr] at q
          show OkZ none 82 44 _ [] _ _ _
          refine z_aload_n rfl rfl ?_
          refine z_getR rfl rfl rfl rfl ?_
          refine z_getI (bi := 0) rfl rfl rfl rfl ?_
          refine z_iret rfl rfl ⟨rfl, ?_, q⟩
          rw [q.1]
        · exfalso; omega
theorem s_run_1 {Z : ZW} {J : Int64} {n : Nat} {bu : Int} (hc : CP Z n) (hb : 0 ≤ bu ∧ bu ≤ 30000) : Mz 82 [.ref 0, .int (I 1), .int (I bu)] Z J (fun r Z' J' => J' = J ∧ r = some (.int (I (RN (Z 8) (Z 5) (Z 6) (Z 7) n 1 bu).1)) ∧ PX_59 Z (RN (Z 8) (Z 5) (Z 6) (Z 7) n 1 bu) Z') := by
  unfold Mz
  have hcc := CP_c hc
  have hr := (CP_rn hc bu).2.1
  refine z_iload_n rfl rfl ?_
  refine z_if_lt rfl (by omega) (fun h1 => ?_) (fun h1 => ?_)
  · exfalso; omega
  · refine z_iload_n rfl rfl ?_
    refine z_iconst rfl ?_
    refine z_icmp_gt rfl (by omega) (by omega) (fun h6 => ?_) (fun h6 => ?_)
    · exfalso; omega
    · refine z_iload_n rfl rfl ?_
      refine z_if_lt rfl (by omega) (fun h10 => ?_) (fun h10 => ?_)
      · exfalso; omega
      · refine z_iload_n rfl rfl ?_
        refine z_sipush rfl (by decide) ?_
        refine z_icmp_le rfl (by omega) (by omega) (fun h17 => ?_) (fun h17 => ?_)
        · refine z_aload_n rfl rfl ?_
          refine z_getR rfl rfl rfl rfl ?_
          refine z_aload_n rfl rfl ?_
          refine z_getR rfl rfl rfl rfl ?_
          refine z_aload_n rfl rfl ?_
          refine z_getR rfl rfl rfl rfl ?_
          refine z_iload_n rfl rfl ?_
          refine z_iload_n rfl rfl ?_
          refine z_callV4g rfl rfl rfl rfl rfl rfl (s_exec_59_1 hc.2.1 hc.1 hc.2.2.1 (fun i i0 i1 => ⟨(hcc i i0 i1).1, (hcc i i0 i1).2.2.1⟩) hb) (fun r41 Z41 J41 q41 => ?_)
          obtain ⟨rfl, rfl, q⟩ := q41
          rw [hr] at q
          show OkZ none 82 44 _ [] _ _ _
          refine z_aload_n rfl rfl ?_
          refine z_getR rfl rfl rfl rfl ?_
          refine z_getI (bi := 0) rfl rfl rfl rfl ?_
          refine z_iret rfl rfl ⟨rfl, ?_, q⟩
          rw [q.1]
        · exfalso; omega
theorem s_run_2 {Z : ZW} {J : Int64} {n : Nat} {bu : Int} (hc : CP Z n) (hb : 0 ≤ bu ∧ bu ≤ 30000) : Mz 82 [.ref 0, .int (I 2), .int (I bu)] Z J (fun r Z' J' => J' = J ∧ r = some (.int (I (RN (Z 8) (Z 5) (Z 6) (Z 7) n 2 bu).1)) ∧ PX_59 Z (RN (Z 8) (Z 5) (Z 6) (Z 7) n 2 bu) Z') := by
  unfold Mz
  have hcc := CP_c hc
  have hr := (CP_rn hc bu).2.2
  refine z_iload_n rfl rfl ?_
  refine z_if_lt rfl (by omega) (fun h1 => ?_) (fun h1 => ?_)
  · exfalso; omega
  · refine z_iload_n rfl rfl ?_
    refine z_iconst rfl ?_
    refine z_icmp_gt rfl (by omega) (by omega) (fun h6 => ?_) (fun h6 => ?_)
    · exfalso; omega
    · refine z_iload_n rfl rfl ?_
      refine z_if_lt rfl (by omega) (fun h10 => ?_) (fun h10 => ?_)
      · exfalso; omega
      · refine z_iload_n rfl rfl ?_
        refine z_sipush rfl (by decide) ?_
        refine z_icmp_le rfl (by omega) (by omega) (fun h17 => ?_) (fun h17 => ?_)
        · refine z_aload_n rfl rfl ?_
          refine z_getR rfl rfl rfl rfl ?_
          refine z_aload_n rfl rfl ?_
          refine z_getR rfl rfl rfl rfl ?_
          refine z_aload_n rfl rfl ?_
          refine z_getR rfl rfl rfl rfl ?_
          refine z_iload_n rfl rfl ?_
          refine z_iload_n rfl rfl ?_
          refine z_callV4g rfl rfl rfl rfl rfl rfl (s_exec_59_2 hc.2.1 hc.1 hc.2.2.1 (fun i i0 i1 => ⟨(hcc i i0 i1).1, (hcc i i0 i1).2.2.2⟩) hb) (fun r41 Z41 J41 q41 => ?_)
          obtain ⟨rfl, rfl, q⟩ := q41
          rw [hr] at q
          show OkZ none 82 44 _ [] _ _ _
          refine z_aload_n rfl rfl ?_
          refine z_getR rfl rfl rfl rfl ?_
          refine z_getI (bi := 0) rfl rfl rfl rfl ?_
          refine z_iret rfl rfl ⟨rfl, ?_, q⟩
          rw [q.1]
        · exfalso; omega
theorem s_run {Z : ZW} {J : Int64} {n : Nat} {m bu : Int} (hc : CP Z n) (hm : 0 ≤ m ∧ m ≤ 2) (hb : 0 ≤ bu ∧ bu ≤ 30000) : Mz 82 [.ref 0, .int (I m), .int (I bu)] Z J (fun r Z' J' => J' = J ∧ r = some (.int (I (RN (Z 8) (Z 5) (Z 6) (Z 7) n m bu).1)) ∧ PX_59 Z (RN (Z 8) (Z 5) (Z 6) (Z 7) n m bu) Z') := by
  have h : m = 0 ∨ m = 1 ∨ m = 2 := by omega
  rcases h with rfl | rfl | rfl
  · exact s_run_0 hc hb
  · exact s_run_1 hc hb
  · exact s_run_2 hc hb
theorem s_needed {Z : ZW} {J : Int64} {n : Nat} (hc : CP Z n) : Mz 90 [.ref 0] Z J (fun r Z' J' => J' = J ∧ r = some (.int (I (if (RN (Z 8) (Z 5) (Z 6) (Z 7) n 0 30000).1 = 0 then 30000 - (RN (Z 8) (Z 5) (Z 6) (Z 7) n 0 30000).2.2.1 else -1))) ∧ PX_61 Z (RN (Z 8) (Z 5) (Z 6) (Z 7) n 0 30000) Z') := by
  unfold Mz
  have hcc := CP_c hc
  have hr := (CP_rn hc 30000).1
  have hst : 0 ≤ (RN (Z 8) (Z 5) (Z 6) (Z 7) n 0 30000).1 ∧ (RN (Z 8) (Z 5) (Z 6) (Z 7) n 0 30000).1 ≤ 2 := rn_st _ _ _ _ _ _ _
  refine z_aload_n rfl rfl ?_
  refine z_getR rfl rfl rfl rfl ?_
  refine z_aload_n rfl rfl ?_
  refine z_getR rfl rfl rfl rfl ?_
  refine z_aload_n rfl rfl ?_
  refine z_getR rfl rfl rfl rfl ?_
  refine z_iconst rfl ?_
  refine z_sipush rfl (by decide) ?_
  refine z_callV4g rfl rfl rfl rfl rfl rfl (s_exec_61_0 hc.2.1 hc.1 hc.2.2.1 (fun i i0 i1 => ⟨(hcc i i0 i1).1, (hcc i i0 i1).2.1⟩) (by decide)) (fun r16 Z16 J16 q16 => ?_)
  obtain ⟨rfl, rfl, q⟩ := q16
  rw [hr] at q
  have q1 := q.1
  show OkZ none 90 19 _ [] _ _ _
  refine z_aload_n rfl rfl ?_
  refine z_getR rfl rfl rfl rfl ?_
  refine z_getI (bi := 0) rfl rfl rfl rfl ?_
  refine z_if_ne rfl (by omega) (fun h26 => ?_) (fun h26 => ?_)
  · refine z_iconst rfl ?_
    refine z_iret rfl rfl ⟨rfl, ?_, q⟩
    rw [if_neg (by omega)]
  · refine z_sipush rfl (by decide) ?_
    refine z_aload_n rfl rfl ?_
    refine z_getR rfl rfl rfl rfl ?_
    refine z_getI (bi := 2) rfl rfl rfl rfl ?_
    refine z_isub rfl ?_
    refine z_goto rfl ?_
    refine z_iret rfl rfl ⟨rfl, ?_, q⟩
    rw [if_pos (by omega), q.2.2.1]
end
section
/-! the class: assemble, setCost, undo -/
theorem b_nf {b : Bool} (h : ¬ b = false) : b = true := by
  cases b
  · exact absurd rfl h
  · rfl
theorem up_upd {Z : ZW} {k : Nat} {x c : Int} : up Z k x c k = updF (Z k) x c := by
  funext j
  unfold up updF
  by_cases h : j = x
  · rw [if_pos ⟨rfl, h⟩, if_pos h]
  · rw [if_neg (fun q => h q.2), if_neg h]
theorem PV_in {most v p2 nx : Int} {ng : Bool} (hv : 0 ≤ v) (h : (PV most ng v p2 nx).1 = true) : (-most ≤ (PV most ng v p2 nx).2.1 ∧ (PV most ng v p2 nx).2.1 ≤ most) ∧ (ng = false → 0 ≤ (PV most ng v p2 nx).2.1) := by
  unfold PV at h ⊢
  by_cases hm : most < v
  · rw [if_pos hm] at h; cases h
  · rw [if_neg hm]
    show (-most ≤ (if ng then -v else v) ∧ (if ng then -v else v) ≤ most) ∧ (ng = false → 0 ≤ (if ng then -v else v))
    cases ng with
    | true => exact ⟨by simp only [if_true]; omega, fun q => by cases q⟩
    | false => exact ⟨by simp only [Bool.false_eq_true, if_false]; omega, fun _ => hv⟩
theorem PD_in {cu : FI} {most p : Int} {ng : Bool} (h : (PD cu most ng p).1 = true) : (-most ≤ (PD cu most ng p).2.1 ∧ (PD cu most ng p).2.1 ≤ most) ∧ (ng = false → 0 ≤ (PD cu most ng p).2.1) := by
  unfold PD at h ⊢
  by_cases d0 : dgB cu p = false
  · rw [if_pos d0] at h; cases h
  · rw [if_neg d0] at h ⊢
    have e0 := of_decide_eq_true (b_nf d0)
    by_cases d1 : dgB cu (p + 1) = false
    · rw [if_pos d1] at h ⊢
      exact PV_in (by omega) h
    · rw [if_neg d1] at h ⊢
      have e1 := of_decide_eq_true (b_nf d1)
      by_cases d2 : dgB cu (p + 2) = false
      · rw [if_pos d2] at h ⊢
        exact PV_in (by omega) h
      · rw [if_neg d2] at h; cases h
theorem PN_in {cu : FI} {len most p : Int} {sg : Bool} (h : (PN cu len most sg p).1 = true) : (-most ≤ (PN cu len most sg p).2.1 ∧ (PN cu len most sg p).2.1 ≤ most) ∧ (sg = false → 0 ≤ (PN cu len most sg p).2.1) := by
  unfold PN at h ⊢
  by_cases hs : (sg && decide (cu (skp cu len p) = 45)) = true
  · rw [if_pos hs] at h ⊢
    refine ⟨(PD_in h).1, fun q => ?_⟩
    rw [q] at hs
    cases hs
  · rw [if_neg hs] at h ⊢
    exact ⟨(PD_in h).1, fun _ => (PD_in h).2 rfl⟩
theorem QI_ok {cu : FI} {len n p : Int} (h : (QI cu len n p).1 = true) : (0 ≤ opc (cu p) ∧ opc (cu p) ≤ 7) ∧ n < 24 ∧ (0 ≤ (QA cu len p).2.1 ∧ (QA cu len p).2.1 ≤ 3) ∧ (-99 ≤ (QB cu len p).2.1 ∧ (QB cu len p).2.1 ≤ 99) ∧ ((opc (cu p) = 2 ∨ opc (cu p) = 3) → 0 ≤ (QB cu len p).2.1 ∧ (QB cu len p).2.1 ≤ 3) ∧ (4 ≤ opc (cu p) → 0 ≤ (QB cu len p).2.1 ∧ (QB cu len p).2.1 ≤ 24) := by
  have ho := opc_in (cu p)
  unfold QI at h
  by_cases h1 : opc (cu p) = -1 ∨ 24 ≤ n
  · rw [if_pos h1] at h; cases h
  · rw [if_neg h1] at h
    unfold QC at h
    by_cases hb : (QB cu len p).1 = true
    · have hb' := hb
      unfold QB at hb'
      by_cases ha : (QA cu len p).1 = true
      · have hA : 0 ≤ (QA cu len p).2.1 ∧ (QA cu len p).2.1 ≤ 3 := by
          unfold QA at ha ⊢
          by_cases hj : opc (cu p) = 4 ∨ opc (cu p) = 7
          · rw [if_pos hj]; exact ⟨Int.le_refl _, show (0 : Int) ≤ 3 by decide⟩
          · rw [if_neg hj] at ha ⊢
            exact ⟨(PN_in ha).2 rfl, (PN_in ha).1.2⟩
        rw [if_pos ha] at hb'
        have hB : (QB cu len p).2.1 = (if opc (cu p) = 7 then (true, 0, (QA cu len p).2.2) else PN cu len (mostO (opc (cu p))) (decide (opc (cu p) ≤ 1)) (QA cu len p).2.2).2.1 := by
          rw [QB, if_pos ha]
        rw [hB]
        by_cases h7 : opc (cu p) = 7
        · rw [if_pos h7]
          exact ⟨by omega, by omega, hA, ⟨show (-99 : Int) ≤ 0 by decide, show (0 : Int) ≤ 99 by decide⟩, fun q => ⟨Int.le_refl _, show (0 : Int) ≤ 3 by decide⟩, fun q => ⟨Int.le_refl _, show (0 : Int) ≤ 24 by decide⟩⟩
        · rw [if_neg h7] at hb' ⊢
          have q := PN_in hb'
          have hmo : mostO (opc (cu p)) = (if opc (cu p) ≤ 1 then 99 else if opc (cu p) ≤ 3 then 3 else 24) := rfl
          by_cases h2 : opc (cu p) ≤ 1
          · rw [if_pos h2] at hmo
            exact ⟨by omega, by omega, hA, by omega, fun z => by omega, fun z => by omega⟩
          · rw [if_neg h2] at hmo
            have q2 := q.2 (decide_eq_false h2)
            by_cases h3 : opc (cu p) ≤ 3
            · rw [if_pos h3] at hmo
              exact ⟨by omega, by omega, hA, by omega, fun z => by omega, fun z => by omega⟩
            · rw [if_neg h3] at hmo
              exact ⟨by omega, by omega, hA, by omega, fun z => by omega, fun z => by omega⟩
      · rw [if_neg ha] at hb'; cases hb'
    · rw [if_neg hb] at h; cases h
theorem TR_wf {cu : FI} {len : Int} {n : Nat} (h : TRp cu len n) {op ra rb : FI} (he : ∀ j : Int, 0 ≤ j → j < (n : Int) → op j = prO cu len j ∧ ra j = prA cu len j ∧ rb j = prB cu len j) : WFP op ra rb n := by
  intro j j0 j1
  obtain ⟨e1, e2, e3⟩ := he j j0 j1
  obtain ⟨q1, q2, q3, q4, q5, q6⟩ := QI_ok (h j.toNat (by omega)).2
  rw [e1, e2, e3]
  exact ⟨q1, q3, q4, q5, q6⟩
theorem TR_unique {cu : FI} {len : Int} {n m : Nat} (h1 : TRok cu len n) (h2 : TRok cu len m) : n = m := by
  rcases Nat.lt_trichotomy n m with q | q | q
  · exact absurd h1.2 (h2.1 n q).1
  · exact q
  · exact absurd h2.2 (h1.1 m q).1
theorem TR_bad {cu : FI} {len e : Int} {n : Nat} (h1 : TRok cu len n) (h2 : TRbad cu len e) : False := by
  obtain ⟨m, a1, a2, a3⟩ := h2
  rcases Nat.lt_trichotomy n m with q | q | q
  · exact absurd h1.2 (a1 n q).1
  · rw [q] at h1; exact a2 h1.2
  · have := (h1.1 m q).2
    rw [a3] at this
    cases this
theorem TR_bad2 {cu : FI} {len e f : Int} (h1 : TRbad cu len e) (h2 : TRbad cu len f) : e = f := by
  obtain ⟨n, a1, a2, a3⟩ := h1
  obtain ⟨m, b1, b2, b3⟩ := h2
  rcases Nat.lt_trichotomy n m with q | q | q
  · have := (b1 n q).2
    rw [a3] at this
    cases this
  · rw [q, b3] at a3
    exact (congrArg Prod.snd a3).symm
  · have := (a1 m q).2
    rw [b3] at this
    cases this
def SV (Z Z' : ZW) : Prop := Cp Z Z' (34 + 5 * (Z 32 1).toNat) 4 ∧ Z' 32 0 = (if Z 32 0 < 5 then Z 32 0 + 1 else 5) ∧ Z' 32 1 = (if Z 32 1 + 1 < 5 then Z 32 1 + 1 else 0)
def HB (Z : ZW) : Prop := (0 ≤ Z 32 1 ∧ Z 32 1 < 5) ∧ 0 ≤ Z 32 0 ∧ Z 32 0 ≤ 5
theorem GP_of {op rb : FI} {n : Nat} {Z Z' : ZW} (h : GP op rb n Z) (e : ∀ (k : Nat) (j : Int), (14 ≤ k ∧ k ≤ 20) → Z' k j = Z k j) : GP op rb n Z' := by
  unfold GP
  rw [e 14 0 (by decide), e 14 1 (by decide)]
  refine ⟨h.1, h.2.1, fun i i0 i1 => ?_, fun b b0 b1 => ?_⟩
  · rw [e 15 i (by decide)]; exact h.2.2.1 i i0 i1
  · rw [e 16 b (by decide), e 17 b (by decide), e 18 b (by decide), e 19 b (by decide), e 20 b (by decide), enB_congr (e 14 (8 + b) (by decide))]; exact h.2.2.2 b b0 b1
theorem s_setCost_bad {Z : ZW} {J : Int64} {x c : Int} (hx : RG x) (hc : RG c) (h : ¬ ((0 ≤ x ∧ x < 8) ∧ 1 ≤ c ∧ c ≤ 9)) : D 71 [.ref 0, .int (I x), .int (I c)] Z J (some (.int (I (-2)))) (rf Z (-2)) J := by
  unfold D Mz
  refine z_iload_n rfl rfl ?_
  refine z_if_lt rfl (by omega) (fun h1 => ?_) (fun h1 => ?_)
  · refine z_aload_n rfl rfl ?_
    refine z_bipush rfl (by decide) ?_
    refine z_callV1 rfl rfl rfl rfl rfl rfl (s_refuse (by omega)) ?_
    exact z_iret rfl rfl ⟨rfl, rfl, rfl⟩
  · refine z_iload_n rfl rfl ?_
    refine z_bipush rfl (by decide) ?_
    refine z_icmp_ge rfl (by omega) (by omega) (fun h7 => ?_) (fun h7 => ?_)
    · refine z_aload_n rfl rfl ?_
      refine z_bipush rfl (by decide) ?_
      refine z_callV1 rfl rfl rfl rfl rfl rfl (s_refuse (by omega)) ?_
      exact z_iret rfl rfl ⟨rfl, rfl, rfl⟩
    · refine z_iload_n rfl rfl ?_
      refine z_iconst rfl ?_
      refine z_icmp_lt rfl (by omega) (by omega) (fun h12 => ?_) (fun h12 => ?_)
      · refine z_aload_n rfl rfl ?_
        refine z_bipush rfl (by decide) ?_
        refine z_callV1 rfl rfl rfl rfl rfl rfl (s_refuse (by omega)) ?_
        exact z_iret rfl rfl ⟨rfl, rfl, rfl⟩
      · refine z_iload_n rfl rfl ?_
        refine z_bipush rfl (by decide) ?_
        refine z_icmp_le rfl (by omega) (by omega) (fun h18 => ?_) (fun h18 => ?_)
        · exfalso; omega
        · refine z_aload_n rfl rfl ?_
          refine z_bipush rfl (by decide) ?_
          refine z_callV1 rfl rfl rfl rfl rfl rfl (s_refuse (by omega)) ?_
          exact z_iret rfl rfl ⟨rfl, rfl, rfl⟩
theorem s_setCost {Z : ZW} {J : Int64} {n : Nat} {x c : Int} (hp : CP Z n) (hh : HB Z) (hx : 0 ≤ x ∧ x < 8) (hc : 1 ≤ c ∧ c ≤ 9) : Mz 71 [.ref 0, .int (I x), .int (I c)] Z J (fun r Z' J' => J' = J ∧ r = (some (.int (I (Z 8 x)))) ∧ SV Z Z' ∧ CP Z' n ∧ Z' 5 = Z 5 ∧ Z' 6 = Z 6 ∧ Z' 7 = Z 7 ∧ Z' 8 = updF (Z 8) x c ∧ ∀ (k : Nat) (j : Int), (k < 4 ∨ 8 < k) → (k < 24 ∨ 31 < k) → k ≠ 32 → (k < 34 + 5 * (Z 32 1).toNat ∨ 38 + 5 * (Z 32 1).toNat < k) → Z' k j = Z k j) := by
  unfold Mz
  obtain ⟨p1, p2, p3, p4, p5, p6, p7⟩ := hp
  obtain ⟨a, ea⟩ : ∃ a, a = 34 + 5 * (Z 32 1).toNat := ⟨_, rfl⟩
  have hco : COk (updF (Z 8) x c) := by
    intro y y0 y1
    unfold updF
    split
    · exact hc
    · exact p4 y y0 y1
  refine z_iload_n rfl rfl ?_
  refine z_if_lt rfl (by omega) (fun h1 => ?_) (fun h1 => ?_)
  · exfalso; omega
  · refine z_iload_n rfl rfl ?_
    refine z_bipush rfl (by decide) ?_
    refine z_icmp_ge rfl (by omega) (by omega) (fun h7 => ?_) (fun h7 => ?_)
    · exfalso; omega
    · refine z_iload_n rfl rfl ?_
      refine z_iconst rfl ?_
      refine z_icmp_lt rfl (by omega) (by omega) (fun h12 => ?_) (fun h12 => ?_)
      · exfalso; omega
      · refine z_iload_n rfl rfl ?_
        refine z_bipush rfl (by decide) ?_
        refine z_icmp_le rfl (by omega) (by omega) (fun h18 => ?_) (fun h18 => ?_)
        · refine z_aload_n rfl rfl ?_
          refine z_getR rfl rfl rfl rfl ?_
          refine z_aload_n rfl rfl ?_
          refine z_getR rfl rfl rfl rfl ?_
          refine z_callV1g rfl rfl rfl rfl rfl rfl (s_save hh.1 hh.2) (fun r36 Z36 J36 q36 => ?_)
          obtain ⟨rfl, rfl, w1, w2, w3, w4⟩ := q36
          have f : ∀ k, 4 ≤ k ∧ k ≤ 31 → Z36 k = Z k := fun k hk => funext fun j => w4 k j (by omega) (by omega)
          show OkZ none 71 39 _ [] _ _ _
          refine z_aload_n rfl rfl ?_
          refine z_getR rfl rfl rfl rfl ?_
          refine z_getR rfl rfl rfl rfl ?_
          refine z_iload_n rfl rfl ?_
          refine z_iald rfl rfl (by omega) ?_
          rw [f 8 (by decide)]
          refine z_istore_n rfl rfl rfl ?_
          refine z_aload_n rfl rfl ?_
          refine z_getR rfl rfl rfl rfl ?_
          refine z_getR rfl rfl rfl rfl ?_
          refine z_iload_n rfl rfl ?_
          refine z_iload_n rfl rfl ?_
          refine z_iast rfl rfl (by omega) ?_
          refine z_aload_n rfl rfl ?_
          refine z_getR rfl rfl rfl rfl ?_
          refine z_aload_n rfl rfl ?_
          refine z_getR rfl rfl rfl rfl ?_
          refine z_aload_n rfl rfl ?_
          refine z_getR rfl rfl rfl rfl ?_
          have g8 : up Z36 8 x c 8 = updF (Z 8) x c := by rw [up_upd, f 8 (by decide)]
          have gk : ∀ k, k ≠ 8 → 4 ≤ k ∧ k ≤ 31 → up Z36 8 x c k = Z k := fun k hk hk2 => by rw [← f k hk2]; exact funext fun j => up_ne hk
          refine z_callV2g rfl rfl rfl rfl rfl rfl (s_pupdate (op := Z 5) (rb := Z 7) (co := updF (Z 8) x c) (gk 5 (by decide) (by decide)) g8 (by rw [gk 4 (by decide) (by decide)]; exact p2) p1 (OP_of p3) (GP_of p5 (fun k j hk => by rw [gk k (by omega) (by omega)])) (gok p1 (OP_of p3) hco)) (fun r71 Z71 J71 q71 => ?_)
          obtain ⟨rfl, rfl, v1, v2⟩ := q71
          show OkZ none 71 74 _ [] _ _ _
          refine z_iload_n rfl rfl ?_
          have u : ∀ k, k ≠ 8 → 4 ≤ k ∧ k < 24 ∨ k = 28 → Z71 k = Z k := fun k h1 h2 => by rw [← gk k h1 (by omega)]; exact funext fun j => v2 k j (by omega)
          have u8 : Z71 8 = updF (Z 8) x c := by rw [← g8]; exact funext fun j => v2 8 j (by decide)
          have uo : ∀ (k : Nat) (j : Int), 31 < k → Z71 k j = Z36 k j := fun k j hk => by rw [v2 k j (by omega), up_ne (by omega)]
          refine z_iret rfl rfl ⟨rfl, rfl, ⟨⟨?_, fun j j0 j1 => ?_, fun j j0 j1 => ?_⟩, ?_, ?_⟩, ⟨p1, ?_, ?_, ?_, ?_, ?_, ?_⟩, ?_, ?_, ?_, u8, fun k j k1 k2 k3 k4 => ?_⟩
          · rw [uo _ _ (by omega)]; exact w1.1
          · rw [uo _ _ (by omega), uo _ _ (by omega), uo _ _ (by omega)]; exact w1.2.1 j j0 j1
          · rw [uo _ _ (by omega)]; exact w1.2.2 j j0 j1
          · rw [uo _ _ (by omega)]; exact w2
          · rw [uo _ _ (by omega)]; exact w3
          · rw [u 4 (by decide) (by decide)]; exact p2
          · rw [u 5 (by decide) (by decide), u 6 (by decide) (by decide), u 7 (by decide) (by decide)]; exact p3
          · rw [u8]; exact hco
          · rw [u 5 (by decide) (by decide), u 7 (by decide) (by decide)]; exact GP_of p5 (fun k j hk => by rw [u k (by omega) (by omega)])
          · rw [u8, u 5 (by decide) (by decide), u 7 (by decide) (by decide)]; exact v1
          · intro y y0 y1; rw [u 28 (by decide) (by decide)]; exact p7 y y0 y1
          · exact u 5 (by decide) (by decide)
          · exact u 6 (by decide) (by decide)
          · exact u 7 (by decide) (by decide)
          · rw [v2 k j (by omega), up_ne (by omega)]; exact w4 k j k3 k4
        · exfalso; omega
end
section
/-! the class: undo, assemble -/
def WFs (Z : ZW) (a n : Nat) : Prop := n ≤ 24 ∧ Z a 0 = n ∧ WFP (Z (a + 1)) (Z (a + 2)) (Z (a + 3)) n ∧ COk (Z (a + 4))
theorem WFP_congr {op ra rb op' ra' rb' : FI} {n : Nat} (h : WFP op ra rb n) (e : ∀ i, 0 ≤ i → i < (n : Int) → op' i = op i ∧ ra' i = ra i ∧ rb' i = rb i) : WFP op' ra' rb' n := by
  intro i i0 i1
  obtain ⟨e1, e2, e3⟩ := e i i0 i1
  rw [e1, e2, e3]
  exact h i i0 i1
theorem WFs_of {Z Z' : ZW} {a b n : Nat} (h : WFs Z b n) (c : Cp Z Z' a b) : WFs Z' a n := by
  obtain ⟨h1, h2, h3, h4⟩ := h
  obtain ⟨c1, c2, c3⟩ := c
  refine ⟨h1, by rw [c1]; exact h2, WFP_congr h3 (fun i i0 i1 => c2 i i0 (by omega)), fun y y0 y1 => ?_⟩
  rw [c3 y y0 y1]
  exact h4 y y0 y1
theorem s_undo0 {Z : ZW} {J : Int64} (h : Z 32 0 = 0) : D 91 [.ref 0] Z J (some (.int (I (-4)))) (rf Z (-4)) J := by
  unfold D Mz
  refine z_aload_n rfl rfl ?_
  refine z_getR rfl rfl rfl rfl ?_
  refine z_getI (bi := 0) rfl rfl rfl rfl ?_
  rw [h]
  refine z_if_ne rfl (by omega) (fun h7 => ?_) (fun h7 => ?_)
  · exact absurd rfl h7
  · refine z_aload_n rfl rfl ?_
    refine z_bipush rfl (by decide) ?_
    refine z_callV1 rfl rfl rfl rfl rfl rfl (s_refuse (by omega)) ?_
    exact z_iret rfl rfl ⟨rfl, rfl, rfl⟩
theorem s_undo {Z : ZW} {J : Int64} {n : Nat} {w : Int} (h28 : ∀ i, 0 ≤ i → i < (24 : Int) → Z 28 i = 0) (hh : HB Z) (h : 0 < Z 32 0) (hw : w = (if 0 < Z 32 1 then Z 32 1 - 1 else 4)) (hs : WFs Z (34 + 5 * w.toNat) n) : Mz 91 [.ref 0] Z J (fun r Z' J' => J' = J ∧ r = (some (.int (I (Z 32 0 - 1)))) ∧ Cp Z Z' 4 (34 + 5 * w.toNat) ∧ Z' 32 0 = Z 32 0 - 1 ∧ Z' 32 1 = w ∧ CP Z' n ∧ ∀ (k : Nat) (j : Int), (k < 4 ∨ 8 < k) → (k < 14 ∨ 31 < k) → k ≠ 32 → Z' k j = Z k j) := by
  unfold Mz
  have hh2 := hh.2
  refine z_aload_n rfl rfl ?_
  refine z_getR rfl rfl rfl rfl ?_
  refine z_getI (bi := 0) rfl rfl rfl rfl ?_
  refine z_if_ne rfl (by omega) (fun h7 => ?_) (fun h7 => ?_)
  · refine z_aload_n rfl rfl ?_
    refine z_getR rfl rfl rfl rfl ?_
    refine z_aload_n rfl rfl ?_
    refine z_getR rfl rfl rfl rfl ?_
    refine z_callV1g rfl rfl rfl rfl rfl rfl (s_restore hh.1 ⟨h, hh.2.2⟩ hw) (fun r25 Z25 J25 q25 => ?_)
    obtain ⟨rfl, rfl, w1, w2, w3, w4⟩ := q25
    have hz := WFs_of hs w1
    obtain ⟨z1, z2, z3, z4⟩ := hz
    show OkZ none 91 28 _ [] _ _ _
    refine z_aload_n rfl rfl ?_
    refine z_callV0g rfl rfl rfl rfl rfl rfl (s_analyse z2 z1 (OP_of z3) (gok z1 (OP_of z3) z4)) (fun r29 Z29 J29 q29 => ?_)
    obtain ⟨rfl, rfl, v1, v2, v3⟩ := q29
    show OkZ none 91 32 _ [] _ _ _
    refine z_aload_n rfl rfl ?_
    refine z_getR rfl rfl rfl rfl ?_
    refine z_getI (bi := 0) rfl rfl rfl rfl ?_
    rw [v3 32 0 (by decide), w2]
    have u : ∀ k, k < 14 ∨ k = 28 ∨ 31 < k → Z29 k = Z25 k := fun k hk => funext fun j => v3 k j hk
    refine z_iret rfl rfl ⟨rfl, rfl, ⟨?_, fun j j0 j1 => ?_, fun j j0 j1 => ?_⟩, ?_, ?_, ⟨z1, ?_, ?_, ?_, ?_, ?_, ?_⟩, fun k j k1 k2 k3 => ?_⟩
    · rw [u 4 (by decide)]; exact w1.1
    · rw [u (4 + 1) (by decide), u (4 + 2) (by decide), u (4 + 3) (by decide)]; exact w1.2.1 j j0 j1
    · rw [u (4 + 4) (by decide)]; exact w1.2.2 j j0 j1
    · rw [u 32 (by decide)]; exact w2
    · rw [u 32 (by decide)]; exact w3
    · rw [u 4 (by decide)]; exact z2
    · rw [u 5 (by decide), u 6 (by decide), u 7 (by decide)]; exact z3
    · rw [u 8 (by decide)]; exact z4
    · rw [u 5 (by decide), u 7 (by decide)]; exact v1
    · rw [u 5 (by decide), u 7 (by decide), u 8 (by decide)]; exact v2
    · intro y y0 y1; rw [u 28 (by decide), w4 28 y (by decide) (by decide)]; exact h28 y y0 y1
    · rw [u k (by omega)]; exact w4 k j k3 k1
  · exfalso; omega
set_option maxHeartbeats 1000000 in
theorem s_assemble {Z : ZW} {J : Int64} {n0 : Nat} (ht : TXT Z) (hp : CP Z n0) (hh : HB Z) : Mz 70 [.ref 0] Z J (fun r Z' J' => J' = J ∧ ((∃ e, (0 ≤ e ∧ e ≤ Z 1 0) ∧ r = (some (.int (I (-10 - e)))) ∧ TRbad (cuF (Z 2) (Z 1 0)) (Z 1 0) e ∧ ∀ (k : Nat) (j : Int), (k < 9 ∨ 12 < k) → ¬ (k = 3 ∧ (j = 1 ∨ j = 2)) → Z' k j = Z k j) ∨ ∃ n : Nat, r = (some (.int (I ((n : Int))))) ∧ TRok (cuF (Z 2) (Z 1 0)) (Z 1 0) n ∧ CP Z' n ∧ (∀ j : Int, 0 ≤ j → j < (n : Int) → Z' 5 j = prO (cuF (Z 2) (Z 1 0)) (Z 1 0) j ∧ Z' 6 j = prA (cuF (Z 2) (Z 1 0)) (Z 1 0) j ∧ Z' 7 j = prB (cuF (Z 2) (Z 1 0)) (Z 1 0) j) ∧ Z' 8 = Z 8 ∧ SV Z Z' ∧ ∀ (k : Nat) (j : Int), (k < 4 ∨ 7 < k) → (k < 9 ∨ 12 < k) → (k < 14 ∨ 31 < k) → ¬ (k = 3 ∧ (j = 1 ∨ j = 2)) → k ≠ 32 → (k < 34 + 5 * (Z 32 1).toNat ∨ 38 + 5 * (Z 32 1).toNat < k) → Z' k j = Z k j)) := by
  unfold Mz
  have hl := ht.1
  obtain ⟨p1, p2, p3, p4, p5, p6, p7⟩ := hp
  refine z_aload_n rfl rfl ?_
  refine z_getR rfl rfl rfl rfl ?_
  refine z_aload_n rfl rfl ?_
  refine z_getR rfl rfl rfl rfl ?_
  refine z_callV1g rfl rfl rfl rfl rfl rfl (s_translate ht) (fun r8 Z8 J8 q8 => ?_)
  obtain ⟨rfl, w1, hz | hz⟩ := q8
  · obtain ⟨rfl, n, n1, n2, n3, n4⟩ := hz
    show OkZ none 70 11 _ [_] _ _ _
    refine z_istore_n rfl rfl rfl ?_
    refine z_iload_n rfl rfl ?_
    refine z_iconst rfl ?_
    refine z_icmp_eq rfl (by omega) (by omega) (fun h14 => ?_) (fun h14 => ?_)
    · refine z_aload_n rfl rfl ?_
      refine z_getR rfl rfl rfl rfl ?_
      refine z_aload_n rfl rfl ?_
      refine z_getR rfl rfl rfl rfl ?_
      have e32 : ∀ j, Z8 32 j = Z 32 j := fun j => w1 32 j (by decide) (fun q => absurd q.1 (by decide))
      have hh8 : HB Z8 := by unfold HB; rw [e32, e32]; exact hh
      refine z_callV1g rfl rfl rfl rfl rfl rfl (s_save hh8.1 hh8.2) (fun r30 Z30 J30 q30 => ?_)
      obtain ⟨rfl, rfl, v1, v2, v3, v4⟩ := q30
      show OkZ none 70 33 _ [] _ _ _
      refine z_aload_n rfl rfl ?_
      refine z_getR rfl rfl rfl rfl ?_
      refine z_aload_n rfl rfl ?_
      refine z_getR rfl rfl rfl rfl ?_
      refine z_callV1v rfl rfl rfl rfl rfl rfl (s_takeP SC4 SC9) ?_
      refine z_aload_n rfl rfl ?_
      obtain ⟨Z3, h3⟩ : ∃ Z3, Z3 = tkP Z30 4 9 := ⟨_, rfl⟩
      rw [← h3]
      have y4 : Z3 4 0 = n := by rw [h3]; unfold tkP; rw [cpy_ne (by decide), cpy_ne (by decide), cpy_ne (by decide), up_eq, v4 9 0 (by decide) (by omega)]; exact n2
      have y5 : ∀ j : Int, 0 ≤ j → j < 24 → Z3 5 j = Z8 10 j ∧ Z3 6 j = Z8 11 j ∧ Z3 7 j = Z8 12 j := by
        intro j j0 j1
        rw [← v4 10 j (by decide) (by omega), ← v4 11 j (by decide) (by omega), ← v4 12 j (by decide) (by omega), h3]
        unfold tkP
        refine ⟨?_, ?_, ?_⟩
        · rw [cpy_ne (by decide), cpy_ne (by decide), cpy_eq j0 j1, up_ne (by decide)]
        · rw [cpy_ne (by decide), cpy_eq j0 j1, cpy_ne (by decide), up_ne (by decide)]
        · rw [cpy_eq j0 j1, cpy_ne (by decide), cpy_ne (by decide), up_ne (by decide)]
      have yo : ∀ (k : Nat) (j : Int), (k < 4 ∨ 7 < k) → Z3 k j = Z30 k j := by
        intro k j hk
        rw [h3]
        unfold tkP
        rw [cpy_ne (by omega), cpy_ne (by omega), cpy_ne (by omega), up_ne (by omega)]
      have y8 : Z3 8 = Z 8 := funext fun j => by rw [yo 8 j (by decide), v4 8 j (by decide) (by omega), w1 8 j (by decide) (fun q => absurd q.1 (by decide))]
      have yr : ∀ j : Int, 0 ≤ j → j < (n : Int) → Z3 5 j = prO (cuF (Z 2) (Z 1 0)) (Z 1 0) j ∧ Z3 6 j = prA (cuF (Z 2) (Z 1 0)) (Z 1 0) j ∧ Z3 7 j = prB (cuF (Z 2) (Z 1 0)) (Z 1 0) j := fun j j0 j1 => by
        obtain ⟨q1, q2, q3⟩ := y5 j j0 (by omega)
        rw [q1, q2, q3]
        exact n4 j j0 j1
      have yw := TR_wf n3.1 yr
      have yc : COk (Z3 8) := by rw [y8]; exact p4
      refine z_callV0g rfl rfl rfl rfl rfl rfl (s_analyse y4 n1 (OP_of yw) (gok n1 (OP_of yw) yc)) (fun r45 Z45 J45 q45 => ?_)
      obtain ⟨rfl, rfl, x1, x2, x3⟩ := q45
      show OkZ none 70 48 _ [] _ _ _
      refine z_aload_n rfl rfl ?_
      refine z_getR rfl rfl rfl rfl ?_
      refine z_getI (bi := 0) rfl rfl rfl rfl ?_
      rw [x3 4 0 (by decide), y4]
      have u : ∀ k, k < 14 ∨ k = 28 ∨ 31 < k → Z45 k = Z3 k := fun k hk => funext fun j => x3 k j hk
      have uo : ∀ (k : Nat) (j : Int), 31 < k → Z45 k j = Z30 k j := fun k j hk => by rw [u k (by omega), yo k j (by omega)]
      rw [e32] at v1 v2 v3 v4
      skip
      refine z_iret rfl rfl ⟨rfl, Or.inr ⟨n, rfl, n3, ⟨n1, ?_, ?_, ?_, ?_, ?_, ?_⟩, ?_, ?_, ⟨⟨?_, fun j j0 j1 => ?_, fun j j0 j1 => ?_⟩, ?_, ?_⟩, fun k j k1 k2 k3 k4 k5 k6 => ?_⟩⟩
      · rw [u 4 (by decide)]; exact y4
      · rw [u 5 (by decide), u 6 (by decide), u 7 (by decide)]; exact yw
      · rw [u 8 (by decide)]; exact yc
      · rw [u 5 (by decide), u 7 (by decide)]; exact x1
      · rw [u 5 (by decide), u 7 (by decide), u 8 (by decide)]; exact x2
      · intro y y0 y1; rw [u 28 (by decide), yo 28 y (by decide), v4 28 y (by decide) (by omega), w1 28 y (by decide) (by omega)]; exact p7 y y0 y1
      · rw [u 5 (by decide), u 6 (by decide), u 7 (by decide)]; exact yr
      · rw [u 8 (by decide)]; exact y8
      · rw [uo _ _ (by omega), v1.1]; exact w1 4 0 (by decide) (by decide)
      · obtain ⟨q1, q2, q3⟩ := v1.2.1 j j0 j1
        rw [uo _ _ (by omega), uo _ _ (by omega), uo _ _ (by omega), q1, q2, q3]
        exact ⟨w1 5 j (by decide) (fun q => absurd q.1 (by decide)), w1 6 j (by decide) (fun q => absurd q.1 (by decide)), w1 7 j (by decide) (fun q => absurd q.1 (by decide))⟩
      · rw [uo _ _ (by omega), v1.2.2 j j0 j1]; exact w1 8 j (by decide) (fun q => absurd q.1 (by decide))
      · rw [uo _ _ (by omega), v2]
      · rw [uo _ _ (by omega), v3]
      · rw [u k (by omega), yo k j (by omega), v4 k j k5 k6]; exact w1 k j k2 k4
    · exfalso; omega
  · obtain ⟨e, rfl, e1, e2⟩ := hz
    show OkZ none 70 11 _ [_] _ _ _
    refine z_istore_n rfl rfl rfl ?_
    refine z_iload_n rfl rfl ?_
    refine z_iconst rfl ?_
    refine z_icmp_eq rfl (by omega) (by omega) (fun h14 => ?_) (fun h14 => ?_)
    · exfalso; omega
    · refine z_bipush rfl (by decide) ?_
      refine z_iload_n rfl rfl ?_
      refine z_isub rfl ?_
      exact z_iret rfl rfl ⟨rfl, Or.inl ⟨e, e1, rfl, e2, w1⟩⟩
end
